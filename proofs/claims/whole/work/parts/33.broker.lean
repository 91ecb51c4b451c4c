set_option maxRecDepth 100000 in
set_option maxHeartbeats 4000000 in
theorem mc_X0_init {l : Launch} (hfl : l.stackTraces = false) {G : fG} {S : fMS} {n : Nat} {o : Nat} {p1 : Int32} {p2 : Option Nat} {p3 : Int32} {p4 : Int32} {post : fMS → Nat → Prop} (h : wp_X0_init S n o p1 p2 p3 p4 post) : fCM l yX0_init (.code yX0_init cX0_init 5 none) 1 G [(aR (some o)), (aI p1), (aR p2), (aI p3), (aI p4)] S n (fPV post) := by
  refine fCM_of hfl (by decide) (by intro v hv; simp only [List.mem_cons, List.not_mem_nil, or_false] at hv; rcases hv with rfl | rfl | rfl | rfl | rfl <;> rfl) (Nat.le_of_ble_eq_true rfl) (fun F hF hxn hl hG hr hin hE => ?_)
  subst hl hG
  have hlv : 1 ≤ 1 := Nat.le_refl _
  show fV F S n 0 [some (aR (some o)), some (aI p1), some (aR p2), some (aI p3), some (aI p4)] []
  unfold wp_X0_init at h
  refine fV_aload_n hF dX0_init_0 rfl rfl ?_
  refine fV_obj hF rfl (by omega) fw_875 (Nat.le_of_ble_eq_true rfl) dX0_init_1 ?_
  refine fV_aload_n hF dX0_init_4 rfl rfl ?_
  refine fV_bipush (v := 119) hF dX0_init_5 (by decide) ?_
  obtain ⟨hA1, h⟩ := h
  refine fV_putI (k := 1) (i := 4) hF fK1 tyX0_ok nmX0 rfl hA1 (by decide) rfl fw_884 (Or.inl rfl) (Or.inl rfl) (by decide) (by decide) dX0_init_7 ?_
  obtain ⟨S2, eS2⟩ : ∃ z, z = wI S o 4 (119 : Int32) := ⟨_, rfl⟩
  rw [← eS2]
  have h := h S2 eS2
  have hA3 : isA S2 1 o := by rw [eS2]; exact hA1
  refine fV_aload_n hF dX0_init_10 rfl rfl ?_
  refine fV_iconst (v := 0) hF dX0_init_11 (by decide) ?_
  refine fV_putI (k := 1) (i := 5) hF fK1 tyX0_ok nmX0 rfl hA3 (by decide) rfl fw_886 (Or.inl rfl) (Or.inl rfl) rfl rfl dX0_init_12 ?_
  obtain ⟨S4, eS4⟩ : ∃ z, z = wI S2 o 5 (0 : Int32) := ⟨_, rfl⟩
  rw [← eS4]
  have h := h S4 eS4
  have hA5 : isA S4 1 o := by rw [eS4]; exact hA3
  refine fV_aload_n hF dX0_init_15 rfl rfl ?_
  refine fV_iconst (v := 0) hF dX0_init_16 (by decide) ?_
  refine fV_putI (k := 1) (i := 6) hF fK1 tyX0_ok nmX0 rfl hA5 (by decide) rfl fw_888 (Or.inl rfl) (Or.inl rfl) rfl rfl dX0_init_17 ?_
  obtain ⟨S6, eS6⟩ : ∃ z, z = wI S4 o 6 (0 : Int32) := ⟨_, rfl⟩
  rw [← eS6]
  have h := h S6 eS6
  have hA7 : isA S6 1 o := by rw [eS6]; exact hA5
  refine fV_aload_n hF dX0_init_20 rfl rfl ?_
  refine fV_iconst (v := 0) hF dX0_init_21 (by decide) ?_
  refine fV_putI (k := 1) (i := 7) hF fK1 tyX0_ok nmX0 rfl hA7 (by decide) rfl fw_890 (Or.inl rfl) (Or.inl rfl) rfl rfl dX0_init_22 ?_
  obtain ⟨S8, eS8⟩ : ∃ z, z = wI S6 o 7 (0 : Int32) := ⟨_, rfl⟩
  rw [← eS8]
  have h := h S8 eS8
  have hA9 : isA S8 1 o := by rw [eS8]; exact hA7
  refine fV_aload_n hF dX0_init_25 rfl rfl ?_
  refine fV_iload_n hF dX0_init_26 rfl rfl ?_
  refine fV_putI (k := 1) (i := 0) hF fK1 tyX0_ok nmX0 rfl hA9 (by decide) rfl fw_876 (Or.inl rfl) (Or.inr ⟨rfl, hin, rfl⟩) rfl rfl dX0_init_27 ?_
  obtain ⟨S10, eS10⟩ : ∃ z, z = wI S8 o 0 p1 := ⟨_, rfl⟩
  rw [← eS10]
  have h := h S10 eS10
  have hA11 : isA S10 1 o := by rw [eS10]; exact hA9
  refine fV_aload_n hF dX0_init_30 rfl rfl ?_
  refine fV_aload_n hF dX0_init_31 rfl rfl ?_
  refine fV_putR (k := 1) (i := 1) hF fK1 tyX0_ok nmX0 rfl hA11 (by decide) rfl fw_878 (Or.inl rfl) (Or.inr ⟨rfl, hin, rfl⟩) (rf_nar _ _) (rf_fit (ty := tyX0 1) rfl _) dX0_init_32 ?_
  obtain ⟨S12, eS12⟩ : ∃ z, z = wR S10 o 1 p2 := ⟨_, rfl⟩
  rw [← eS12]
  have h := h S12 eS12
  have hA13 : isA S12 1 o := by rw [eS12]; exact hA11
  refine fV_aload_n hF dX0_init_35 rfl rfl ?_
  refine fV_iload_n hF dX0_init_36 rfl rfl ?_
  refine fV_putI (k := 1) (i := 2) hF fK1 tyX0_ok nmX0 rfl hA13 (by decide) rfl fw_880 (Or.inl rfl) (Or.inr ⟨rfl, hin, rfl⟩) rfl rfl dX0_init_37 ?_
  obtain ⟨S14, eS14⟩ : ∃ z, z = wI S12 o 2 p3 := ⟨_, rfl⟩
  rw [← eS14]
  have h := h S14 eS14
  have hA15 : isA S14 1 o := by rw [eS14]; exact hA13
  refine fV_aload_n hF dX0_init_40 rfl rfl ?_
  refine fV_iload hF dX0_init_41 rfl ?_
  refine fV_putI (k := 1) (i := 3) hF fK1 tyX0_ok nmX0 rfl hA15 (by decide) rfl fw_882 (Or.inl rfl) (Or.inr ⟨rfl, hin, rfl⟩) rfl rfl dX0_init_43 ?_
  obtain ⟨S16, eS16⟩ : ∃ z, z = wI S14 o 3 p4 := ⟨_, rfl⟩
  rw [← eS16]
  have h := h S16 eS16
  have hA17 : isA S16 1 o := by rw [eS16]; exact hA15
  exact fV_vret hF hE.s (by omega) hr dX0_init_46 ⟨rfl, h⟩
set_option maxRecDepth 100000 in
set_option maxHeartbeats 4000000 in
theorem mc_X0_isAlive {l : Launch} (hfl : l.stackTraces = false) {G : fG} {S : fMS} {n : Nat} {o : Nat} {post : Int32 → Prop} (h : wp_X0_isAlive S o post) : fCM l yX0_isAlive (.code yX0_isAlive cX0_isAlive 1 (some .boolean)) 1 G [(aR (some o))] S n (fPI (fun x S' n' => S = S' ∧ n = n' ∧ post x)) := by
  refine fCM_of hfl (by decide) (by intro v hv; simp only [List.mem_cons, List.not_mem_nil, or_false] at hv; rcases hv with rfl <;> rfl) (Nat.le_of_ble_eq_true rfl) (fun F hF hxn hl hG hr hin hE => ?_)
  subst hl hG
  have hlv : 1 ≤ 1 := Nat.le_refl _
  show fV F S n 0 [some (aR (some o))] []
  unfold wp_X0_isAlive at h
  refine fV_aload_n hF dX0_isAlive_0 rfl rfl ?_
  obtain ⟨hA1, h⟩ := h
  refine fV_getI (k := 1) (i := 4) hF fK1 rfl hA1 (by decide) fw_884 (Or.inl rfl) rfl dX0_isAlive_1 ?_
  refine fV_bipush (v := 119) hF dX0_isAlive_4 (by decide) ?_
  refine fV_icmp_eq (tgt := 18) hF dX0_isAlive_6 (by decide) (fun c2 => ?_) (fun c2 => ?_)
  · have h := h.1 c2
    refine fV_iconst (v := 1) hF dX0_isAlive_18 (by decide) ?_
    refine fV_goto (tgt := 23) hF dX0_isAlive_19 (by decide) ?_
    exact fV_iret hF hE.s (by omega) hr (by decide) dX0_isAlive_23 ⟨_, rfl, rfl, rfl, h⟩
  · have h := h.2 c2
    refine fV_aload_n hF dX0_isAlive_9 rfl rfl ?_
    refine fV_getI (k := 1) (i := 4) hF fK1 rfl hA1 (by decide) fw_884 (Or.inl rfl) rfl dX0_isAlive_10 ?_
    refine fV_bipush (v := 114) hF dX0_isAlive_13 (by decide) ?_
    refine fV_icmp_ne (tgt := 22) hF dX0_isAlive_15 (by decide) (fun c3 => ?_) (fun c3 => ?_)
    · have h := h.1 c3
      refine fV_iconst (v := 0) hF dX0_isAlive_22 (by decide) ?_
      exact fV_iret hF hE.s (by omega) hr (by decide) dX0_isAlive_23 ⟨_, rfl, rfl, rfl, h⟩
    · have h := h.2 c3
      refine fV_iconst (v := 1) hF dX0_isAlive_18 (by decide) ?_
      refine fV_goto (tgt := 23) hF dX0_isAlive_19 (by decide) ?_
      exact fV_iret hF hE.s (by omega) hr (by decide) dX0_isAlive_23 ⟨_, rfl, rfl, rfl, h⟩
set_option maxRecDepth 100000 in
set_option maxHeartbeats 4000000 in
theorem mB_X2_changeRuns_2 {F : fX} {lv : Nat} (hlv : 1 ≤ lv) (hF : fOk F cX2_changeRuns RX2 lv) (hxn : xn F = 3) (hr : (xM F).sig.returnType = none) {post : fMS → Nat → Prop} {o : Nat} {p1 : Int32} (hE : fEnd F lv (fPV post)) : ∀ (f : Nat) (S : fMS) (n : Nat) (x2 : Option Nat) (h : wB_X2_changeRuns_2 post o p1 f S n x2), fV F S n 2 [some (aR (some o)), some (aI p1), some (aR x2)] [] := by
  intro f
  induction f with
  | zero => intro _ _ _ h; exact h.elim
  | succ f ih =>
    intro S n x2 h
    simp only [wB_X2_changeRuns_2] at h
    refine fV_aload_n hF dX2_changeRuns_2 rfl rfl ?_
    refine fV_ifnull (tgt := 24) hF dX2_changeRuns_3 (by decide) (fun c1 => ?_) (fun c1 => ?_)
    · have h := h.1 c1
      exact fV_vret hF hE.s (by omega) hr dX2_changeRuns_24 ⟨rfl, h⟩
    · have h := h.2 c1
      refine fV_aload_n hF dX2_changeRuns_6 rfl rfl ?_
      refine fV_dup hF dX2_changeRuns_7 rfl ?_
      obtain ⟨a2, e3, hA4, h⟩ := h
      refine fV_getI (k := 3) (i := 6) hF fK3 e3 hA4 (by decide) fw_86 (Or.inl rfl) rfl dX2_changeRuns_8 ?_
      refine fV_iload_n hF dX2_changeRuns_11 rfl rfl ?_
      refine fV_iadd hF dX2_changeRuns_12 ?_
      refine fV_putI (k := 3) (i := 6) hF fK3 tyX2_ok nmX2 e3 hA4 (by decide) rfl fw_86 (Or.inl rfl) (Or.inl rfl) rfl rfl dX2_changeRuns_13 ?_
      refine fV_aload_n hF dX2_changeRuns_16 rfl rfl ?_
      refine fV_getR (k := 3) (i := 1) hF fK3 e3 hA4 (by decide) fw_76 (Or.inl rfl) rfl dX2_changeRuns_17 ?_
      refine fV_astore_n hF (fun y => [some (aR (some o)), some (aI p1), some (aR y)]) dX2_changeRuns_20 rfl (by rw [hxn]; decide) rfl (fun _ => rfl) (fun r5 er5 => ?_)
      have h := h r5 er5
      refine fV_goto (tgt := 2) hF dX2_changeRuns_21 (by decide) ?_
      refine fV.sub (l' := [some (aR (some o)), some (aI p1), some (aR r5)]) ⟨rfl, ⟨rfl, ⟨rfl, trivial⟩⟩⟩ ?_
      exact ih (wI S a2 6 ((sI S a2 6) + p1)) n r5 h
set_option maxRecDepth 100000 in
set_option maxHeartbeats 4000000 in
theorem mc_X2_changeRuns {l : Launch} (hfl : l.stackTraces = false) {G : fG} {S : fMS} {n : Nat} {o : Nat} {p1 : Int32} {post : fMS → Nat → Prop} (h : wp_X2_changeRuns S n o p1 post) : fCM l yX2_changeRuns (.code yX2_changeRuns cX2_changeRuns 3 none) 1 G [(aR (some o)), (aI p1)] S n (fPV post) := by
  refine fCM_of hfl (by decide) (by intro v hv; simp only [List.mem_cons, List.not_mem_nil, or_false] at hv; rcases hv with rfl | rfl <;> rfl) (Nat.le_of_ble_eq_true rfl) (fun F hF hxn hl hG hr hin hE => ?_)
  subst hl hG
  have hlv : 1 ≤ 1 := Nat.le_refl _
  show fV F S n 0 [some (aR (some o)), some (aI p1), none] []
  unfold wp_X2_changeRuns at h
  refine fV_aload_n hF dX2_changeRuns_0 rfl rfl ?_
  refine fV_astore_n0 hF [some (aR (some o)), some (aI p1), some (aR (some o))] dX2_changeRuns_1 rfl (by rw [hxn]; decide) rfl rfl ?_
  obtain ⟨f1, h⟩ := h
  refine fV.sub (l' := [some (aR (some o)), some (aI p1), some (aR (some o))]) ⟨rfl, ⟨rfl, ⟨rfl, trivial⟩⟩⟩ ?_
  exact mB_X2_changeRuns_2 hlv hF hxn hr hE  f1 S n (some o) h
set_option maxRecDepth 100000 in
set_option maxHeartbeats 4000000 in
theorem mc_X0_takeUnits {l : Launch} (hfl : l.stackTraces = false) {G : fG} {S : fMS} {n : Nat} {o : Nat} {post : fMS → Nat → Prop} (h : wp_X0_takeUnits S n o post) : fCM l yX0_takeUnits (.code yX0_takeUnits cX0_takeUnits 1 none) 2 G [(aR (some o))] S n (fPV post) := by
  refine fCM_of hfl (by decide) (by intro v hv; simp only [List.mem_cons, List.not_mem_nil, or_false] at hv; rcases hv with rfl <;> rfl) (Nat.le_of_ble_eq_true rfl) (fun F hF hxn hl hG hr hin hE => ?_)
  subst hl hG
  have hlv : 2 ≤ 2 := Nat.le_refl _
  show fV F S n 0 [some (aR (some o))] []
  unfold wp_X0_takeUnits at h
  refine fV_aload_n hF dX0_takeUnits_0 rfl rfl ?_
  refine fV_bipush (v := 114) hF dX0_takeUnits_1 (by decide) ?_
  obtain ⟨hA1, h⟩ := h
  refine fV_putI (k := 1) (i := 4) hF fK1 tyX0_ok nmX0 rfl hA1 (by decide) rfl fw_884 (Or.inl rfl) (Or.inl rfl) (by decide) (by decide) dX0_takeUnits_3 ?_
  refine fV_aload_n hF dX0_takeUnits_6 rfl rfl ?_
  refine fV_getR (k := 1) (i := 1) hF fK1 rfl hA1 (by decide) fw_878 (Or.inl rfl) rfl dX0_takeUnits_7 ?_
  refine fV_aload_n hF dX0_takeUnits_10 rfl rfl ?_
  refine fV_getI (k := 1) (i := 2) hF fK1 rfl hA1 (by decide) fw_880 (Or.inl rfl) rfl dX0_takeUnits_11 ?_
  obtain ⟨a2, e3, hA4, h⟩ := h
  refine fV_callV (k := 3) (As := [(aI (sI (wI S o 4 (114 : Int32)) o 2))]) hF (mc_X2_changeRuns hF.2.2.2.2.2.2.2.2.1 h) fK3 e3 hA4 (by omega) fw_711 fw_708 fw_709 fw_710 fw_5 ⟨rfl, by decide, by decide, by decide +kernel⟩ (na := 1) rfl (by decide) (Nat.le_of_ble_eq_true rfl) dX0_takeUnits_14 rfl (fun rv S5 n6 hp => ?_)
  obtain ⟨rfl, h⟩ := hp
  exact fV_vret hF hE.s (by omega) hr dX0_takeUnits_17 ⟨rfl, h⟩
set_option maxRecDepth 100000 in
set_option maxHeartbeats 4000000 in
theorem mc_X0_giveUnitsBack {l : Launch} (hfl : l.stackTraces = false) {G : fG} {S : fMS} {n : Nat} {o : Nat} {post : fMS → Nat → Prop} (h : wp_X0_giveUnitsBack S n o post) : fCM l yX0_giveUnitsBack (.code yX0_giveUnitsBack cX0_giveUnitsBack 1 none) 2 G [(aR (some o))] S n (fPV post) := by
  refine fCM_of hfl (by decide) (by intro v hv; simp only [List.mem_cons, List.not_mem_nil, or_false] at hv; rcases hv with rfl <;> rfl) (Nat.le_of_ble_eq_true rfl) (fun F hF hxn hl hG hr hin hE => ?_)
  subst hl hG
  have hlv : 2 ≤ 2 := Nat.le_refl _
  show fV F S n 0 [some (aR (some o))] []
  unfold wp_X0_giveUnitsBack at h
  refine fV_aload_n hF dX0_giveUnitsBack_0 rfl rfl ?_
  refine fV_bipush (v := 119) hF dX0_giveUnitsBack_1 (by decide) ?_
  obtain ⟨hA1, h⟩ := h
  refine fV_putI (k := 1) (i := 4) hF fK1 tyX0_ok nmX0 rfl hA1 (by decide) rfl fw_884 (Or.inl rfl) (Or.inl rfl) (by decide) (by decide) dX0_giveUnitsBack_3 ?_
  refine fV_aload_n hF dX0_giveUnitsBack_6 rfl rfl ?_
  refine fV_getR (k := 1) (i := 1) hF fK1 rfl hA1 (by decide) fw_878 (Or.inl rfl) rfl dX0_giveUnitsBack_7 ?_
  refine fV_aload_n hF dX0_giveUnitsBack_10 rfl rfl ?_
  refine fV_getI (k := 1) (i := 2) hF fK1 rfl hA1 (by decide) fw_880 (Or.inl rfl) rfl dX0_giveUnitsBack_11 ?_
  refine fV_ineg hF dX0_giveUnitsBack_14 ?_
  obtain ⟨a2, e3, hA4, h⟩ := h
  refine fV_callV (k := 3) (As := [(aI (-(sI (wI S o 4 (119 : Int32)) o 2)))]) hF (mc_X2_changeRuns hF.2.2.2.2.2.2.2.2.1 h) fK3 e3 hA4 (by omega) fw_711 fw_708 fw_709 fw_710 fw_5 ⟨rfl, by decide, by decide, by decide +kernel⟩ (na := 1) rfl (by decide) (Nat.le_of_ble_eq_true rfl) dX0_giveUnitsBack_15 rfl (fun rv S5 n6 hp => ?_)
  obtain ⟨rfl, h⟩ := hp
  exact fV_vret hF hE.s (by omega) hr dX0_giveUnitsBack_18 ⟨rfl, h⟩
set_option maxRecDepth 100000 in
set_option maxHeartbeats 4000000 in
theorem mc_X1_init {l : Launch} (hfl : l.stackTraces = false) {G : fG} {S : fMS} {n : Nat} {o : Nat} {p1 : Option Nat} {p2 : Int32} {p3 : Int32} {post : fMS → Nat → Prop} (h : wp_X1_init S n o p1 p2 p3 post) : fCM l yX1_init (.code yX1_init cX1_init 4 none) 1 G [(aR (some o)), (aR p1), (aI p2), (aI p3)] S n (fPV post) := by
  refine fCM_of hfl (by decide) (by intro v hv; simp only [List.mem_cons, List.not_mem_nil, or_false] at hv; rcases hv with rfl | rfl | rfl | rfl <;> rfl) (Nat.le_of_ble_eq_true rfl) (fun F hF hxn hl hG hr hin hE => ?_)
  subst hl hG
  have hlv : 1 ≤ 1 := Nat.le_refl _
  show fV F S n 0 [some (aR (some o)), some (aR p1), some (aI p2), some (aI p3)] []
  unfold wp_X1_init at h
  refine fV_aload_n hF dX1_init_0 rfl rfl ?_
  refine fV_obj hF rfl (by omega) fw_1031 (Nat.le_of_ble_eq_true rfl) dX1_init_1 ?_
  refine fV_aload_n hF dX1_init_4 rfl rfl ?_
  refine fV_iconst (v := 0) hF dX1_init_5 (by decide) ?_
  obtain ⟨hA1, h⟩ := h
  refine fV_putI (k := 2) (i := 3) hF fK2 tyX1_ok nmX1 rfl hA1 (by decide) rfl fw_1038 (Or.inl rfl) (Or.inl rfl) rfl rfl dX1_init_6 ?_
  obtain ⟨S2, eS2⟩ : ∃ z, z = wI S o 3 (0 : Int32) := ⟨_, rfl⟩
  rw [← eS2]
  have h := h S2 eS2
  have hA3 : isA S2 2 o := by rw [eS2]; exact hA1
  refine fV_aload_n hF dX1_init_9 rfl rfl ?_
  refine fV_aload_n hF dX1_init_10 rfl rfl ?_
  refine fV_putR (k := 2) (i := 0) hF fK2 tyX1_ok nmX1 rfl hA3 (by decide) rfl fw_1032 (Or.inl rfl) (Or.inr ⟨rfl, hin, rfl⟩) (rf_nar _ _) (rf_fit (ty := tyX1 0) rfl _) dX1_init_11 ?_
  obtain ⟨S4, eS4⟩ : ∃ z, z = wR S2 o 0 p1 := ⟨_, rfl⟩
  rw [← eS4]
  have h := h S4 eS4
  have hA5 : isA S4 2 o := by rw [eS4]; exact hA3
  refine fV_aload_n hF dX1_init_14 rfl rfl ?_
  refine fV_iload_n hF dX1_init_15 rfl rfl ?_
  refine fV_putI (k := 2) (i := 1) hF fK2 tyX1_ok nmX1 rfl hA5 (by decide) rfl fw_1034 (Or.inl rfl) (Or.inr ⟨rfl, hin, rfl⟩) rfl rfl dX1_init_16 ?_
  obtain ⟨S6, eS6⟩ : ∃ z, z = wI S4 o 1 p2 := ⟨_, rfl⟩
  rw [← eS6]
  have h := h S6 eS6
  have hA7 : isA S6 2 o := by rw [eS6]; exact hA5
  refine fV_aload_n hF dX1_init_19 rfl rfl ?_
  refine fV_iload_n hF dX1_init_20 rfl rfl ?_
  refine fV_putI (k := 2) (i := 2) hF fK2 tyX1_ok nmX1 rfl hA7 (by decide) rfl fw_1036 (Or.inl rfl) (Or.inr ⟨rfl, hin, rfl⟩) rfl rfl dX1_init_21 ?_
  obtain ⟨S8, eS8⟩ : ∃ z, z = wI S6 o 2 p3 := ⟨_, rfl⟩
  rw [← eS8]
  have h := h S8 eS8
  have hA9 : isA S8 2 o := by rw [eS8]; exact hA7
  exact fV_vret hF hE.s (by omega) hr dX1_init_24 ⟨rfl, h⟩
set_option maxRecDepth 100000 in
set_option maxHeartbeats 4000000 in
theorem mc_X2_init {l : Launch} (hfl : l.stackTraces = false) {G : fG} {S : fMS} {n : Nat} {o : Nat} {p1 : Int32} {p2 : Option Nat} {p3 : Int32} {post : fMS → Nat → Prop} (h : wp_X2_init S n o p1 p2 p3 post) : fCM l yX2_init (.code yX2_init cX2_init 4 none) 4 G [(aR (some o)), (aI p1), (aR p2), (aI p3)] S n (fPV post) := by
  refine fCM_of hfl (by decide) (by intro v hv; simp only [List.mem_cons, List.not_mem_nil, or_false] at hv; rcases hv with rfl | rfl | rfl | rfl <;> rfl) (Nat.le_of_ble_eq_true rfl) (fun F hF hxn hl hG hr hin hE => ?_)
  subst hl hG
  have hlv : 4 ≤ 4 := Nat.le_refl _
  show fV F S n 0 [some (aR (some o)), some (aI p1), some (aR p2), some (aI p3)] []
  unfold wp_X2_init at h
  refine fV_aload_n hF dX2_init_0 rfl rfl ?_
  refine fV_obj hF rfl (by omega) fw_71 (Nat.le_of_ble_eq_true rfl) dX2_init_1 ?_
  refine fV_aload_n hF dX2_init_4 rfl rfl ?_
  obtain ⟨hn1, h⟩ := h
  refine fV_new (k := 6) hF fK6 tyJx4a65c_ok fDef6 (by omega) fw_72 fw_41 fw_4 hn1 dX2_init_5 (fun q2 hq3 hqe4 => ?_)
  have h := h q2 hq3 hqe4
  obtain ⟨S5, eS5⟩ : ∃ z, z = wN S q2 6 0 := ⟨_, rfl⟩
  rw [← eS5]
  have h := h S5 eS5
  have hA6 : isA S5 6 q2 := by rw [eS5]; exact (isA_made (S := S) (k := 6) (N := 0))
  refine fV_dup hF dX2_init_8 rfl ?_
  refine fV_callI (As := []) hF (mc_Jx4a65c_init_da8c8 hF.2.2.2.2.2.2.2.2.1 h) rfl (by omega) fw_44 fw_73 fw_43 fw_4 ⟨by decide, by decide, by decide +kernel⟩ (na := 0) rfl rfl (by decide) (Nat.le_of_ble_eq_true rfl) dX2_init_9 rfl (fun rv S7 n8 hp => ?_)
  obtain ⟨rfl, h⟩ := hp
  obtain ⟨hA9, h⟩ := h
  refine fV_putR (k := 3) (i := 2) hF fK3 tyX2_ok nmX2 rfl hA9 (by decide) rfl fw_78 (Or.inl rfl) (Or.inr ⟨rfl, hin, rfl⟩) (rf_nar _ _) (rf_fit (ty := tyX2 2) rfl _) dX2_init_12 ?_
  obtain ⟨S10, eS10⟩ : ∃ z, z = wR S7 o 2 (some q2) := ⟨_, rfl⟩
  rw [← eS10]
  have h := h S10 eS10
  have hA11 : isA S10 3 o := by rw [eS10]; exact hA9
  refine fV_aload_n hF dX2_init_15 rfl rfl ?_
  refine fV_sipush (v := 500) hF dX2_init_16 (by decide) ?_
  refine fV_putI (k := 3) (i := 4) hF fK3 tyX2_ok nmX2 rfl hA11 (by decide) rfl fw_82 (Or.inl rfl) (Or.inl rfl) rfl rfl dX2_init_19 ?_
  obtain ⟨S12, eS12⟩ : ∃ z, z = wI S10 o 4 (500 : Int32) := ⟨_, rfl⟩
  rw [← eS12]
  have h := h S12 eS12
  have hA13 : isA S12 3 o := by rw [eS12]; exact hA11
  refine fV_aload_n hF dX2_init_22 rfl rfl ?_
  refine fV_iconst (v := 0) hF dX2_init_23 (by decide) ?_
  refine fV_putI (k := 3) (i := 5) hF fK3 tyX2_ok nmX2 rfl hA13 (by decide) rfl fw_84 (Or.inl rfl) (Or.inl rfl) (by decide) (by decide) dX2_init_24 ?_
  obtain ⟨S14, eS14⟩ : ∃ z, z = wI S12 o 5 (0 : Int32) := ⟨_, rfl⟩
  rw [← eS14]
  have h := h S14 eS14
  have hA15 : isA S14 3 o := by rw [eS14]; exact hA13
  refine fV_aload_n hF dX2_init_27 rfl rfl ?_
  refine fV_iconst (v := 0) hF dX2_init_28 (by decide) ?_
  refine fV_putI (k := 3) (i := 6) hF fK3 tyX2_ok nmX2 rfl hA15 (by decide) rfl fw_86 (Or.inl rfl) (Or.inl rfl) rfl rfl dX2_init_29 ?_
  obtain ⟨S16, eS16⟩ : ∃ z, z = wI S14 o 6 (0 : Int32) := ⟨_, rfl⟩
  rw [← eS16]
  have h := h S16 eS16
  have hA17 : isA S16 3 o := by rw [eS16]; exact hA15
  refine fV_aload_n hF dX2_init_32 rfl rfl ?_
  refine fV_lconst (v := 0) hF dX2_init_33 (by decide) ?_
  refine fV_putJ (k := 3) (i := 7) hF fK3 tyX2_ok nmX2 rfl hA17 (by decide) rfl fw_88 (Or.inl rfl) (Or.inl rfl) rfl rfl dX2_init_34 ?_
  obtain ⟨S18, eS18⟩ : ∃ z, z = wJ S16 o 7 (0 : Int64) := ⟨_, rfl⟩
  rw [← eS18]
  have h := h S18 eS18
  have hA19 : isA S18 3 o := by rw [eS18]; exact hA17
  refine fV_aload_n hF dX2_init_37 rfl rfl ?_
  refine fV_iconst (v := 0) hF dX2_init_38 (by decide) ?_
  refine fV_putI (k := 3) (i := 8) hF fK3 tyX2_ok nmX2 rfl hA19 (by decide) rfl fw_90 (Or.inl rfl) (Or.inl rfl) rfl rfl dX2_init_39 ?_
  obtain ⟨S20, eS20⟩ : ∃ z, z = wI S18 o 8 (0 : Int32) := ⟨_, rfl⟩
  rw [← eS20]
  have h := h S20 eS20
  have hA21 : isA S20 3 o := by rw [eS20]; exact hA19
  refine fV_aload_n hF dX2_init_42 rfl rfl ?_
  refine fV_iconst (v := 0) hF dX2_init_43 (by decide) ?_
  refine fV_putI (k := 3) (i := 9) hF fK3 tyX2_ok nmX2 rfl hA21 (by decide) rfl fw_92 (Or.inl rfl) (Or.inl rfl) rfl rfl dX2_init_44 ?_
  obtain ⟨S22, eS22⟩ : ∃ z, z = wI S20 o 9 (0 : Int32) := ⟨_, rfl⟩
  rw [← eS22]
  have h := h S22 eS22
  have hA23 : isA S22 3 o := by rw [eS22]; exact hA21
  refine fV_aload_n hF dX2_init_47 rfl rfl ?_
  refine fV_iconst (v := 0) hF dX2_init_48 (by decide) ?_
  refine fV_putI (k := 3) (i := 10) hF fK3 tyX2_ok nmX2 rfl hA23 (by decide) rfl fw_94 (Or.inl rfl) (Or.inl rfl) rfl rfl dX2_init_49 ?_
  obtain ⟨S24, eS24⟩ : ∃ z, z = wI S22 o 10 (0 : Int32) := ⟨_, rfl⟩
  rw [← eS24]
  have h := h S24 eS24
  have hA25 : isA S24 3 o := by rw [eS24]; exact hA23
  refine fV_aload_n hF dX2_init_52 rfl rfl ?_
  refine fV_iconst (v := 0) hF dX2_init_53 (by decide) ?_
  refine fV_putI (k := 3) (i := 11) hF fK3 tyX2_ok nmX2 rfl hA25 (by decide) rfl fw_96 (Or.inl rfl) (Or.inl rfl) rfl rfl dX2_init_54 ?_
  obtain ⟨S26, eS26⟩ : ∃ z, z = wI S24 o 11 (0 : Int32) := ⟨_, rfl⟩
  rw [← eS26]
  have h := h S26 eS26
  have hA27 : isA S26 3 o := by rw [eS26]; exact hA25
  refine fV_aload_n hF dX2_init_57 rfl rfl ?_
  refine fV_iconst (v := 0) hF dX2_init_58 (by decide) ?_
  refine fV_putI (k := 3) (i := 12) hF fK3 tyX2_ok nmX2 rfl hA27 (by decide) rfl fw_98 (Or.inl rfl) (Or.inl rfl) rfl rfl dX2_init_59 ?_
  obtain ⟨S28, eS28⟩ : ∃ z, z = wI S26 o 12 (0 : Int32) := ⟨_, rfl⟩
  rw [← eS28]
  have h := h S28 eS28
  have hA29 : isA S28 3 o := by rw [eS28]; exact hA27
  refine fV_aload_n hF dX2_init_62 rfl rfl ?_
  refine fV_iconst (v := 0) hF dX2_init_63 (by decide) ?_
  refine fV_putI (k := 3) (i := 13) hF fK3 tyX2_ok nmX2 rfl hA29 (by decide) rfl fw_100 (Or.inl rfl) (Or.inl rfl) rfl rfl dX2_init_64 ?_
  obtain ⟨S30, eS30⟩ : ∃ z, z = wI S28 o 13 (0 : Int32) := ⟨_, rfl⟩
  rw [← eS30]
  have h := h S30 eS30
  have hA31 : isA S30 3 o := by rw [eS30]; exact hA29
  refine fV_aload_n hF dX2_init_67 rfl rfl ?_
  refine fV_iload_n hF dX2_init_68 rfl rfl ?_
  refine fV_putI (k := 3) (i := 0) hF fK3 tyX2_ok nmX2 rfl hA31 (by decide) rfl fw_74 (Or.inl rfl) (Or.inr ⟨rfl, hin, rfl⟩) rfl rfl dX2_init_69 ?_
  obtain ⟨S32, eS32⟩ : ∃ z, z = wI S30 o 0 p1 := ⟨_, rfl⟩
  rw [← eS32]
  have h := h S32 eS32
  have hA33 : isA S32 3 o := by rw [eS32]; exact hA31
  refine fV_aload_n hF dX2_init_72 rfl rfl ?_
  refine fV_aload_n hF dX2_init_73 rfl rfl ?_
  refine fV_putR (k := 3) (i := 1) hF fK3 tyX2_ok nmX2 rfl hA33 (by decide) rfl fw_76 (Or.inl rfl) (Or.inr ⟨rfl, hin, rfl⟩) (rf_nar _ _) (rf_fit (ty := tyX2 1) rfl _) dX2_init_74 ?_
  obtain ⟨S34, eS34⟩ : ∃ z, z = wR S32 o 1 p2 := ⟨_, rfl⟩
  rw [← eS34]
  have h := h S34 eS34
  have hA35 : isA S34 3 o := by rw [eS34]; exact hA33
  refine fV_aload_n hF dX2_init_77 rfl rfl ?_
  refine fV_iload_n hF dX2_init_78 rfl rfl ?_
  refine fV_putI (k := 3) (i := 3) hF fK3 tyX2_ok nmX2 rfl hA35 (by decide) rfl fw_80 (Or.inl rfl) (Or.inl rfl) rfl rfl dX2_init_79 ?_
  obtain ⟨S36, eS36⟩ : ∃ z, z = wI S34 o 3 p3 := ⟨_, rfl⟩
  rw [← eS36]
  have h := h S36 eS36
  have hA37 : isA S36 3 o := by rw [eS36]; exact hA35
  exact fV_vret hF hE.s (by omega) hr dX2_init_82 ⟨rfl, h⟩
set_option maxRecDepth 100000 in
set_option maxHeartbeats 4000000 in
theorem mc_X2_isLeaf {l : Launch} (hfl : l.stackTraces = false) {G : fG} {S : fMS} {n : Nat} {o : Nat} {post : Int32 → Prop} (h : wp_X2_isLeaf S o post) : fCM l yX2_isLeaf (.code yX2_isLeaf cX2_isLeaf 1 (some .boolean)) 2 G [(aR (some o))] S n (fPI (fun x S' n' => S = S' ∧ n = n' ∧ post x)) := by
  refine fCM_of hfl (by decide) (by intro v hv; simp only [List.mem_cons, List.not_mem_nil, or_false] at hv; rcases hv with rfl <;> rfl) (Nat.le_of_ble_eq_true rfl) (fun F hF hxn hl hG hr hin hE => ?_)
  subst hl hG
  have hlv : 2 ≤ 2 := Nat.le_refl _
  show fV F S n 0 [some (aR (some o))] []
  unfold wp_X2_isLeaf at h
  refine fV_aload_n hF dX2_isLeaf_0 rfl rfl ?_
  obtain ⟨hA1, h⟩ := h
  refine fV_getR (k := 3) (i := 2) hF fK3 rfl hA1 (by decide) fw_78 (Or.inl rfl) rfl dX2_isLeaf_1 ?_
  obtain ⟨a2, e3, hA4, h⟩ := h
  refine fV_callV (k := 6) (As := []) hF (mc_Jx4a65c_isEmpty_aae02 hF.2.2.2.2.2.2.2.2.1 h) fK6 e3 hA4 (by omega) fw_868 fw_865 fw_866 fw_867 fw_4 ⟨rfl, by decide, by decide, by decide +kernel⟩ (na := 0) rfl (by decide) (Nat.le_of_ble_eq_true rfl) dX2_isLeaf_4 rfl (fun rv S9 n9 hp => ?_)
  obtain ⟨v5, rfl, rfl, rfl, h⟩ := hp
  obtain ⟨hnr6, h⟩ := h
  exact fV_iret hF hE.s (by omega) hr hnr6 dX2_isLeaf_7 ⟨_, rfl, rfl, rfl, h⟩
set_option maxRecDepth 100000 in
set_option maxHeartbeats 4000000 in
theorem mB_X2_limitsAllow_2 {F : fX} {lv : Nat} (hlv : 1 ≤ lv) (hF : fOk F cX2_limitsAllow RX2 lv) (hxn : xn F = 3) (hr : (xM F).sig.returnType = (some .boolean)) {S : fMS} {n : Nat} {post : Int32 → Prop} {o : Nat} {p1 : Int32} (hE : fEnd F lv (fPI (fun x S' n' => S = S' ∧ n = n' ∧ post x))) : ∀ (f : Nat) (x2 : Option Nat) (h : wB_X2_limitsAllow_2 S post o p1 f x2), fV F S n 2 [some (aR (some o)), some (aI p1), some (aR x2)] [] := by
  intro f
  induction f with
  | zero => intro _ h; exact h.elim
  | succ f ih =>
    intro x2 h
    simp only [wB_X2_limitsAllow_2] at h
    refine fV_aload_n hF dX2_limitsAllow_2 rfl rfl ?_
    obtain ⟨a1, e2, hA3, h⟩ := h
    refine fV_getR (k := 3) (i := 1) hF fK3 e2 hA3 (by decide) fw_76 (Or.inl rfl) rfl dX2_limitsAllow_3 ?_
    refine fV_ifnull (tgt := 32) hF dX2_limitsAllow_6 (by decide) (fun c4 => ?_) (fun c4 => ?_)
    · have h := h.1 c4
      refine fV_iconst (v := 1) hF dX2_limitsAllow_32 (by decide) ?_
      exact fV_iret hF hE.s (by omega) hr (by decide) dX2_limitsAllow_33 ⟨_, rfl, rfl, rfl, h⟩
    · have h := h.2 c4
      refine fV_aload_n hF dX2_limitsAllow_9 rfl rfl ?_
      refine fV_getI (k := 3) (i := 6) hF fK3 e2 hA3 (by decide) fw_86 (Or.inl rfl) rfl dX2_limitsAllow_10 ?_
      refine fV_iload_n hF dX2_limitsAllow_13 rfl rfl ?_
      refine fV_iadd hF dX2_limitsAllow_14 ?_
      refine fV_aload_n hF dX2_limitsAllow_15 rfl rfl ?_
      refine fV_getI (k := 3) (i := 4) hF fK3 e2 hA3 (by decide) fw_82 (Or.inl rfl) rfl dX2_limitsAllow_16 ?_
      refine fV_icmp_le (tgt := 24) hF dX2_limitsAllow_19 (by decide) (fun c5 => ?_) (fun c5 => ?_)
      · have h := h.1 c5
        refine fV_aload_n hF dX2_limitsAllow_24 rfl rfl ?_
        refine fV_getR (k := 3) (i := 1) hF fK3 e2 hA3 (by decide) fw_76 (Or.inl rfl) rfl dX2_limitsAllow_25 ?_
        refine fV_astore_n hF (fun y => [some (aR (some o)), some (aI p1), some (aR y)]) dX2_limitsAllow_28 rfl (by rw [hxn]; decide) rfl (fun _ => rfl) (fun r6 er6 => ?_)
        have h := h r6 er6
        refine fV_goto (tgt := 2) hF dX2_limitsAllow_29 (by decide) ?_
        refine fV.sub (l' := [some (aR (some o)), some (aI p1), some (aR r6)]) ⟨rfl, ⟨rfl, ⟨rfl, trivial⟩⟩⟩ ?_
        exact ih r6 h
      · have h := h.2 c5
        refine fV_iconst (v := 0) hF dX2_limitsAllow_22 (by decide) ?_
        exact fV_iret hF hE.s (by omega) hr (by decide) dX2_limitsAllow_23 ⟨_, rfl, rfl, rfl, h⟩
set_option maxRecDepth 100000 in
set_option maxHeartbeats 4000000 in
theorem mc_X2_limitsAllow {l : Launch} (hfl : l.stackTraces = false) {G : fG} {S : fMS} {n : Nat} {o : Nat} {p1 : Int32} {post : Int32 → Prop} (h : wp_X2_limitsAllow S o p1 post) : fCM l yX2_limitsAllow (.code yX2_limitsAllow cX2_limitsAllow 3 (some .boolean)) 1 G [(aR (some o)), (aI p1)] S n (fPI (fun x S' n' => S = S' ∧ n = n' ∧ post x)) := by
  refine fCM_of hfl (by decide) (by intro v hv; simp only [List.mem_cons, List.not_mem_nil, or_false] at hv; rcases hv with rfl | rfl <;> rfl) (Nat.le_of_ble_eq_true rfl) (fun F hF hxn hl hG hr hin hE => ?_)
  subst hl hG
  have hlv : 1 ≤ 1 := Nat.le_refl _
  show fV F S n 0 [some (aR (some o)), some (aI p1), none] []
  unfold wp_X2_limitsAllow at h
  refine fV_aload_n hF dX2_limitsAllow_0 rfl rfl ?_
  refine fV_astore_n0 hF [some (aR (some o)), some (aI p1), some (aR (some o))] dX2_limitsAllow_1 rfl (by rw [hxn]; decide) rfl rfl ?_
  obtain ⟨f1, h⟩ := h
  refine fV.sub (l' := [some (aR (some o)), some (aI p1), some (aR (some o))]) ⟨rfl, ⟨rfl, ⟨rfl, trivial⟩⟩⟩ ?_
  exact mB_X2_limitsAllow_2 hlv hF hxn hr hE  f1 (some o) h
set_option maxRecDepth 100000 in
set_option maxHeartbeats 4000000 in
theorem mc_X2_usedLessThan {l : Launch} (hfl : l.stackTraces = false) {G : fG} {S : fMS} {n : Nat} {o : Nat} {p1 : Option Nat} {post : Int32 → Prop} (h : wp_X2_usedLessThan S o p1 post) : fCM l yX2_usedLessThan (.code yX2_usedLessThan cX2_usedLessThan 2 (some .boolean)) 1 G [(aR (some o)), (aR p1)] S n (fPI (fun x S' n' => S = S' ∧ n = n' ∧ post x)) := by
  refine fCM_of hfl (by decide) (by intro v hv; simp only [List.mem_cons, List.not_mem_nil, or_false] at hv; rcases hv with rfl | rfl <;> rfl) (Nat.le_of_ble_eq_true rfl) (fun F hF hxn hl hG hr hin hE => ?_)
  subst hl hG
  have hlv : 1 ≤ 1 := Nat.le_refl _
  show fV F S n 0 [some (aR (some o)), some (aR p1)] []
  unfold wp_X2_usedLessThan at h
  refine fV_aload_n hF dX2_usedLessThan_0 rfl rfl ?_
  obtain ⟨hA1, h⟩ := h
  refine fV_getJ (k := 3) (i := 7) hF fK3 rfl hA1 (by decide) fw_88 (Or.inl rfl) rfl dX2_usedLessThan_1 ?_
  refine fV_aload_n hF dX2_usedLessThan_4 rfl rfl ?_
  obtain ⟨a2, e3, hA4, h⟩ := h
  refine fV_getI (k := 3) (i := 3) hF fK3 e3 hA4 (by decide) fw_80 (Or.inl rfl) rfl dX2_usedLessThan_5 ?_
  refine fV_i2l hF dX2_usedLessThan_8 ?_
  refine fV_lmul hF dX2_usedLessThan_9 ?_
  refine fV_aload_n hF dX2_usedLessThan_10 rfl rfl ?_
  refine fV_getJ (k := 3) (i := 7) hF fK3 e3 hA4 (by decide) fw_88 (Or.inl rfl) rfl dX2_usedLessThan_11 ?_
  refine fV_aload_n hF dX2_usedLessThan_14 rfl rfl ?_
  refine fV_getI (k := 3) (i := 3) hF fK3 rfl hA1 (by decide) fw_80 (Or.inl rfl) rfl dX2_usedLessThan_15 ?_
  refine fV_i2l hF dX2_usedLessThan_18 ?_
  refine fV_lmul hF dX2_usedLessThan_19 ?_
  refine fV_lcmp hF dX2_usedLessThan_20 ?_
  refine fV_if_ge (tgt := 28) hF dX2_usedLessThan_21 (by decide) (fun c5 => ?_) (fun c5 => ?_)
  · have h := h.1 c5
    refine fV_iconst (v := 0) hF dX2_usedLessThan_28 (by decide) ?_
    exact fV_iret hF hE.s (by omega) hr (by decide) dX2_usedLessThan_29 ⟨_, rfl, rfl, rfl, h⟩
  · have h := h.2 c5
    refine fV_iconst (v := 1) hF dX2_usedLessThan_24 (by decide) ?_
    refine fV_goto (tgt := 29) hF dX2_usedLessThan_25 (by decide) ?_
    exact fV_iret hF hE.s (by omega) hr (by decide) dX2_usedLessThan_29 ⟨_, rfl, rfl, rfl, h⟩
set_option maxRecDepth 100000 in
set_option maxHeartbeats 4000000 in
theorem mc_X2_settleDemand {l : Launch} (hfl : l.stackTraces = false) {G : fG} {S : fMS} {n : Nat} {o : Nat} {post : fMS → Nat → Prop} (h : wp_X2_settleDemand S n o post) : fCM l yX2_settleDemand (.code yX2_settleDemand cX2_settleDemand 1 none) 1 G [(aR (some o))] S n (fPV post) := by
  refine fCM_of hfl (by decide) (by intro v hv; simp only [List.mem_cons, List.not_mem_nil, or_false] at hv; rcases hv with rfl <;> rfl) (Nat.le_of_ble_eq_true rfl) (fun F hF hxn hl hG hr hin hE => ?_)
  subst hl hG
  have hlv : 1 ≤ 1 := Nat.le_refl _
  show fV F S n 0 [some (aR (some o))] []
  unfold wp_X2_settleDemand at h
  refine fV_aload_n hF dX2_settleDemand_0 rfl rfl ?_
  obtain ⟨hA1, h⟩ := h
  refine fV_getR (k := 3) (i := 1) hF fK3 rfl hA1 (by decide) fw_76 (Or.inl rfl) rfl dX2_settleDemand_1 ?_
  refine fV_ifnull (tgt := 38) hF dX2_settleDemand_4 (by decide) (fun c2 => ?_) (fun c2 => ?_)
  · have h := h.1 c2
    exact fV_vret hF hE.s (by omega) hr dX2_settleDemand_38 ⟨rfl, h⟩
  · have h := h.2 c2
    refine fV_aload_n hF dX2_settleDemand_7 rfl rfl ?_
    refine fV_aload_n hF dX2_settleDemand_8 rfl rfl ?_
    refine fV_getI (k := 3) (i := 8) hF fK3 rfl hA1 (by decide) fw_90 (Or.inl rfl) rfl dX2_settleDemand_9 ?_
    refine fV_aload_n hF dX2_settleDemand_12 rfl rfl ?_
    refine fV_getI (k := 3) (i := 4) hF fK3 rfl hA1 (by decide) fw_82 (Or.inl rfl) rfl dX2_settleDemand_13 ?_
    refine fV_min hF (by omega) (Nat.le_of_ble_eq_true rfl) fw_273 dX2_settleDemand_16 ?_
    refine fV_putI (k := 3) (i := 8) hF fK3 tyX2_ok nmX2 rfl hA1 (by decide) rfl fw_90 (Or.inl rfl) (Or.inl rfl) rfl rfl dX2_settleDemand_19 ?_
    refine fV_aload_n hF dX2_settleDemand_22 rfl rfl ?_
    refine fV_getR (k := 3) (i := 1) hF fK3 rfl hA1 (by decide) fw_76 (Or.inl rfl) rfl dX2_settleDemand_23 ?_
    refine fV_dup hF dX2_settleDemand_26 rfl ?_
    obtain ⟨a3, e4, hA5, h⟩ := h
    refine fV_getI (k := 3) (i := 8) hF fK3 e4 hA5 (by decide) fw_90 (Or.inl rfl) rfl dX2_settleDemand_27 ?_
    refine fV_aload_n hF dX2_settleDemand_30 rfl rfl ?_
    refine fV_getI (k := 3) (i := 8) hF fK3 rfl hA1 (by decide) fw_90 (Or.inl rfl) rfl dX2_settleDemand_31 ?_
    refine fV_iadd hF dX2_settleDemand_34 ?_
    refine fV_putI (k := 3) (i := 8) hF fK3 tyX2_ok nmX2 e4 hA5 (by decide) rfl fw_90 (Or.inl rfl) (Or.inl rfl) rfl rfl dX2_settleDemand_35 ?_
    exact fV_vret hF hE.s (by omega) hr dX2_settleDemand_38 ⟨rfl, h⟩
set_option maxRecDepth 100000 in
set_option maxHeartbeats 4000000 in
theorem mB_X2_neediestChild_4 {F : fX} {lv : Nat} (hlv : 4 ≤ lv) (hF : fOk F cX2_neediestChild RX2 lv) (hxn : xn F = 4) (hr : (xM F).sig.returnType = (some (.object "FairquotaBroker$Team"))) {S : fMS} {n : Nat} {post : Option Nat → Prop} {o : Nat} (hE : fEnd F lv (fPR (fun x S' n' => S = S' ∧ n = n' ∧ post x))) : ∀ (f : Nat) (x1 : Option Nat) (x2 : Int32) (h : wB_X2_neediestChild_4 S post o f x1 x2), fV F S n 4 [some (aR (some o)), some (aR x1), some (aI x2), none] [] := by
  intro f
  induction f with
  | zero => intro _ _ h; exact h.elim
  | succ f ih =>
    intro x1 x2 h
    simp only [wB_X2_neediestChild_4] at h
    refine fV_iload_n hF dX2_neediestChild_4 rfl rfl ?_
    refine fV_aload_n hF dX2_neediestChild_5 rfl rfl ?_
    obtain ⟨hA1, h⟩ := h
    refine fV_getR (k := 3) (i := 2) hF fK3 rfl hA1 (by decide) fw_78 (Or.inl rfl) rfl dX2_neediestChild_6 ?_
    obtain ⟨a2, e3, hA4, h⟩ := h
    refine fV_callV (k := 6) (As := []) hF (mc_Jx4a65c_size_8abf5 hF.2.2.2.2.2.2.2.2.1 h) fK6 e3 hA4 (by omega) fw_233 fw_287 fw_231 fw_232 fw_4 ⟨rfl, by decide, by decide, by decide +kernel⟩ (na := 0) rfl (by decide) (Nat.le_of_ble_eq_true rfl) dX2_neediestChild_9 rfl (fun rv S9 n9 hp => ?_)
    obtain ⟨v5, rfl, rfl, rfl, h⟩ := hp
    refine fV_icmp_ge (tgt := 71) hF dX2_neediestChild_12 (by decide) (fun c6 => ?_) (fun c6 => ?_)
    · have h := h.1 c6
      refine fV_aload_n hF dX2_neediestChild_71 rfl rfl ?_
      exact fV_aret hF hE.s (by omega) hr (Or.inl ⟨_, rfl⟩) dX2_neediestChild_72 ⟨_, rfl, rfl, rfl, h⟩
    · have h := h.2 c6
      refine fV_aload_n hF dX2_neediestChild_15 rfl rfl ?_
      refine fV_getR (k := 3) (i := 2) hF fK3 rfl hA1 (by decide) fw_78 (Or.inl rfl) rfl dX2_neediestChild_16 ?_
      refine fV_iload_n hF dX2_neediestChild_19 rfl rfl ?_
      refine fV_callV (k := 6) (As := [(aI x2)]) hF (mc_Jx4a65c_get_915e3 hF.2.2.2.2.2.2.2.2.1 h) fK6 e3 hA4 (by omega) fw_257 fw_288 fw_255 fw_256 fw_4 ⟨rfl, by decide, by decide, by decide +kernel⟩ (na := 1) rfl (by decide) (Nat.le_of_ble_eq_true rfl) dX2_neediestChild_20 rfl (fun rv S9 n9 hp => ?_)
      obtain ⟨r7, rfl, rfl, rfl, h⟩ := hp
      obtain ⟨a8, e9, hA10, h⟩ := h
      refine fV_castK (k := 3) hF fK3 e9 hA10 fw_289 dX2_neediestChild_23 ?_
      refine fV_astore_n0 hF [some (aR (some o)), some (aR x1), some (aI x2), some (aR r7)] dX2_neediestChild_26 rfl (by rw [hxn]; decide) rfl rfl ?_
      refine fV_aload_n hF dX2_neediestChild_27 rfl rfl ?_
      refine fV_getI (k := 3) (i := 13) hF fK3 e9 hA10 (by decide) fw_100 (Or.inl rfl) rfl dX2_neediestChild_28 ?_
      refine fV_aload_n hF dX2_neediestChild_31 rfl rfl ?_
      refine fV_getI (k := 3) (i := 8) hF fK3 e9 hA10 (by decide) fw_90 (Or.inl rfl) rfl dX2_neediestChild_32 ?_
      refine fV_icmp_ge (tgt := 65) hF dX2_neediestChild_35 (by decide) (fun c11 => ?_) (fun c11 => ?_)
      · have h := h.1 c11
        refine fV_iinc (v := 1) hF (fun y => [some (aR (some o)), some (aR x1), some (aI y), some (aR r7)]) dX2_neediestChild_65 rfl (by decide) (by rw [hxn]; decide) rfl (fun _ => rfl) (fun v12 ev12 => ?_)
        have h := h v12 ev12
        refine fV_goto (tgt := 4) hF dX2_neediestChild_68 (by decide) ?_
        refine fV.sub (l' := [some (aR (some o)), some (aR x1), some (aI v12), none]) ⟨rfl, ⟨rfl, ⟨rfl, trivial⟩⟩⟩ ?_
        exact ih x1 v12 h
      · have h := h.2 c11
        refine fV_aload_n hF dX2_neediestChild_38 rfl rfl ?_
        refine fV_ifnull (tgt := 63) hF dX2_neediestChild_39 (by decide) (fun c13 => ?_) (fun c13 => ?_)
        · have h := h.1 c13
          refine fV_aload_n hF dX2_neediestChild_63 rfl rfl ?_
          refine fV_astore_n0 hF [some (aR (some o)), some (aR r7), some (aI x2), some (aR r7)] dX2_neediestChild_64 rfl (by rw [hxn]; decide) rfl rfl ?_
          refine fV_iinc (v := 1) hF (fun y => [some (aR (some o)), some (aR r7), some (aI y), some (aR r7)]) dX2_neediestChild_65 rfl (by decide) (by rw [hxn]; decide) rfl (fun _ => rfl) (fun v14 ev14 => ?_)
          have h := h v14 ev14
          refine fV_goto (tgt := 4) hF dX2_neediestChild_68 (by decide) ?_
          refine fV.sub (l' := [some (aR (some o)), some (aR r7), some (aI v14), none]) ⟨rfl, ⟨rfl, ⟨rfl, trivial⟩⟩⟩ ?_
          exact ih r7 v14 h
        · have h := h.2 c13
          refine fV_aload_n hF dX2_neediestChild_42 rfl rfl ?_
          refine fV_getI (k := 3) (i := 13) hF fK3 e9 hA10 (by decide) fw_100 (Or.inl rfl) rfl dX2_neediestChild_43 ?_
          refine fV_aload_n hF dX2_neediestChild_46 rfl rfl ?_
          obtain ⟨a15, e16, hA17, h⟩ := h
          refine fV_getI (k := 3) (i := 3) hF fK3 e16 hA17 (by decide) fw_80 (Or.inl rfl) rfl dX2_neediestChild_47 ?_
          refine fV_imul hF dX2_neediestChild_50 ?_
          refine fV_aload_n hF dX2_neediestChild_51 rfl rfl ?_
          refine fV_getI (k := 3) (i := 13) hF fK3 e16 hA17 (by decide) fw_100 (Or.inl rfl) rfl dX2_neediestChild_52 ?_
          refine fV_aload_n hF dX2_neediestChild_55 rfl rfl ?_
          refine fV_getI (k := 3) (i := 3) hF fK3 e9 hA10 (by decide) fw_80 (Or.inl rfl) rfl dX2_neediestChild_56 ?_
          refine fV_imul hF dX2_neediestChild_59 ?_
          refine fV_icmp_ge (tgt := 65) hF dX2_neediestChild_60 (by decide) (fun c18 => ?_) (fun c18 => ?_)
          · have h := h.1 c18
            refine fV_iinc (v := 1) hF (fun y => [some (aR (some o)), some (aR x1), some (aI y), some (aR r7)]) dX2_neediestChild_65 rfl (by decide) (by rw [hxn]; decide) rfl (fun _ => rfl) (fun v19 ev19 => ?_)
            have h := h v19 ev19
            refine fV_goto (tgt := 4) hF dX2_neediestChild_68 (by decide) ?_
            refine fV.sub (l' := [some (aR (some o)), some (aR x1), some (aI v19), none]) ⟨rfl, ⟨rfl, ⟨rfl, trivial⟩⟩⟩ ?_
            exact ih x1 v19 h
          · have h := h.2 c18
            refine fV_aload_n hF dX2_neediestChild_63 rfl rfl ?_
            refine fV_astore_n0 hF [some (aR (some o)), some (aR r7), some (aI x2), some (aR r7)] dX2_neediestChild_64 rfl (by rw [hxn]; decide) rfl rfl ?_
            refine fV_iinc (v := 1) hF (fun y => [some (aR (some o)), some (aR r7), some (aI y), some (aR r7)]) dX2_neediestChild_65 rfl (by decide) (by rw [hxn]; decide) rfl (fun _ => rfl) (fun v20 ev20 => ?_)
            have h := h v20 ev20
            refine fV_goto (tgt := 4) hF dX2_neediestChild_68 (by decide) ?_
            refine fV.sub (l' := [some (aR (some o)), some (aR r7), some (aI v20), none]) ⟨rfl, ⟨rfl, ⟨rfl, trivial⟩⟩⟩ ?_
            exact ih r7 v20 h
set_option maxRecDepth 100000 in
set_option maxHeartbeats 4000000 in
theorem mc_X2_neediestChild {l : Launch} (hfl : l.stackTraces = false) {G : fG} {S : fMS} {n : Nat} {o : Nat} {post : Option Nat → Prop} (h : wp_X2_neediestChild S o post) : fCM l yX2_neediestChild (.code yX2_neediestChild cX2_neediestChild 4 (some (.object "FairquotaBroker$Team"))) 4 G [(aR (some o))] S n (fPR (fun x S' n' => S = S' ∧ n = n' ∧ post x)) := by
  refine fCM_of hfl (by decide) (by intro v hv; simp only [List.mem_cons, List.not_mem_nil, or_false] at hv; rcases hv with rfl <;> rfl) (Nat.le_of_ble_eq_true rfl) (fun F hF hxn hl hG hr hin hE => ?_)
  subst hl hG
  have hlv : 4 ≤ 4 := Nat.le_refl _
  show fV F S n 0 [some (aR (some o)), none, none, none] []
  unfold wp_X2_neediestChild at h
  refine fV_null hF dX2_neediestChild_0 ?_
  refine fV_astore_n0 hF [some (aR (some o)), some (aR none), none, none] dX2_neediestChild_1 rfl (by rw [hxn]; decide) rfl rfl ?_
  refine fV_iconst (v := 0) hF dX2_neediestChild_2 (by decide) ?_
  refine fV_istore_n0 hF [some (aR (some o)), some (aR none), some (aI (0 : Int32)), none] dX2_neediestChild_3 rfl (by rw [hxn]; decide) rfl rfl ?_
  obtain ⟨f1, h⟩ := h
  refine fV.sub (l' := [some (aR (some o)), some (aR none), some (aI (0 : Int32)), none]) ⟨rfl, ⟨rfl, ⟨rfl, trivial⟩⟩⟩ ?_
  exact mB_X2_neediestChild_4 hlv hF hxn hr hE  f1 none (0 : Int32) h
set_option maxRecDepth 100000 in
set_option maxHeartbeats 4000000 in
theorem mB_X2_giveOneByOne_2 {F : fX} {lv : Nat} (hlv : 5 ≤ lv) (hF : fOk F cX2_giveOneByOne RX2 lv) (hxn : xn F = 4) (hr : (xM F).sig.returnType = none) {post : fMS → Nat → Prop} {o : Nat} {p1 : Int32} (hE : fEnd F lv (fPV post)) : ∀ (f : Nat) (S : fMS) (n : Nat) (x2 : Int32) (h : wB_X2_giveOneByOne_2 post o p1 f S n x2), fV F S n 2 [some (aR (some o)), some (aI p1), some (aI x2), none] [] := by
  intro f
  induction f with
  | zero => intro _ _ _ h; exact h.elim
  | succ f ih =>
    intro S n x2 h
    simp only [wB_X2_giveOneByOne_2] at h
    refine fV_iload_n hF dX2_giveOneByOne_2 rfl rfl ?_
    refine fV_iload_n hF dX2_giveOneByOne_3 rfl rfl ?_
    refine fV_icmp_ge (tgt := 32) hF dX2_giveOneByOne_4 (by decide) (fun c1 => ?_) (fun c1 => ?_)
    · have h := h.1 c1
      exact fV_vret hF hE.s (by omega) hr dX2_giveOneByOne_32 ⟨rfl, h⟩
    · have h := h.2 c1
      refine fV_aload_n hF dX2_giveOneByOne_7 rfl rfl ?_
      obtain ⟨hA2, h⟩ := h
      refine fV_callV (k := 3) (As := []) hF (mc_X2_neediestChild hF.2.2.2.2.2.2.2.2.1 h) fK3 rfl hA2 (by omega) fw_297 fw_294 fw_296 fwp_8 fw_5 ⟨rfl, by decide, by decide, by decide +kernel⟩ (na := 0) rfl (by decide) (Nat.le_of_ble_eq_true rfl) dX2_giveOneByOne_8 rfl (fun rv S9 n9 hp => ?_)
      obtain ⟨r3, rfl, rfl, rfl, h⟩ := hp
      refine fV_astore_n0 hF [some (aR (some o)), some (aI p1), some (aI x2), some (aR r3)] dX2_giveOneByOne_11 rfl (by rw [hxn]; decide) rfl rfl ?_
      refine fV_aload_n hF dX2_giveOneByOne_12 rfl rfl ?_
      refine fV_ifnull (tgt := 26) hF dX2_giveOneByOne_13 (by decide) (fun c4 => ?_) (fun c4 => ?_)
      · have h := h.1 c4
        refine fV_iinc (v := 1) hF (fun y => [some (aR (some o)), some (aI p1), some (aI y), some (aR r3)]) dX2_giveOneByOne_26 rfl (by decide) (by rw [hxn]; decide) rfl (fun _ => rfl) (fun v5 ev5 => ?_)
        have h := h v5 ev5
        refine fV_goto (tgt := 2) hF dX2_giveOneByOne_29 (by decide) ?_
        refine fV.sub (l' := [some (aR (some o)), some (aI p1), some (aI v5), none]) ⟨rfl, ⟨rfl, ⟨rfl, trivial⟩⟩⟩ ?_
        exact ih S n v5 h
      · have h := h.2 c4
        refine fV_aload_n hF dX2_giveOneByOne_16 rfl rfl ?_
        refine fV_dup hF dX2_giveOneByOne_17 rfl ?_
        obtain ⟨a6, e7, hA8, h⟩ := h
        refine fV_getI (k := 3) (i := 13) hF fK3 e7 hA8 (by decide) fw_100 (Or.inl rfl) rfl dX2_giveOneByOne_18 ?_
        refine fV_iconst (v := 1) hF dX2_giveOneByOne_21 (by decide) ?_
        refine fV_iadd hF dX2_giveOneByOne_22 ?_
        refine fV_putI (k := 3) (i := 13) hF fK3 tyX2_ok nmX2 e7 hA8 (by decide) rfl fw_100 (Or.inl rfl) (Or.inl rfl) rfl rfl dX2_giveOneByOne_23 ?_
        refine fV_iinc (v := 1) hF (fun y => [some (aR (some o)), some (aI p1), some (aI y), some (aR r3)]) dX2_giveOneByOne_26 rfl (by decide) (by rw [hxn]; decide) rfl (fun _ => rfl) (fun v9 ev9 => ?_)
        have h := h v9 ev9
        refine fV_goto (tgt := 2) hF dX2_giveOneByOne_29 (by decide) ?_
        refine fV.sub (l' := [some (aR (some o)), some (aI p1), some (aI v9), none]) ⟨rfl, ⟨rfl, ⟨rfl, trivial⟩⟩⟩ ?_
        exact ih (wI S a6 13 ((sI S a6 13) + (1 : Int32))) n v9 h
set_option maxRecDepth 100000 in
set_option maxHeartbeats 4000000 in
theorem mc_X2_giveOneByOne {l : Launch} (hfl : l.stackTraces = false) {G : fG} {S : fMS} {n : Nat} {o : Nat} {p1 : Int32} {post : fMS → Nat → Prop} (h : wp_X2_giveOneByOne S n o p1 post) : fCM l yX2_giveOneByOne (.code yX2_giveOneByOne cX2_giveOneByOne 4 none) 5 G [(aR (some o)), (aI p1)] S n (fPV post) := by
  refine fCM_of hfl (by decide) (by intro v hv; simp only [List.mem_cons, List.not_mem_nil, or_false] at hv; rcases hv with rfl | rfl <;> rfl) (Nat.le_of_ble_eq_true rfl) (fun F hF hxn hl hG hr hin hE => ?_)
  subst hl hG
  have hlv : 5 ≤ 5 := Nat.le_refl _
  show fV F S n 0 [some (aR (some o)), some (aI p1), none, none] []
  unfold wp_X2_giveOneByOne at h
  refine fV_iconst (v := 0) hF dX2_giveOneByOne_0 (by decide) ?_
  refine fV_istore_n0 hF [some (aR (some o)), some (aI p1), some (aI (0 : Int32)), none] dX2_giveOneByOne_1 rfl (by rw [hxn]; decide) rfl rfl ?_
  obtain ⟨f1, h⟩ := h
  refine fV.sub (l' := [some (aR (some o)), some (aI p1), some (aI (0 : Int32)), none]) ⟨rfl, ⟨rfl, ⟨rfl, trivial⟩⟩⟩ ?_
  exact mB_X2_giveOneByOne_2 hlv hF hxn hr hE  f1 S n (0 : Int32) h
set_option maxRecDepth 100000 in
set_option maxHeartbeats 4000000 in
theorem mB_X2_dealToChildren_44 {F : fX} {lv : Nat} (hlv : 6 ≤ lv) (hF : fOk F cX2_dealToChildren RX2 lv) (hxn : xn F = 3) (hr : (xM F).sig.returnType = none) {post : fMS → Nat → Prop} {o : Nat} (hE : fEnd F lv (fPV post)) : ∀ (f : Nat) (S : fMS) (n : Nat) (x1 : Int32) (h : wB_X2_dealToChildren_44 post o f S n x1), fV F S n 44 [some (aR (some o)), some (aI x1), none] [] := by
  intro f
  induction f with
  | zero => intro _ _ _ h; exact h.elim
  | succ f ih =>
    intro S n x1 h
    simp only [wB_X2_dealToChildren_44] at h
    refine fV_iload_n hF dX2_dealToChildren_44 rfl rfl ?_
    refine fV_aload_n hF dX2_dealToChildren_45 rfl rfl ?_
    obtain ⟨hA1, h⟩ := h
    refine fV_getR (k := 3) (i := 2) hF fK3 rfl hA1 (by decide) fw_78 (Or.inl rfl) rfl dX2_dealToChildren_46 ?_
    obtain ⟨a2, e3, hA4, h⟩ := h
    refine fV_callV (k := 6) (As := []) hF (mc_Jx4a65c_size_8abf5 hF.2.2.2.2.2.2.2.2.1 h) fK6 e3 hA4 (by omega) fw_233 fw_287 fw_231 fw_232 fw_4 ⟨rfl, by decide, by decide, by decide +kernel⟩ (na := 0) rfl (by decide) (Nat.le_of_ble_eq_true rfl) dX2_dealToChildren_49 rfl (fun rv S9 n9 hp => ?_)
    obtain ⟨v5, rfl, rfl, rfl, h⟩ := hp
    refine fV_icmp_ge (tgt := 81) hF dX2_dealToChildren_52 (by decide) (fun c6 => ?_) (fun c6 => ?_)
    · have h := h.1 c6
      exact fV_vret hF hE.s (by omega) hr dX2_dealToChildren_81 ⟨rfl, h⟩
    · have h := h.2 c6
      refine fV_aload_n hF dX2_dealToChildren_55 rfl rfl ?_
      refine fV_getR (k := 3) (i := 2) hF fK3 rfl hA1 (by decide) fw_78 (Or.inl rfl) rfl dX2_dealToChildren_56 ?_
      refine fV_iload_n hF dX2_dealToChildren_59 rfl rfl ?_
      refine fV_callV (k := 6) (As := [(aI x1)]) hF (mc_Jx4a65c_get_915e3 hF.2.2.2.2.2.2.2.2.1 h) fK6 e3 hA4 (by omega) fw_257 fw_288 fw_255 fw_256 fw_4 ⟨rfl, by decide, by decide, by decide +kernel⟩ (na := 1) rfl (by decide) (Nat.le_of_ble_eq_true rfl) dX2_dealToChildren_60 rfl (fun rv S9 n9 hp => ?_)
      obtain ⟨r7, rfl, rfl, rfl, h⟩ := hp
      obtain ⟨a8, e9, hA10, h⟩ := h
      refine fV_castK (k := 3) hF fK3 e9 hA10 fw_289 dX2_dealToChildren_63 ?_
      refine fV_astore_n0 hF [some (aR (some o)), some (aI x1), some (aR r7)] dX2_dealToChildren_66 rfl (by rw [hxn]; decide) rfl rfl ?_
      refine fV_aload_n hF dX2_dealToChildren_67 rfl rfl ?_
      refine fV_aload_n hF dX2_dealToChildren_68 rfl rfl ?_
      refine fV_getI (k := 3) (i := 13) hF fK3 e9 hA10 (by decide) fw_100 (Or.inl rfl) rfl dX2_dealToChildren_69 ?_
      refine fV_putI (k := 3) (i := 9) hF fK3 tyX2_ok nmX2 e9 hA10 (by decide) rfl fw_92 (Or.inl rfl) (Or.inl rfl) rfl rfl dX2_dealToChildren_72 ?_
      refine fV_iinc (v := 1) hF (fun y => [some (aR (some o)), some (aI y), some (aR r7)]) dX2_dealToChildren_75 rfl (by decide) (by rw [hxn]; decide) rfl (fun _ => rfl) (fun v11 ev11 => ?_)
      have h := h v11 ev11
      refine fV_goto (tgt := 44) hF dX2_dealToChildren_78 (by decide) ?_
      refine fV.sub (l' := [some (aR (some o)), some (aI v11), none]) ⟨rfl, ⟨rfl, trivial⟩⟩ ?_
      exact ih (wI S a8 9 (sI S a8 13)) n v11 h
set_option maxRecDepth 100000 in
set_option maxHeartbeats 4000000 in
theorem mB_X2_dealToChildren_2 {F : fX} {lv : Nat} (hlv : 6 ≤ lv) (hF : fOk F cX2_dealToChildren RX2 lv) (hxn : xn F = 3) (hr : (xM F).sig.returnType = none) {post : fMS → Nat → Prop} {o : Nat} (hE : fEnd F lv (fPV post)) : ∀ (f : Nat) (S : fMS) (n : Nat) (x1 : Int32) (h : wB_X2_dealToChildren_2 post o f S n x1), fV F S n 2 [some (aR (some o)), some (aI x1), none] [] := by
  intro f
  induction f with
  | zero => intro _ _ _ h; exact h.elim
  | succ f ih =>
    intro S n x1 h
    simp only [wB_X2_dealToChildren_2] at h
    refine fV_iload_n hF dX2_dealToChildren_2 rfl rfl ?_
    refine fV_aload_n hF dX2_dealToChildren_3 rfl rfl ?_
    obtain ⟨hA1, h⟩ := h
    refine fV_getR (k := 3) (i := 2) hF fK3 rfl hA1 (by decide) fw_78 (Or.inl rfl) rfl dX2_dealToChildren_4 ?_
    obtain ⟨a2, e3, hA4, h⟩ := h
    refine fV_callV (k := 6) (As := []) hF (mc_Jx4a65c_size_8abf5 hF.2.2.2.2.2.2.2.2.1 h) fK6 e3 hA4 (by omega) fw_233 fw_287 fw_231 fw_232 fw_4 ⟨rfl, by decide, by decide, by decide +kernel⟩ (na := 0) rfl (by decide) (Nat.le_of_ble_eq_true rfl) dX2_dealToChildren_7 rfl (fun rv S9 n9 hp => ?_)
    obtain ⟨v5, rfl, rfl, rfl, h⟩ := hp
    refine fV_icmp_ge (tgt := 34) hF dX2_dealToChildren_10 (by decide) (fun c6 => ?_) (fun c6 => ?_)
    · have h := h.1 c6
      refine fV_aload_n hF dX2_dealToChildren_34 rfl rfl ?_
      refine fV_aload_n hF dX2_dealToChildren_35 rfl rfl ?_
      refine fV_getI (k := 3) (i := 9) hF fK3 rfl hA1 (by decide) fw_92 (Or.inl rfl) rfl dX2_dealToChildren_36 ?_
      refine fV_callV (k := 3) (As := [(aI (sI S o 9))]) hF (mc_X2_giveOneByOne hF.2.2.2.2.2.2.2.2.1 h) fK3 rfl hA1 (by omega) fw_293 fw_290 fw_292 fwp_7 fw_5 ⟨rfl, by decide, by decide, by decide +kernel⟩ (na := 1) rfl (by decide) (Nat.le_of_ble_eq_true rfl) dX2_dealToChildren_39 rfl (fun rv S7 n8 hp => ?_)
      obtain ⟨rfl, h⟩ := hp
      refine fV_iconst (v := 0) hF dX2_dealToChildren_42 (by decide) ?_
      refine fV_istore_n0 hF [some (aR (some o)), some (aI (0 : Int32)), none] dX2_dealToChildren_43 rfl (by rw [hxn]; decide) rfl rfl ?_
      obtain ⟨f1, h⟩ := h
      refine fV.sub (l' := [some (aR (some o)), some (aI (0 : Int32)), none]) ⟨rfl, ⟨rfl, trivial⟩⟩ ?_
      exact mB_X2_dealToChildren_44 hlv hF hxn hr hE  f1 S7 n8 (0 : Int32) h
    · have h := h.2 c6
      refine fV_aload_n hF dX2_dealToChildren_13 rfl rfl ?_
      refine fV_getR (k := 3) (i := 2) hF fK3 rfl hA1 (by decide) fw_78 (Or.inl rfl) rfl dX2_dealToChildren_14 ?_
      refine fV_iload_n hF dX2_dealToChildren_17 rfl rfl ?_
      refine fV_callV (k := 6) (As := [(aI x1)]) hF (mc_Jx4a65c_get_915e3 hF.2.2.2.2.2.2.2.2.1 h) fK6 e3 hA4 (by omega) fw_257 fw_288 fw_255 fw_256 fw_4 ⟨rfl, by decide, by decide, by decide +kernel⟩ (na := 1) rfl (by decide) (Nat.le_of_ble_eq_true rfl) dX2_dealToChildren_18 rfl (fun rv S9 n9 hp => ?_)
      obtain ⟨r9, rfl, rfl, rfl, h⟩ := hp
      obtain ⟨a10, e11, hA12, h⟩ := h
      refine fV_castK (k := 3) hF fK3 e11 hA12 fw_289 dX2_dealToChildren_21 ?_
      refine fV_iconst (v := 0) hF dX2_dealToChildren_24 (by decide) ?_
      refine fV_putI (k := 3) (i := 13) hF fK3 tyX2_ok nmX2 e11 hA12 (by decide) rfl fw_100 (Or.inl rfl) (Or.inl rfl) rfl rfl dX2_dealToChildren_25 ?_
      refine fV_iinc (v := 1) hF (fun y => [some (aR (some o)), some (aI y), none]) dX2_dealToChildren_28 rfl (by decide) (by rw [hxn]; decide) rfl (fun _ => rfl) (fun v13 ev13 => ?_)
      have h := h v13 ev13
      refine fV_goto (tgt := 2) hF dX2_dealToChildren_31 (by decide) ?_
      refine fV.sub (l' := [some (aR (some o)), some (aI v13), none]) ⟨rfl, ⟨rfl, trivial⟩⟩ ?_
      exact ih (wI S a10 13 (0 : Int32)) n v13 h
set_option maxRecDepth 100000 in
set_option maxHeartbeats 4000000 in
theorem mc_X2_dealToChildren {l : Launch} (hfl : l.stackTraces = false) {G : fG} {S : fMS} {n : Nat} {o : Nat} {post : fMS → Nat → Prop} (h : wp_X2_dealToChildren S n o post) : fCM l yX2_dealToChildren (.code yX2_dealToChildren cX2_dealToChildren 3 none) 6 G [(aR (some o))] S n (fPV post) := by
  refine fCM_of hfl (by decide) (by intro v hv; simp only [List.mem_cons, List.not_mem_nil, or_false] at hv; rcases hv with rfl <;> rfl) (Nat.le_of_ble_eq_true rfl) (fun F hF hxn hl hG hr hin hE => ?_)
  subst hl hG
  have hlv : 6 ≤ 6 := Nat.le_refl _
  show fV F S n 0 [some (aR (some o)), none, none] []
  unfold wp_X2_dealToChildren at h
  refine fV_iconst (v := 0) hF dX2_dealToChildren_0 (by decide) ?_
  refine fV_istore_n0 hF [some (aR (some o)), some (aI (0 : Int32)), none] dX2_dealToChildren_1 rfl (by rw [hxn]; decide) rfl rfl ?_
  obtain ⟨f1, h⟩ := h
  refine fV.sub (l' := [some (aR (some o)), some (aI (0 : Int32)), none]) ⟨rfl, ⟨rfl, trivial⟩⟩ ?_
  exact mB_X2_dealToChildren_2 hlv hF hxn hr hE  f1 S n (0 : Int32) h
set_option maxRecDepth 100000 in
set_option maxHeartbeats 4000000 in
theorem mc_X2_unitsAtLevel {l : Launch} (hfl : l.stackTraces = false) {G : fG} {S : fMS} {n : Nat} {o : Nat} {p1 : Int32} {post : Int32 → Prop} (h : wp_X2_unitsAtLevel S o p1 post) : fCM l yX2_unitsAtLevel (.code yX2_unitsAtLevel cX2_unitsAtLevel 2 (some .int)) 1 G [(aR (some o)), (aI p1)] S n (fPI (fun x S' n' => S = S' ∧ n = n' ∧ post x)) := by
  refine fCM_of hfl (by decide) (by intro v hv; simp only [List.mem_cons, List.not_mem_nil, or_false] at hv; rcases hv with rfl | rfl <;> rfl) (Nat.le_of_ble_eq_true rfl) (fun F hF hxn hl hG hr hin hE => ?_)
  subst hl hG
  have hlv : 1 ≤ 1 := Nat.le_refl _
  show fV F S n 0 [some (aR (some o)), some (aI p1)] []
  unfold wp_X2_unitsAtLevel at h
  refine fV_aload_n hF dX2_unitsAtLevel_0 rfl rfl ?_
  obtain ⟨hA1, h⟩ := h
  refine fV_getI (k := 3) (i := 8) hF fK3 rfl hA1 (by decide) fw_90 (Or.inl rfl) rfl dX2_unitsAtLevel_1 ?_
  refine fV_iload_n hF dX2_unitsAtLevel_4 rfl rfl ?_
  refine fV_aload_n hF dX2_unitsAtLevel_5 rfl rfl ?_
  refine fV_getI (k := 3) (i := 3) hF fK3 rfl hA1 (by decide) fw_80 (Or.inl rfl) rfl dX2_unitsAtLevel_6 ?_
  refine fV_imul hF dX2_unitsAtLevel_9 ?_
  refine fV_min hF (by omega) (Nat.le_of_ble_eq_true rfl) fw_273 dX2_unitsAtLevel_10 ?_
  exact fV_iret hF hE.s (by omega) hr rfl dX2_unitsAtLevel_13 ⟨_, rfl, rfl, rfl, h⟩
set_option maxRecDepth 100000 in
set_option maxHeartbeats 4000000 in
theorem mB_X2_childrenUnitsAtLevel_4 {F : fX} {lv : Nat} (hlv : 4 ≤ lv) (hF : fOk F cX2_childrenUnitsAtLevel RX2 lv) (hxn : xn F = 4) (hr : (xM F).sig.returnType = (some .int)) {S : fMS} {n : Nat} {post : Int32 → Prop} {o : Nat} {p1 : Int32} (hE : fEnd F lv (fPI (fun x S' n' => S = S' ∧ n = n' ∧ post x))) : ∀ (f : Nat) (x2 : Int32) (x3 : Int32) (h : wB_X2_childrenUnitsAtLevel_4 S post o p1 f x2 x3), fV F S n 4 [some (aR (some o)), some (aI p1), some (aI x2), some (aI x3)] [] := by
  intro f
  induction f with
  | zero => intro _ _ h; exact h.elim
  | succ f ih =>
    intro x2 x3 h
    simp only [wB_X2_childrenUnitsAtLevel_4] at h
    refine fV_iload_n hF dX2_childrenUnitsAtLevel_4 rfl rfl ?_
    refine fV_aload_n hF dX2_childrenUnitsAtLevel_5 rfl rfl ?_
    obtain ⟨hA1, h⟩ := h
    refine fV_getR (k := 3) (i := 2) hF fK3 rfl hA1 (by decide) fw_78 (Or.inl rfl) rfl dX2_childrenUnitsAtLevel_6 ?_
    obtain ⟨a2, e3, hA4, h⟩ := h
    refine fV_callV (k := 6) (As := []) hF (mc_Jx4a65c_size_8abf5 hF.2.2.2.2.2.2.2.2.1 h) fK6 e3 hA4 (by omega) fw_233 fw_287 fw_231 fw_232 fw_4 ⟨rfl, by decide, by decide, by decide +kernel⟩ (na := 0) rfl (by decide) (Nat.le_of_ble_eq_true rfl) dX2_childrenUnitsAtLevel_9 rfl (fun rv S9 n9 hp => ?_)
    obtain ⟨v5, rfl, rfl, rfl, h⟩ := hp
    refine fV_icmp_ge (tgt := 39) hF dX2_childrenUnitsAtLevel_12 (by decide) (fun c6 => ?_) (fun c6 => ?_)
    · have h := h.1 c6
      refine fV_iload_n hF dX2_childrenUnitsAtLevel_39 rfl rfl ?_
      exact fV_iret hF hE.s (by omega) hr rfl dX2_childrenUnitsAtLevel_40 ⟨_, rfl, rfl, rfl, h⟩
    · have h := h.2 c6
      refine fV_iload_n hF dX2_childrenUnitsAtLevel_15 rfl rfl ?_
      refine fV_aload_n hF dX2_childrenUnitsAtLevel_16 rfl rfl ?_
      refine fV_getR (k := 3) (i := 2) hF fK3 rfl hA1 (by decide) fw_78 (Or.inl rfl) rfl dX2_childrenUnitsAtLevel_17 ?_
      refine fV_iload_n hF dX2_childrenUnitsAtLevel_20 rfl rfl ?_
      refine fV_callV (k := 6) (As := [(aI x3)]) hF (mc_Jx4a65c_get_915e3 hF.2.2.2.2.2.2.2.2.1 h) fK6 e3 hA4 (by omega) fw_257 fw_288 fw_255 fw_256 fw_4 ⟨rfl, by decide, by decide, by decide +kernel⟩ (na := 1) rfl (by decide) (Nat.le_of_ble_eq_true rfl) dX2_childrenUnitsAtLevel_21 rfl (fun rv S9 n9 hp => ?_)
      obtain ⟨r7, rfl, rfl, rfl, h⟩ := hp
      obtain ⟨a8, e9, hA10, h⟩ := h
      refine fV_castK (k := 3) hF fK3 e9 hA10 fw_289 dX2_childrenUnitsAtLevel_24 ?_
      refine fV_iload_n hF dX2_childrenUnitsAtLevel_27 rfl rfl ?_
      refine fV_callV (k := 3) (As := [(aI p1)]) hF (mc_X2_unitsAtLevel hF.2.2.2.2.2.2.2.2.1 h) fK3 e9 hA10 (by omega) fw_323 fw_320 fw_322 fwp_13 fw_5 ⟨rfl, by decide, by decide, by decide +kernel⟩ (na := 1) rfl (by decide) (Nat.le_of_ble_eq_true rfl) dX2_childrenUnitsAtLevel_28 rfl (fun rv S9 n9 hp => ?_)
      obtain ⟨v11, rfl, rfl, rfl, h⟩ := hp
      refine fV_iadd hF dX2_childrenUnitsAtLevel_31 ?_
      refine fV_istore_n hF (fun y => [some (aR (some o)), some (aI p1), some (aI y), some (aI x3)]) dX2_childrenUnitsAtLevel_32 rfl (by rw [hxn]; decide) rfl (fun _ => rfl) (fun v12 ev12 => ?_)
      have h := h v12 ev12
      refine fV_iinc (v := 1) hF (fun y => [some (aR (some o)), some (aI p1), some (aI v12), some (aI y)]) dX2_childrenUnitsAtLevel_33 rfl (by decide) (by rw [hxn]; decide) rfl (fun _ => rfl) (fun v13 ev13 => ?_)
      have h := h v13 ev13
      refine fV_goto (tgt := 4) hF dX2_childrenUnitsAtLevel_36 (by decide) ?_
      refine fV.sub (l' := [some (aR (some o)), some (aI p1), some (aI v12), some (aI v13)]) ⟨rfl, ⟨rfl, ⟨rfl, ⟨rfl, trivial⟩⟩⟩⟩ ?_
      exact ih v12 v13 h
set_option maxRecDepth 100000 in
set_option maxHeartbeats 4000000 in
theorem mc_X2_childrenUnitsAtLevel {l : Launch} (hfl : l.stackTraces = false) {G : fG} {S : fMS} {n : Nat} {o : Nat} {p1 : Int32} {post : Int32 → Prop} (h : wp_X2_childrenUnitsAtLevel S o p1 post) : fCM l yX2_childrenUnitsAtLevel (.code yX2_childrenUnitsAtLevel cX2_childrenUnitsAtLevel 4 (some .int)) 4 G [(aR (some o)), (aI p1)] S n (fPI (fun x S' n' => S = S' ∧ n = n' ∧ post x)) := by
  refine fCM_of hfl (by decide) (by intro v hv; simp only [List.mem_cons, List.not_mem_nil, or_false] at hv; rcases hv with rfl | rfl <;> rfl) (Nat.le_of_ble_eq_true rfl) (fun F hF hxn hl hG hr hin hE => ?_)
  subst hl hG
  have hlv : 4 ≤ 4 := Nat.le_refl _
  show fV F S n 0 [some (aR (some o)), some (aI p1), none, none] []
  unfold wp_X2_childrenUnitsAtLevel at h
  refine fV_iconst (v := 0) hF dX2_childrenUnitsAtLevel_0 (by decide) ?_
  refine fV_istore_n0 hF [some (aR (some o)), some (aI p1), some (aI (0 : Int32)), none] dX2_childrenUnitsAtLevel_1 rfl (by rw [hxn]; decide) rfl rfl ?_
  refine fV_iconst (v := 0) hF dX2_childrenUnitsAtLevel_2 (by decide) ?_
  refine fV_istore_n0 hF [some (aR (some o)), some (aI p1), some (aI (0 : Int32)), some (aI (0 : Int32))] dX2_childrenUnitsAtLevel_3 rfl (by rw [hxn]; decide) rfl rfl ?_
  obtain ⟨f1, h⟩ := h
  refine fV.sub (l' := [some (aR (some o)), some (aI p1), some (aI (0 : Int32)), some (aI (0 : Int32))]) ⟨rfl, ⟨rfl, ⟨rfl, ⟨rfl, trivial⟩⟩⟩⟩ ?_
  exact mB_X2_childrenUnitsAtLevel_4 hlv hF hxn hr hE  f1 (0 : Int32) (0 : Int32) h
set_option maxRecDepth 100000 in
set_option maxHeartbeats 4000000 in
theorem mB_X2_levelWithin_25 {F : fX} {lv : Nat} (hlv : 5 ≤ lv) (hF : fOk F cX2_levelWithin RX2 lv) (hxn : xn F = 4) (hr : (xM F).sig.returnType = (some .int)) {S : fMS} {n : Nat} {post : Int32 → Prop} {K6 : Int32 → Int32 → Prop} {o : Nat} {p1 : Int32} (hE : fEnd F lv (fPI (fun x S' n' => S = S' ∧ n = n' ∧ post x))) (hK6 : ∀ (x2 : Int32) (x3 : Int32), K6 x2 x3 → fV F S n 6 [some (aR (some o)), some (aI p1), some (aI x2), some (aI x3)] []) (x2 : Int32) (x3 : Int32) (h : wB_X2_levelWithin_25 S post K6 o p1 x2 x3) : fV F S n 25 [some (aR (some o)), some (aI p1), some (aI x2), some (aI x3)] [] := by
  unfold wB_X2_levelWithin_25 at h
  refine fV_iload_n hF dX2_levelWithin_25 rfl rfl ?_
  refine fV_iconst (v := 2) hF dX2_levelWithin_26 (by decide) ?_
  refine fV_idiv hF dX2_levelWithin_27 (by decide) ?_
  refine fV_istore_n hF (fun y => [some (aR (some o)), some (aI p1), some (aI x2), some (aI y)]) dX2_levelWithin_28 rfl (by rw [hxn]; decide) rfl (fun _ => rfl) (fun v1 ev1 => ?_)
  have h := h v1 ev1
  refine fV_goto (tgt := 6) hF dX2_levelWithin_29 (by decide) ?_
  refine fV.sub (l' := [some (aR (some o)), some (aI p1), some (aI x2), some (aI v1)]) ⟨rfl, ⟨rfl, ⟨rfl, ⟨rfl, trivial⟩⟩⟩⟩ ?_
  exact hK6 x2 v1 h
set_option maxRecDepth 100000 in
set_option maxHeartbeats 4000000 in
theorem mB_X2_levelWithin_6 {F : fX} {lv : Nat} (hlv : 5 ≤ lv) (hF : fOk F cX2_levelWithin RX2 lv) (hxn : xn F = 4) (hr : (xM F).sig.returnType = (some .int)) {S : fMS} {n : Nat} {post : Int32 → Prop} {o : Nat} {p1 : Int32} (hE : fEnd F lv (fPI (fun x S' n' => S = S' ∧ n = n' ∧ post x))) : ∀ (f : Nat) (x2 : Int32) (x3 : Int32) (h : wB_X2_levelWithin_6 S post o p1 f x2 x3), fV F S n 6 [some (aR (some o)), some (aI p1), some (aI x2), some (aI x3)] [] := by
  intro f
  induction f with
  | zero => intro _ _ h; exact h.elim
  | succ f ih =>
    intro x2 x3 h
    simp only [wB_X2_levelWithin_6] at h
    refine fV_iload_n hF dX2_levelWithin_6 rfl rfl ?_
    refine fV_if_le (tgt := 32) hF dX2_levelWithin_7 (by decide) (fun c1 => ?_) (fun c1 => ?_)
    · have h := h.1 c1
      refine fV_iload_n hF dX2_levelWithin_32 rfl rfl ?_
      exact fV_iret hF hE.s (by omega) hr rfl dX2_levelWithin_33 ⟨_, rfl, rfl, rfl, h⟩
    · have h := h.2 c1
      refine fV_aload_n hF dX2_levelWithin_10 rfl rfl ?_
      refine fV_iload_n hF dX2_levelWithin_11 rfl rfl ?_
      refine fV_iload_n hF dX2_levelWithin_12 rfl rfl ?_
      refine fV_iadd hF dX2_levelWithin_13 ?_
      obtain ⟨hA2, h⟩ := h
      refine fV_callV (k := 3) (As := [(aI (x2 + x3))]) hF (mc_X2_childrenUnitsAtLevel hF.2.2.2.2.2.2.2.2.1 h) fK3 rfl hA2 (by omega) fw_319 fw_316 fw_318 fwp_12 fw_5 ⟨rfl, by decide, by decide, by decide +kernel⟩ (na := 1) rfl (by decide) (Nat.le_of_ble_eq_true rfl) dX2_levelWithin_14 rfl (fun rv S9 n9 hp => ?_)
      obtain ⟨v3, rfl, rfl, rfl, h⟩ := hp
      refine fV_iload_n hF dX2_levelWithin_17 rfl rfl ?_
      refine fV_icmp_gt (tgt := 25) hF dX2_levelWithin_18 (by decide) (fun c4 => ?_) (fun c4 => ?_)
      · have h := h.1 c4
        refine fV.sub (l' := [some (aR (some o)), some (aI p1), some (aI x2), some (aI x3)]) ⟨rfl, ⟨rfl, ⟨rfl, ⟨rfl, trivial⟩⟩⟩⟩ ?_
        exact mB_X2_levelWithin_25 hlv hF hxn hr hE (fun z0 z1 h9 => ih z0 z1 h9) x2 x3 h
      · have h := h.2 c4
        refine fV_iload_n hF dX2_levelWithin_21 rfl rfl ?_
        refine fV_iload_n hF dX2_levelWithin_22 rfl rfl ?_
        refine fV_iadd hF dX2_levelWithin_23 ?_
        refine fV_istore_n hF (fun y => [some (aR (some o)), some (aI p1), some (aI y), some (aI x3)]) dX2_levelWithin_24 rfl (by rw [hxn]; decide) rfl (fun _ => rfl) (fun v5 ev5 => ?_)
        have h := h v5 ev5
        refine fV.sub (l' := [some (aR (some o)), some (aI p1), some (aI v5), some (aI x3)]) ⟨rfl, ⟨rfl, ⟨rfl, ⟨rfl, trivial⟩⟩⟩⟩ ?_
        exact mB_X2_levelWithin_25 hlv hF hxn hr hE (fun z0 z1 h9 => ih z0 z1 h9) v5 x3 h
set_option maxRecDepth 100000 in
set_option maxHeartbeats 4000000 in
theorem mc_X2_levelWithin {l : Launch} (hfl : l.stackTraces = false) {G : fG} {S : fMS} {n : Nat} {o : Nat} {p1 : Int32} {post : Int32 → Prop} (h : wp_X2_levelWithin S o p1 post) : fCM l yX2_levelWithin (.code yX2_levelWithin cX2_levelWithin 4 (some .int)) 5 G [(aR (some o)), (aI p1)] S n (fPI (fun x S' n' => S = S' ∧ n = n' ∧ post x)) := by
  refine fCM_of hfl (by decide) (by intro v hv; simp only [List.mem_cons, List.not_mem_nil, or_false] at hv; rcases hv with rfl | rfl <;> rfl) (Nat.le_of_ble_eq_true rfl) (fun F hF hxn hl hG hr hin hE => ?_)
  subst hl hG
  have hlv : 5 ≤ 5 := Nat.le_refl _
  show fV F S n 0 [some (aR (some o)), some (aI p1), none, none] []
  unfold wp_X2_levelWithin at h
  refine fV_iconst (v := 0) hF dX2_levelWithin_0 (by decide) ?_
  refine fV_istore_n0 hF [some (aR (some o)), some (aI p1), some (aI (0 : Int32)), none] dX2_levelWithin_1 rfl (by rw [hxn]; decide) rfl rfl ?_
  refine fV_sipush (v := 128) hF dX2_levelWithin_2 (by decide) ?_
  refine fV_istore_n0 hF [some (aR (some o)), some (aI p1), some (aI (0 : Int32)), some (aI (128 : Int32))] dX2_levelWithin_5 rfl (by rw [hxn]; decide) rfl rfl ?_
  obtain ⟨f1, h⟩ := h
  refine fV.sub (l' := [some (aR (some o)), some (aI p1), some (aI (0 : Int32)), some (aI (128 : Int32))]) ⟨rfl, ⟨rfl, ⟨rfl, ⟨rfl, trivial⟩⟩⟩⟩ ?_
  exact mB_X2_levelWithin_6 hlv hF hxn hr hE  f1 (0 : Int32) (128 : Int32) h
set_option maxRecDepth 100000 in
set_option maxHeartbeats 4000000 in
theorem mB_X2_fillChildren_65 {F : fX} {lv : Nat} (hlv : 6 ≤ lv) (hF : fOk F cX2_fillChildren RX2 lv) (hxn : xn F = 4) (hr : (xM F).sig.returnType = none) {post : fMS → Nat → Prop} {o : Nat} (hE : fEnd F lv (fPV post)) : ∀ (f : Nat) (S : fMS) (n : Nat) (x2 : Int32) (h : wB_X2_fillChildren_65 post o f S n x2), fV F S n 65 [some (aR (some o)), none, some (aI x2), none] [] := by
  intro f
  induction f with
  | zero => intro _ _ _ h; exact h.elim
  | succ f ih =>
    intro S n x2 h
    simp only [wB_X2_fillChildren_65] at h
    refine fV_iload_n hF dX2_fillChildren_65 rfl rfl ?_
    refine fV_aload_n hF dX2_fillChildren_66 rfl rfl ?_
    obtain ⟨hA1, h⟩ := h
    refine fV_getR (k := 3) (i := 2) hF fK3 rfl hA1 (by decide) fw_78 (Or.inl rfl) rfl dX2_fillChildren_67 ?_
    obtain ⟨a2, e3, hA4, h⟩ := h
    refine fV_callV (k := 6) (As := []) hF (mc_Jx4a65c_size_8abf5 hF.2.2.2.2.2.2.2.2.1 h) fK6 e3 hA4 (by omega) fw_233 fw_287 fw_231 fw_232 fw_4 ⟨rfl, by decide, by decide, by decide +kernel⟩ (na := 0) rfl (by decide) (Nat.le_of_ble_eq_true rfl) dX2_fillChildren_70 rfl (fun rv S9 n9 hp => ?_)
    obtain ⟨v5, rfl, rfl, rfl, h⟩ := hp
    refine fV_icmp_ge (tgt := 102) hF dX2_fillChildren_73 (by decide) (fun c6 => ?_) (fun c6 => ?_)
    · have h := h.1 c6
      exact fV_vret hF hE.s (by omega) hr dX2_fillChildren_102 ⟨rfl, h⟩
    · have h := h.2 c6
      refine fV_aload_n hF dX2_fillChildren_76 rfl rfl ?_
      refine fV_getR (k := 3) (i := 2) hF fK3 rfl hA1 (by decide) fw_78 (Or.inl rfl) rfl dX2_fillChildren_77 ?_
      refine fV_iload_n hF dX2_fillChildren_80 rfl rfl ?_
      refine fV_callV (k := 6) (As := [(aI x2)]) hF (mc_Jx4a65c_get_915e3 hF.2.2.2.2.2.2.2.2.1 h) fK6 e3 hA4 (by omega) fw_257 fw_288 fw_255 fw_256 fw_4 ⟨rfl, by decide, by decide, by decide +kernel⟩ (na := 1) rfl (by decide) (Nat.le_of_ble_eq_true rfl) dX2_fillChildren_81 rfl (fun rv S9 n9 hp => ?_)
      obtain ⟨r7, rfl, rfl, rfl, h⟩ := hp
      obtain ⟨a8, e9, hA10, h⟩ := h
      refine fV_castK (k := 3) hF fK3 e9 hA10 fw_289 dX2_fillChildren_84 ?_
      refine fV_astore_n0 hF [some (aR (some o)), none, some (aI x2), some (aR r7)] dX2_fillChildren_87 rfl (by rw [hxn]; decide) rfl rfl ?_
      refine fV_aload_n hF dX2_fillChildren_88 rfl rfl ?_
      refine fV_aload_n hF dX2_fillChildren_89 rfl rfl ?_
      refine fV_getI (k := 3) (i := 13) hF fK3 e9 hA10 (by decide) fw_100 (Or.inl rfl) rfl dX2_fillChildren_90 ?_
      refine fV_putI (k := 3) (i := 10) hF fK3 tyX2_ok nmX2 e9 hA10 (by decide) rfl fw_94 (Or.inl rfl) (Or.inl rfl) rfl rfl dX2_fillChildren_93 ?_
      refine fV_iinc (v := 1) hF (fun y => [some (aR (some o)), none, some (aI y), some (aR r7)]) dX2_fillChildren_96 rfl (by decide) (by rw [hxn]; decide) rfl (fun _ => rfl) (fun v11 ev11 => ?_)
      have h := h v11 ev11
      refine fV_goto (tgt := 65) hF dX2_fillChildren_99 (by decide) ?_
      refine fV.sub (l' := [some (aR (some o)), none, some (aI v11), none]) ⟨rfl, ⟨rfl, trivial⟩⟩ ?_
      exact ih (wI S a8 10 (sI S a8 13)) n v11 h
set_option maxRecDepth 100000 in
set_option maxHeartbeats 4000000 in
theorem mB_X2_fillChildren_11 {F : fX} {lv : Nat} (hlv : 6 ≤ lv) (hF : fOk F cX2_fillChildren RX2 lv) (hxn : xn F = 4) (hr : (xM F).sig.returnType = none) {post : fMS → Nat → Prop} {o : Nat} (hE : fEnd F lv (fPV post)) : ∀ (f : Nat) (S : fMS) (n : Nat) (x1 : Int32) (x2 : Int32) (h : wB_X2_fillChildren_11 post o f S n x1 x2), fV F S n 11 [some (aR (some o)), some (aI x1), some (aI x2), none] [] := by
  intro f
  induction f with
  | zero => intro _ _ _ _ h; exact h.elim
  | succ f ih =>
    intro S n x1 x2 h
    simp only [wB_X2_fillChildren_11] at h
    refine fV_iload_n hF dX2_fillChildren_11 rfl rfl ?_
    refine fV_aload_n hF dX2_fillChildren_12 rfl rfl ?_
    obtain ⟨hA1, h⟩ := h
    refine fV_getR (k := 3) (i := 2) hF fK3 rfl hA1 (by decide) fw_78 (Or.inl rfl) rfl dX2_fillChildren_13 ?_
    obtain ⟨a2, e3, hA4, h⟩ := h
    refine fV_callV (k := 6) (As := []) hF (mc_Jx4a65c_size_8abf5 hF.2.2.2.2.2.2.2.2.1 h) fK6 e3 hA4 (by omega) fw_233 fw_287 fw_231 fw_232 fw_4 ⟨rfl, by decide, by decide, by decide +kernel⟩ (na := 0) rfl (by decide) (Nat.le_of_ble_eq_true rfl) dX2_fillChildren_16 rfl (fun rv S9 n9 hp => ?_)
    obtain ⟨v5, rfl, rfl, rfl, h⟩ := hp
    refine fV_icmp_ge (tgt := 49) hF dX2_fillChildren_19 (by decide) (fun c6 => ?_) (fun c6 => ?_)
    · have h := h.1 c6
      refine fV_aload_n hF dX2_fillChildren_49 rfl rfl ?_
      refine fV_aload_n hF dX2_fillChildren_50 rfl rfl ?_
      refine fV_getI (k := 3) (i := 10) hF fK3 rfl hA1 (by decide) fw_94 (Or.inl rfl) rfl dX2_fillChildren_51 ?_
      refine fV_aload_n hF dX2_fillChildren_54 rfl rfl ?_
      refine fV_iload_n hF dX2_fillChildren_55 rfl rfl ?_
      refine fV_callV (k := 3) (As := [(aI x1)]) hF (mc_X2_childrenUnitsAtLevel hF.2.2.2.2.2.2.2.2.1 h) fK3 rfl hA1 (by omega) fw_319 fw_316 fw_318 fwp_12 fw_5 ⟨rfl, by decide, by decide, by decide +kernel⟩ (na := 1) rfl (by decide) (Nat.le_of_ble_eq_true rfl) dX2_fillChildren_56 rfl (fun rv S9 n9 hp => ?_)
      obtain ⟨v7, rfl, rfl, rfl, h⟩ := hp
      refine fV_isub hF dX2_fillChildren_59 ?_
      refine fV_callV (k := 3) (As := [(aI ((sI S o 10) - v7))]) hF (mc_X2_giveOneByOne hF.2.2.2.2.2.2.2.2.1 h) fK3 rfl hA1 (by omega) fw_293 fw_290 fw_292 fwp_7 fw_5 ⟨rfl, by decide, by decide, by decide +kernel⟩ (na := 1) rfl (by decide) (Nat.le_of_ble_eq_true rfl) dX2_fillChildren_60 rfl (fun rv S8 n9 hp => ?_)
      obtain ⟨rfl, h⟩ := hp
      refine fV_iconst (v := 0) hF dX2_fillChildren_63 (by decide) ?_
      refine fV_istore_n0 hF [some (aR (some o)), some (aI x1), some (aI (0 : Int32)), none] dX2_fillChildren_64 rfl (by rw [hxn]; decide) rfl rfl ?_
      obtain ⟨f1, h⟩ := h
      refine fV.sub (l' := [some (aR (some o)), none, some (aI (0 : Int32)), none]) ⟨rfl, ⟨rfl, trivial⟩⟩ ?_
      exact mB_X2_fillChildren_65 hlv hF hxn hr hE  f1 S8 n9 (0 : Int32) h
    · have h := h.2 c6
      refine fV_aload_n hF dX2_fillChildren_22 rfl rfl ?_
      refine fV_getR (k := 3) (i := 2) hF fK3 rfl hA1 (by decide) fw_78 (Or.inl rfl) rfl dX2_fillChildren_23 ?_
      refine fV_iload_n hF dX2_fillChildren_26 rfl rfl ?_
      refine fV_callV (k := 6) (As := [(aI x2)]) hF (mc_Jx4a65c_get_915e3 hF.2.2.2.2.2.2.2.2.1 h) fK6 e3 hA4 (by omega) fw_257 fw_288 fw_255 fw_256 fw_4 ⟨rfl, by decide, by decide, by decide +kernel⟩ (na := 1) rfl (by decide) (Nat.le_of_ble_eq_true rfl) dX2_fillChildren_27 rfl (fun rv S9 n9 hp => ?_)
      obtain ⟨r10, rfl, rfl, rfl, h⟩ := hp
      obtain ⟨a11, e12, hA13, h⟩ := h
      refine fV_castK (k := 3) hF fK3 e12 hA13 fw_289 dX2_fillChildren_30 ?_
      refine fV_astore_n0 hF [some (aR (some o)), some (aI x1), some (aI x2), some (aR r10)] dX2_fillChildren_33 rfl (by rw [hxn]; decide) rfl rfl ?_
      refine fV_aload_n hF dX2_fillChildren_34 rfl rfl ?_
      refine fV_aload_n hF dX2_fillChildren_35 rfl rfl ?_
      refine fV_iload_n hF dX2_fillChildren_36 rfl rfl ?_
      refine fV_callV (k := 3) (As := [(aI x1)]) hF (mc_X2_unitsAtLevel hF.2.2.2.2.2.2.2.2.1 h) fK3 e12 hA13 (by omega) fw_323 fw_320 fw_322 fwp_13 fw_5 ⟨rfl, by decide, by decide, by decide +kernel⟩ (na := 1) rfl (by decide) (Nat.le_of_ble_eq_true rfl) dX2_fillChildren_37 rfl (fun rv S9 n9 hp => ?_)
      obtain ⟨v14, rfl, rfl, rfl, h⟩ := hp
      refine fV_putI (k := 3) (i := 13) hF fK3 tyX2_ok nmX2 e12 hA13 (by decide) rfl fw_100 (Or.inl rfl) (Or.inl rfl) rfl rfl dX2_fillChildren_40 ?_
      refine fV_iinc (v := 1) hF (fun y => [some (aR (some o)), some (aI x1), some (aI y), some (aR r10)]) dX2_fillChildren_43 rfl (by decide) (by rw [hxn]; decide) rfl (fun _ => rfl) (fun v15 ev15 => ?_)
      have h := h v15 ev15
      refine fV_goto (tgt := 11) hF dX2_fillChildren_46 (by decide) ?_
      refine fV.sub (l' := [some (aR (some o)), some (aI x1), some (aI v15), none]) ⟨rfl, ⟨rfl, ⟨rfl, trivial⟩⟩⟩ ?_
      exact ih (wI S a11 13 v14) n x1 v15 h
set_option maxRecDepth 100000 in
set_option maxHeartbeats 4000000 in
theorem mc_X2_fillChildren {l : Launch} (hfl : l.stackTraces = false) {G : fG} {S : fMS} {n : Nat} {o : Nat} {post : fMS → Nat → Prop} (h : wp_X2_fillChildren S n o post) : fCM l yX2_fillChildren (.code yX2_fillChildren cX2_fillChildren 4 none) 6 G [(aR (some o))] S n (fPV post) := by
  refine fCM_of hfl (by decide) (by intro v hv; simp only [List.mem_cons, List.not_mem_nil, or_false] at hv; rcases hv with rfl <;> rfl) (Nat.le_of_ble_eq_true rfl) (fun F hF hxn hl hG hr hin hE => ?_)
  subst hl hG
  have hlv : 6 ≤ 6 := Nat.le_refl _
  show fV F S n 0 [some (aR (some o)), none, none, none] []
  unfold wp_X2_fillChildren at h
  refine fV_aload_n hF dX2_fillChildren_0 rfl rfl ?_
  refine fV_aload_n hF dX2_fillChildren_1 rfl rfl ?_
  obtain ⟨hA1, h⟩ := h
  refine fV_getI (k := 3) (i := 10) hF fK3 rfl hA1 (by decide) fw_94 (Or.inl rfl) rfl dX2_fillChildren_2 ?_
  refine fV_callV (k := 3) (As := [(aI (sI S o 10))]) hF (mc_X2_levelWithin hF.2.2.2.2.2.2.2.2.1 h) fK3 rfl hA1 (by omega) fw_315 fw_312 fw_314 fwp_11 fw_5 ⟨rfl, by decide, by decide, by decide +kernel⟩ (na := 1) rfl (by decide) (Nat.le_of_ble_eq_true rfl) dX2_fillChildren_5 rfl (fun rv S9 n9 hp => ?_)
  obtain ⟨v2, rfl, rfl, rfl, h⟩ := hp
  refine fV_istore_n0 hF [some (aR (some o)), some (aI v2), none, none] dX2_fillChildren_8 rfl (by rw [hxn]; decide) rfl rfl ?_
  refine fV_iconst (v := 0) hF dX2_fillChildren_9 (by decide) ?_
  refine fV_istore_n0 hF [some (aR (some o)), some (aI v2), some (aI (0 : Int32)), none] dX2_fillChildren_10 rfl (by rw [hxn]; decide) rfl rfl ?_
  obtain ⟨f1, h⟩ := h
  refine fV.sub (l' := [some (aR (some o)), some (aI v2), some (aI (0 : Int32)), none]) ⟨rfl, ⟨rfl, ⟨rfl, trivial⟩⟩⟩ ?_
  exact mB_X2_fillChildren_11 hlv hF hxn hr hE  f1 S n v2 (0 : Int32) h
set_option maxRecDepth 100000 in
set_option maxHeartbeats 4000000 in
theorem mB_X2_sharesOfChildren_4 {F : fX} {lv : Nat} (hlv : 4 ≤ lv) (hF : fOk F cX2_sharesOfChildren RX2 lv) (hxn : xn F = 3) (hr : (xM F).sig.returnType = (some .int)) {S : fMS} {n : Nat} {post : Int32 → Prop} {o : Nat} (hE : fEnd F lv (fPI (fun x S' n' => S = S' ∧ n = n' ∧ post x))) : ∀ (f : Nat) (x1 : Int32) (x2 : Int32) (h : wB_X2_sharesOfChildren_4 S post o f x1 x2), fV F S n 4 [some (aR (some o)), some (aI x1), some (aI x2)] [] := by
  intro f
  induction f with
  | zero => intro _ _ h; exact h.elim
  | succ f ih =>
    intro x1 x2 h
    simp only [wB_X2_sharesOfChildren_4] at h
    refine fV_iload_n hF dX2_sharesOfChildren_4 rfl rfl ?_
    refine fV_aload_n hF dX2_sharesOfChildren_5 rfl rfl ?_
    obtain ⟨hA1, h⟩ := h
    refine fV_getR (k := 3) (i := 2) hF fK3 rfl hA1 (by decide) fw_78 (Or.inl rfl) rfl dX2_sharesOfChildren_6 ?_
    obtain ⟨a2, e3, hA4, h⟩ := h
    refine fV_callV (k := 6) (As := []) hF (mc_Jx4a65c_size_8abf5 hF.2.2.2.2.2.2.2.2.1 h) fK6 e3 hA4 (by omega) fw_233 fw_287 fw_231 fw_232 fw_4 ⟨rfl, by decide, by decide, by decide +kernel⟩ (na := 0) rfl (by decide) (Nat.le_of_ble_eq_true rfl) dX2_sharesOfChildren_9 rfl (fun rv S9 n9 hp => ?_)
    obtain ⟨v5, rfl, rfl, rfl, h⟩ := hp
    refine fV_icmp_ge (tgt := 38) hF dX2_sharesOfChildren_12 (by decide) (fun c6 => ?_) (fun c6 => ?_)
    · have h := h.1 c6
      refine fV_iload_n hF dX2_sharesOfChildren_38 rfl rfl ?_
      exact fV_iret hF hE.s (by omega) hr rfl dX2_sharesOfChildren_39 ⟨_, rfl, rfl, rfl, h⟩
    · have h := h.2 c6
      refine fV_iload_n hF dX2_sharesOfChildren_15 rfl rfl ?_
      refine fV_aload_n hF dX2_sharesOfChildren_16 rfl rfl ?_
      refine fV_getR (k := 3) (i := 2) hF fK3 rfl hA1 (by decide) fw_78 (Or.inl rfl) rfl dX2_sharesOfChildren_17 ?_
      refine fV_iload_n hF dX2_sharesOfChildren_20 rfl rfl ?_
      refine fV_callV (k := 6) (As := [(aI x2)]) hF (mc_Jx4a65c_get_915e3 hF.2.2.2.2.2.2.2.2.1 h) fK6 e3 hA4 (by omega) fw_257 fw_288 fw_255 fw_256 fw_4 ⟨rfl, by decide, by decide, by decide +kernel⟩ (na := 1) rfl (by decide) (Nat.le_of_ble_eq_true rfl) dX2_sharesOfChildren_21 rfl (fun rv S9 n9 hp => ?_)
      obtain ⟨r7, rfl, rfl, rfl, h⟩ := hp
      obtain ⟨a8, e9, hA10, h⟩ := h
      refine fV_castK (k := 3) hF fK3 e9 hA10 fw_289 dX2_sharesOfChildren_24 ?_
      refine fV_getI (k := 3) (i := 9) hF fK3 e9 hA10 (by decide) fw_92 (Or.inl rfl) rfl dX2_sharesOfChildren_27 ?_
      refine fV_iadd hF dX2_sharesOfChildren_30 ?_
      refine fV_istore_n hF (fun y => [some (aR (some o)), some (aI y), some (aI x2)]) dX2_sharesOfChildren_31 rfl (by rw [hxn]; decide) rfl (fun _ => rfl) (fun v11 ev11 => ?_)
      have h := h v11 ev11
      refine fV_iinc (v := 1) hF (fun y => [some (aR (some o)), some (aI v11), some (aI y)]) dX2_sharesOfChildren_32 rfl (by decide) (by rw [hxn]; decide) rfl (fun _ => rfl) (fun v12 ev12 => ?_)
      have h := h v12 ev12
      refine fV_goto (tgt := 4) hF dX2_sharesOfChildren_35 (by decide) ?_
      refine fV.sub (l' := [some (aR (some o)), some (aI v11), some (aI v12)]) ⟨rfl, ⟨rfl, ⟨rfl, trivial⟩⟩⟩ ?_
      exact ih v11 v12 h
set_option maxRecDepth 100000 in
set_option maxHeartbeats 4000000 in
theorem mc_X2_sharesOfChildren {l : Launch} (hfl : l.stackTraces = false) {G : fG} {S : fMS} {n : Nat} {o : Nat} {post : Int32 → Prop} (h : wp_X2_sharesOfChildren S o post) : fCM l yX2_sharesOfChildren (.code yX2_sharesOfChildren cX2_sharesOfChildren 3 (some .int)) 4 G [(aR (some o))] S n (fPI (fun x S' n' => S = S' ∧ n = n' ∧ post x)) := by
  refine fCM_of hfl (by decide) (by intro v hv; simp only [List.mem_cons, List.not_mem_nil, or_false] at hv; rcases hv with rfl <;> rfl) (Nat.le_of_ble_eq_true rfl) (fun F hF hxn hl hG hr hin hE => ?_)
  subst hl hG
  have hlv : 4 ≤ 4 := Nat.le_refl _
  show fV F S n 0 [some (aR (some o)), none, none] []
  unfold wp_X2_sharesOfChildren at h
  refine fV_iconst (v := 0) hF dX2_sharesOfChildren_0 (by decide) ?_
  refine fV_istore_n0 hF [some (aR (some o)), some (aI (0 : Int32)), none] dX2_sharesOfChildren_1 rfl (by rw [hxn]; decide) rfl rfl ?_
  refine fV_iconst (v := 0) hF dX2_sharesOfChildren_2 (by decide) ?_
  refine fV_istore_n0 hF [some (aR (some o)), some (aI (0 : Int32)), some (aI (0 : Int32))] dX2_sharesOfChildren_3 rfl (by rw [hxn]; decide) rfl rfl ?_
  obtain ⟨f1, h⟩ := h
  refine fV.sub (l' := [some (aR (some o)), some (aI (0 : Int32)), some (aI (0 : Int32))]) ⟨rfl, ⟨rfl, ⟨rfl, trivial⟩⟩⟩ ?_
  exact mB_X2_sharesOfChildren_4 hlv hF hxn hr hE  f1 (0 : Int32) (0 : Int32) h
set_option maxRecDepth 100000 in
set_option maxHeartbeats 4000000 in
theorem mc_X3_init {l : Launch} (hfl : l.stackTraces = false) {G : fG} {S : fMS} {n : Nat} {o : Nat} {post : fMS → Nat → Prop} (h : wp_X3_init S n o post) : fCM l yX3_init (.code yX3_init cX3_init 1 none) 7 G [(aR (some o))] S n (fPV post) := by
  refine fCM_of hfl (by decide) (by intro v hv; simp only [List.mem_cons, List.not_mem_nil, or_false] at hv; rcases hv with rfl <;> rfl) (Nat.le_of_ble_eq_true rfl) (fun F hF hxn hl hG hr hin hE => ?_)
  subst hl hG
  have hlv : 7 ≤ 7 := Nat.le_refl _
  show fV F S n 0 [some (aR (some o))] []
  unfold wp_X3_init at h
  refine fV_aload_n hF dX3_init_0 rfl rfl ?_
  refine fV_obj hF rfl (by omega) fw_37 (Nat.le_of_ble_eq_true rfl) dX3_init_1 ?_
  refine fV_aload_n hF dX3_init_4 rfl rfl ?_
  obtain ⟨hn1, h⟩ := h
  refine fV_new (k := 6) hF fK6 tyJx4a65c_ok fDef6 (by omega) fw_40 fw_41 fw_4 hn1 dX3_init_5 (fun q2 hq3 hqe4 => ?_)
  have h := h q2 hq3 hqe4
  obtain ⟨S5, eS5⟩ : ∃ z, z = wN S q2 6 0 := ⟨_, rfl⟩
  rw [← eS5]
  have h := h S5 eS5
  have hA6 : isA S5 6 q2 := by rw [eS5]; exact (isA_made (S := S) (k := 6) (N := 0))
  refine fV_dup hF dX3_init_8 rfl ?_
  refine fV_callI (As := []) hF (mc_Jx4a65c_init_da8c8 hF.2.2.2.2.2.2.2.2.1 h) rfl (by omega) fw_44 fw_42 fw_43 fw_4 ⟨by decide, by decide, by decide +kernel⟩ (na := 0) rfl rfl (by decide) (Nat.le_of_ble_eq_true rfl) dX3_init_9 rfl (fun rv S7 n8 hp => ?_)
  obtain ⟨rfl, h⟩ := hp
  obtain ⟨hA9, h⟩ := h
  refine fV_putR (k := 4) (i := 0) hF fK4 tyX3_ok nmX3 rfl hA9 (by decide) rfl fw_192 (Or.inl rfl) (Or.inr ⟨rfl, hin, rfl⟩) (rf_nar _ _) (rf_fit (ty := tyX3 0) rfl _) dX3_init_12 ?_
  obtain ⟨S10, eS10⟩ : ∃ z, z = wR S7 o 0 (some q2) := ⟨_, rfl⟩
  rw [← eS10]
  have h := h S10 eS10
  have hA11 : isA S10 4 o := by rw [eS10]; exact hA9
  refine fV_aload_n hF dX3_init_15 rfl rfl ?_
  obtain ⟨hn12, h⟩ := h
  refine fV_new (k := 3) hF fK3 tyX2_ok fDef3 (by omega) fw_66 fw_67 fw_5 hn12 dX3_init_16 (fun q13 hq14 hqe15 => ?_)
  have h := h q13 hq14 hqe15
  obtain ⟨S16, eS16⟩ : ∃ z, z = wN S10 q13 3 0 := ⟨_, rfl⟩
  rw [← eS16]
  have h := h S16 eS16
  have hA17 : isA S16 4 o := by rw [eS16]; exact (isA_new (k := 3) (N := 0) hq14 hA11)
  have hA18 : isA S16 3 q13 := by rw [eS16]; exact (isA_made (S := S10) (k := 3) (N := 0))
  refine fV_dup hF dX3_init_19 rfl ?_
  refine fV_iconst (v := 0) hF dX3_init_20 (by decide) ?_
  refine fV_null hF dX3_init_21 ?_
  refine fV_iconst (v := 1) hF dX3_init_22 (by decide) ?_
  refine fV_callI (As := [(aI (0 : Int32)), (aR none), (aI (1 : Int32))]) hF (mc_X2_init hF.2.2.2.2.2.2.2.2.1 h) rfl (by omega) fw_70 fw_68 fw_69 fw_5 ⟨by decide, by decide, by decide +kernel⟩ (na := 3) rfl rfl (by decide) (Nat.le_of_ble_eq_true rfl) dX3_init_23 rfl (fun rv S19 n20 hp => ?_)
  obtain ⟨rfl, h⟩ := hp
  obtain ⟨hA21, h⟩ := h
  refine fV_putR (k := 4) (i := 1) hF fK4 tyX3_ok nmX3 rfl hA21 (by decide) rfl fw_193 (Or.inl rfl) (Or.inr ⟨rfl, hin, rfl⟩) (rf_nar _ _) (rf_fit (ty := tyX3 1) rfl _) dX3_init_26 ?_
  obtain ⟨S22, eS22⟩ : ∃ z, z = wR S19 o 1 (some q13) := ⟨_, rfl⟩
  rw [← eS22]
  have h := h S22 eS22
  have hA23 : isA S22 4 o := by rw [eS22]; exact hA21
  refine fV_aload_n hF dX3_init_29 rfl rfl ?_
  obtain ⟨hn24, h⟩ := h
  refine fV_new (k := 6) hF fK6 tyJx4a65c_ok fDef6 (by omega) fw_40 fw_41 fw_4 hn24 dX3_init_30 (fun q25 hq26 hqe27 => ?_)
  have h := h q25 hq26 hqe27
  obtain ⟨S28, eS28⟩ : ∃ z, z = wN S22 q25 6 0 := ⟨_, rfl⟩
  rw [← eS28]
  have h := h S28 eS28
  have hA29 : isA S28 4 o := by rw [eS28]; exact (isA_new (k := 6) (N := 0) hq26 hA23)
  have hA30 : isA S28 6 q25 := by rw [eS28]; exact (isA_made (S := S22) (k := 6) (N := 0))
  refine fV_dup hF dX3_init_33 rfl ?_
  refine fV_callI (As := []) hF (mc_Jx4a65c_init_da8c8 hF.2.2.2.2.2.2.2.2.1 h) rfl (by omega) fw_44 fw_42 fw_43 fw_4 ⟨by decide, by decide, by decide +kernel⟩ (na := 0) rfl rfl (by decide) (Nat.le_of_ble_eq_true rfl) dX3_init_34 rfl (fun rv S31 n32 hp => ?_)
  obtain ⟨rfl, h⟩ := hp
  obtain ⟨hA33, h⟩ := h
  refine fV_putR (k := 4) (i := 2) hF fK4 tyX3_ok nmX3 rfl hA33 (by decide) rfl fw_194 (Or.inl rfl) (Or.inr ⟨rfl, hin, rfl⟩) (rf_nar _ _) (rf_fit (ty := tyX3 2) rfl _) dX3_init_37 ?_
  obtain ⟨S34, eS34⟩ : ∃ z, z = wR S31 o 2 (some q25) := ⟨_, rfl⟩
  rw [← eS34]
  have h := h S34 eS34
  have hA35 : isA S34 4 o := by rw [eS34]; exact hA33
  refine fV_aload_n hF dX3_init_40 rfl rfl ?_
  obtain ⟨hn36, h⟩ := h
  refine fV_new (k := 6) hF fK6 tyJx4a65c_ok fDef6 (by omega) fw_40 fw_41 fw_4 hn36 dX3_init_41 (fun q37 hq38 hqe39 => ?_)
  have h := h q37 hq38 hqe39
  obtain ⟨S40, eS40⟩ : ∃ z, z = wN S34 q37 6 0 := ⟨_, rfl⟩
  rw [← eS40]
  have h := h S40 eS40
  have hA41 : isA S40 4 o := by rw [eS40]; exact (isA_new (k := 6) (N := 0) hq38 hA35)
  have hA42 : isA S40 6 q37 := by rw [eS40]; exact (isA_made (S := S34) (k := 6) (N := 0))
  refine fV_dup hF dX3_init_44 rfl ?_
  refine fV_callI (As := []) hF (mc_Jx4a65c_init_da8c8 hF.2.2.2.2.2.2.2.2.1 h) rfl (by omega) fw_44 fw_42 fw_43 fw_4 ⟨by decide, by decide, by decide +kernel⟩ (na := 0) rfl rfl (by decide) (Nat.le_of_ble_eq_true rfl) dX3_init_45 rfl (fun rv S43 n44 hp => ?_)
  obtain ⟨rfl, h⟩ := hp
  obtain ⟨hA45, h⟩ := h
  refine fV_putR (k := 4) (i := 3) hF fK4 tyX3_ok nmX3 rfl hA45 (by decide) rfl fw_195 (Or.inl rfl) (Or.inr ⟨rfl, hin, rfl⟩) (rf_nar _ _) (rf_fit (ty := tyX3 3) rfl _) dX3_init_48 ?_
  obtain ⟨S46, eS46⟩ : ∃ z, z = wR S43 o 3 (some q37) := ⟨_, rfl⟩
  rw [← eS46]
  have h := h S46 eS46
  have hA47 : isA S46 4 o := by rw [eS46]; exact hA45
  refine fV_aload_n hF dX3_init_51 rfl rfl ?_
  obtain ⟨hn48, h⟩ := h
  refine fV_new (k := 6) hF fK6 tyJx4a65c_ok fDef6 (by omega) fw_40 fw_41 fw_4 hn48 dX3_init_52 (fun q49 hq50 hqe51 => ?_)
  have h := h q49 hq50 hqe51
  obtain ⟨S52, eS52⟩ : ∃ z, z = wN S46 q49 6 0 := ⟨_, rfl⟩
  rw [← eS52]
  have h := h S52 eS52
  have hA53 : isA S52 4 o := by rw [eS52]; exact (isA_new (k := 6) (N := 0) hq50 hA47)
  have hA54 : isA S52 6 q49 := by rw [eS52]; exact (isA_made (S := S46) (k := 6) (N := 0))
  refine fV_dup hF dX3_init_55 rfl ?_
  refine fV_callI (As := []) hF (mc_Jx4a65c_init_da8c8 hF.2.2.2.2.2.2.2.2.1 h) rfl (by omega) fw_44 fw_42 fw_43 fw_4 ⟨by decide, by decide, by decide +kernel⟩ (na := 0) rfl rfl (by decide) (Nat.le_of_ble_eq_true rfl) dX3_init_56 rfl (fun rv S55 n56 hp => ?_)
  obtain ⟨rfl, h⟩ := hp
  obtain ⟨hA57, h⟩ := h
  refine fV_putR (k := 4) (i := 4) hF fK4 tyX3_ok nmX3 rfl hA57 (by decide) rfl fw_196 (Or.inl rfl) (Or.inr ⟨rfl, hin, rfl⟩) (rf_nar _ _) (rf_fit (ty := tyX3 4) rfl _) dX3_init_59 ?_
  obtain ⟨S58, eS58⟩ : ∃ z, z = wR S55 o 4 (some q49) := ⟨_, rfl⟩
  rw [← eS58]
  have h := h S58 eS58
  have hA59 : isA S58 4 o := by rw [eS58]; exact hA57
  refine fV_aload_n hF dX3_init_62 rfl rfl ?_
  obtain ⟨hn60, h⟩ := h
  refine fV_new (k := 6) hF fK6 tyJx4a65c_ok fDef6 (by omega) fw_40 fw_41 fw_4 hn60 dX3_init_63 (fun q61 hq62 hqe63 => ?_)
  have h := h q61 hq62 hqe63
  obtain ⟨S64, eS64⟩ : ∃ z, z = wN S58 q61 6 0 := ⟨_, rfl⟩
  rw [← eS64]
  have h := h S64 eS64
  have hA65 : isA S64 4 o := by rw [eS64]; exact (isA_new (k := 6) (N := 0) hq62 hA59)
  have hA66 : isA S64 6 q61 := by rw [eS64]; exact (isA_made (S := S58) (k := 6) (N := 0))
  refine fV_dup hF dX3_init_66 rfl ?_
  refine fV_callI (As := []) hF (mc_Jx4a65c_init_da8c8 hF.2.2.2.2.2.2.2.2.1 h) rfl (by omega) fw_44 fw_42 fw_43 fw_4 ⟨by decide, by decide, by decide +kernel⟩ (na := 0) rfl rfl (by decide) (Nat.le_of_ble_eq_true rfl) dX3_init_67 rfl (fun rv S67 n68 hp => ?_)
  obtain ⟨rfl, h⟩ := hp
  obtain ⟨hA69, h⟩ := h
  refine fV_putR (k := 4) (i := 5) hF fK4 tyX3_ok nmX3 rfl hA69 (by decide) rfl fw_197 (Or.inl rfl) (Or.inr ⟨rfl, hin, rfl⟩) (rf_nar _ _) (rf_fit (ty := tyX3 5) rfl _) dX3_init_70 ?_
  obtain ⟨S70, eS70⟩ : ∃ z, z = wR S67 o 5 (some q61) := ⟨_, rfl⟩
  rw [← eS70]
  have h := h S70 eS70
  have hA71 : isA S70 4 o := by rw [eS70]; exact hA69
  refine fV_aload_n hF dX3_init_73 rfl rfl ?_
  obtain ⟨hn72, h⟩ := h
  refine fV_new (k := 6) hF fK6 tyJx4a65c_ok fDef6 (by omega) fw_40 fw_41 fw_4 hn72 dX3_init_74 (fun q73 hq74 hqe75 => ?_)
  have h := h q73 hq74 hqe75
  obtain ⟨S76, eS76⟩ : ∃ z, z = wN S70 q73 6 0 := ⟨_, rfl⟩
  rw [← eS76]
  have h := h S76 eS76
  have hA77 : isA S76 4 o := by rw [eS76]; exact (isA_new (k := 6) (N := 0) hq74 hA71)
  have hA78 : isA S76 6 q73 := by rw [eS76]; exact (isA_made (S := S70) (k := 6) (N := 0))
  refine fV_dup hF dX3_init_77 rfl ?_
  refine fV_callI (As := []) hF (mc_Jx4a65c_init_da8c8 hF.2.2.2.2.2.2.2.2.1 h) rfl (by omega) fw_44 fw_42 fw_43 fw_4 ⟨by decide, by decide, by decide +kernel⟩ (na := 0) rfl rfl (by decide) (Nat.le_of_ble_eq_true rfl) dX3_init_78 rfl (fun rv S79 n80 hp => ?_)
  obtain ⟨rfl, h⟩ := hp
  obtain ⟨hA81, h⟩ := h
  refine fV_putR (k := 4) (i := 6) hF fK4 tyX3_ok nmX3 rfl hA81 (by decide) rfl fw_198 (Or.inl rfl) (Or.inr ⟨rfl, hin, rfl⟩) (rf_nar _ _) (rf_fit (ty := tyX3 6) rfl _) dX3_init_81 ?_
  obtain ⟨S82, eS82⟩ : ∃ z, z = wR S79 o 6 (some q73) := ⟨_, rfl⟩
  rw [← eS82]
  have h := h S82 eS82
  have hA83 : isA S82 4 o := by rw [eS82]; exact hA81
  refine fV_aload_n hF dX3_init_84 rfl rfl ?_
  refine fV_bipush (v := 20) hF dX3_init_85 (by decide) ?_
  refine fV_putI (k := 4) (i := 7) hF fK4 tyX3_ok nmX3 rfl hA83 (by decide) rfl fw_199 (Or.inl rfl) (Or.inl rfl) rfl rfl dX3_init_87 ?_
  obtain ⟨S84, eS84⟩ : ∃ z, z = wI S82 o 7 (20 : Int32) := ⟨_, rfl⟩
  rw [← eS84]
  have h := h S84 eS84
  have hA85 : isA S84 4 o := by rw [eS84]; exact hA83
  refine fV_aload_n hF dX3_init_90 rfl rfl ?_
  refine fV_bipush (v := 10) hF dX3_init_91 (by decide) ?_
  refine fV_putI (k := 4) (i := 8) hF fK4 tyX3_ok nmX3 rfl hA85 (by decide) rfl fw_200 (Or.inl rfl) (Or.inl rfl) rfl rfl dX3_init_93 ?_
  obtain ⟨S86, eS86⟩ : ∃ z, z = wI S84 o 8 (10 : Int32) := ⟨_, rfl⟩
  rw [← eS86]
  have h := h S86 eS86
  have hA87 : isA S86 4 o := by rw [eS86]; exact hA85
  refine fV_aload_n hF dX3_init_96 rfl rfl ?_
  refine fV_iconst (v := 0) hF dX3_init_97 (by decide) ?_
  refine fV_putI (k := 4) (i := 9) hF fK4 tyX3_ok nmX3 rfl hA87 (by decide) rfl fw_201 (Or.inl rfl) (Or.inl rfl) rfl rfl dX3_init_98 ?_
  obtain ⟨S88, eS88⟩ : ∃ z, z = wI S86 o 9 (0 : Int32) := ⟨_, rfl⟩
  rw [← eS88]
  have h := h S88 eS88
  have hA89 : isA S88 4 o := by rw [eS88]; exact hA87
  refine fV_aload_n hF dX3_init_101 rfl rfl ?_
  refine fV_iconst (v := 0) hF dX3_init_102 (by decide) ?_
  refine fV_putI (k := 4) (i := 10) hF fK4 tyX3_ok nmX3 rfl hA89 (by decide) rfl fw_202 (Or.inl rfl) (Or.inl rfl) rfl rfl dX3_init_103 ?_
  obtain ⟨S90, eS90⟩ : ∃ z, z = wI S88 o 10 (0 : Int32) := ⟨_, rfl⟩
  rw [← eS90]
  have h := h S90 eS90
  have hA91 : isA S90 4 o := by rw [eS90]; exact hA89
  refine fV_aload_n hF dX3_init_106 rfl rfl ?_
  refine fV_getR (k := 4) (i := 0) hF fK4 rfl hA91 (by decide) fw_192 (Or.inl rfl) rfl dX3_init_107 ?_
  refine fV_aload_n hF dX3_init_110 rfl rfl ?_
  refine fV_getR (k := 4) (i := 1) hF fK4 rfl hA91 (by decide) fw_193 (Or.inl rfl) rfl dX3_init_111 ?_
  obtain ⟨a92, e93, hA94, h⟩ := h
  refine fV_callV (k := 6) (As := [(aR (sR S90 o 1))]) hF (mc_Jx4a65c_add_9ea2d hF.2.2.2.2.2.2.2.2.1 h) fK6 e93 hA94 (by omega) fw_133 fw_130 fw_131 fw_132 fw_4 ⟨rfl, by decide, by decide, by decide +kernel⟩ (na := 1) rfl (by decide) (Nat.le_of_ble_eq_true rfl) dX3_init_114 rfl (fun rv S96 n97 hp => ?_)
  obtain ⟨v95, rfl, h⟩ := hp
  refine fV_pop hF dX3_init_117 rfl ?_
  exact fV_vret hF hE.s (by omega) hr dX3_init_118 ⟨rfl, h⟩
set_option maxRecDepth 100000 in
set_option maxHeartbeats 4000000 in
theorem mc_X3_teamAt {l : Launch} (hfl : l.stackTraces = false) {G : fG} {S : fMS} {n : Nat} {o : Nat} {p1 : Int32} {post : Option Nat → Prop} {postX : String → fMS → Nat → Prop} (h : wp_X3_teamAt S n o p1 post postX) : fCX l yX3_teamAt (.code yX3_teamAt cX3_teamAt 2 (some (.object "FairquotaBroker$Team"))) 4 G [(aR (some o)), (aI p1)] S n (fPR (fun x S' n' => S = S' ∧ n = n' ∧ post x)) postX := by
  refine fCX_of hfl (by decide) (by intro v hv; simp only [List.mem_cons, List.not_mem_nil, or_false] at hv; rcases hv with rfl | rfl <;> rfl) (Nat.le_of_ble_eq_true rfl) (fun F hF hxn hl hG hr hin hex hE => ?_)
  subst hl hG
  have hlv : 4 ≤ 4 := Nat.le_refl _
  show fV F S n 0 [some (aR (some o)), some (aI p1)] []
  unfold wp_X3_teamAt at h
  refine fV_iload_n hF dX3_teamAt_0 rfl rfl ?_
  refine fV_if_lt (tgt := 15) hF dX3_teamAt_1 (by decide) (fun c1 => ?_) (fun c1 => ?_)
  · have h := h.1 c1
    exact fV_throw (text := "no such team") hF hE hex h.1 h.2 (by omega) (Nat.le_of_ble_eq_true rfl) rfl fw_745 fw_14 (by decide) vxw_252 (by decide) dX3_teamAt_15 dX3_teamAt_18 dX3_teamAt_19 dX3_teamAt_21 dX3_teamAt_24
  · have h := h.2 c1
    refine fV_iload_n hF dX3_teamAt_4 rfl rfl ?_
    refine fV_aload_n hF dX3_teamAt_5 rfl rfl ?_
    obtain ⟨hA2, h⟩ := h
    refine fV_getR (k := 4) (i := 0) hF fK4 rfl hA2 (by decide) fw_192 (Or.inl rfl) rfl dX3_teamAt_6 ?_
    obtain ⟨a3, e4, hA5, h⟩ := h
    refine fV_callV (k := 6) (As := []) hF (mc_Jx4a65c_size_8abf5 hF.2.2.2.2.2.2.2.2.1 h) fK6 e4 hA5 (by omega) fw_233 fw_230 fw_231 fw_232 fw_4 ⟨rfl, by decide, by decide, by decide +kernel⟩ (na := 0) rfl (by decide) (Nat.le_of_ble_eq_true rfl) dX3_teamAt_9 rfl (fun rv S9 n9 hp => ?_)
    obtain ⟨v6, rfl, rfl, rfl, h⟩ := hp
    refine fV_icmp_lt (tgt := 25) hF dX3_teamAt_12 (by decide) (fun c7 => ?_) (fun c7 => ?_)
    · have h := h.1 c7
      refine fV_aload_n hF dX3_teamAt_25 rfl rfl ?_
      refine fV_getR (k := 4) (i := 0) hF fK4 rfl hA2 (by decide) fw_192 (Or.inl rfl) rfl dX3_teamAt_26 ?_
      refine fV_iload_n hF dX3_teamAt_29 rfl rfl ?_
      refine fV_callV (k := 6) (As := [(aI p1)]) hF (mc_Jx4a65c_get_915e3 hF.2.2.2.2.2.2.2.2.1 h) fK6 e4 hA5 (by omega) fw_257 fw_254 fw_255 fw_256 fw_4 ⟨rfl, by decide, by decide, by decide +kernel⟩ (na := 1) rfl (by decide) (Nat.le_of_ble_eq_true rfl) dX3_teamAt_30 rfl (fun rv S9 n9 hp => ?_)
      obtain ⟨r8, rfl, rfl, rfl, h⟩ := hp
      obtain ⟨a9, e10, hA11, h⟩ := h
      refine fV_castK (k := 3) hF fK3 e10 hA11 fw_66 dX3_teamAt_33 ?_
      exact fV_aret hF hE.s (by omega) hr (Or.inl ⟨_, rfl⟩) dX3_teamAt_36 ⟨_, rfl, rfl, rfl, h⟩
    · have h := h.2 c7
      exact fV_throw (text := "no such team") hF hE hex h.1 h.2 (by omega) (Nat.le_of_ble_eq_true rfl) rfl fw_745 fw_14 (by decide) vxw_252 (by decide) dX3_teamAt_15 dX3_teamAt_18 dX3_teamAt_19 dX3_teamAt_21 dX3_teamAt_24
set_option maxRecDepth 100000 in
set_option maxHeartbeats 4000000 in
theorem mc_X3_requireRange {l : Launch} (hfl : l.stackTraces = false) {G : fG} {S : fMS} {n : Nat} {p0 : Int32} {p1 : Int32} {p2 : Int32} {post : Prop} {postX : String → fMS → Nat → Prop} (h : wp_X3_requireRange S n p0 p1 p2 post postX) : fCX l yX3_requireRange (.code yX3_requireRange cX3_requireRange 3 none) 1 G [(aI p0), (aI p1), (aI p2)] S n (fPV (fun S' n' => S = S' ∧ n = n' ∧ post)) postX := by
  refine fCX_of hfl (by decide) (by intro v hv; simp only [List.mem_cons, List.not_mem_nil, or_false] at hv; rcases hv with rfl | rfl | rfl <;> rfl) (Nat.le_of_ble_eq_true rfl) (fun F hF hxn hl hG hr hin hex hE => ?_)
  subst hl hG
  have hlv : 1 ≤ 1 := Nat.le_refl _
  show fV F S n 0 [some (aI p0), some (aI p1), some (aI p2)] []
  unfold wp_X3_requireRange at h
  refine fV_iload_n hF dX3_requireRange_0 rfl rfl ?_
  refine fV_iload_n hF dX3_requireRange_1 rfl rfl ?_
  refine fV_icmp_lt (tgt := 10) hF dX3_requireRange_2 (by decide) (fun c1 => ?_) (fun c1 => ?_)
  · have h := h.1 c1
    exact fV_throwW (text := "a number is out of range") hF hE hex h.1 h.2 (by omega) (Nat.le_of_ble_eq_true rfl) rfl fw_751 fw_19 (by decide) vxw_267 (by decide) dX3_requireRange_10 dX3_requireRange_13 dX3_requireRange_14 dX3_requireRange_17 dX3_requireRange_20
  · have h := h.2 c1
    refine fV_iload_n hF dX3_requireRange_5 rfl rfl ?_
    refine fV_iload_n hF dX3_requireRange_6 rfl rfl ?_
    refine fV_icmp_le (tgt := 21) hF dX3_requireRange_7 (by decide) (fun c2 => ?_) (fun c2 => ?_)
    · have h := h.1 c2
      exact fV_vret hF hE.s (by omega) hr dX3_requireRange_21 ⟨rfl, rfl, rfl, h⟩
    · have h := h.2 c2
      exact fV_throwW (text := "a number is out of range") hF hE hex h.1 h.2 (by omega) (Nat.le_of_ble_eq_true rfl) rfl fw_751 fw_19 (by decide) vxw_267 (by decide) dX3_requireRange_10 dX3_requireRange_13 dX3_requireRange_14 dX3_requireRange_17 dX3_requireRange_20
set_option maxRecDepth 100000 in
set_option maxHeartbeats 4000000 in
theorem mB_X3_reckonDemands_91 {F : fX} {lv : Nat} (hlv : 4 ≤ lv) (hF : fOk F cX3_reckonDemands RX3 lv) (hxn : xn F = 3) (hr : (xM F).sig.returnType = none) {post : fMS → Nat → Prop} {o : Nat} (hE : fEnd F lv (fPV post)) : ∀ (f : Nat) (S : fMS) (n : Nat) (x1 : Int32) (h : wB_X3_reckonDemands_91 post o f S n x1), fV F S n 91 [some (aR (some o)), some (aI x1), none] [] := by
  intro f
  induction f with
  | zero => intro _ _ _ h; exact h.elim
  | succ f ih =>
    intro S n x1 h
    simp only [wB_X3_reckonDemands_91] at h
    refine fV_iload_n hF dX3_reckonDemands_91 rfl rfl ?_
    refine fV_if_lt (tgt := 115) hF dX3_reckonDemands_92 (by decide) (fun c1 => ?_) (fun c1 => ?_)
    · have h := h.1 c1
      exact fV_vret hF hE.s (by omega) hr dX3_reckonDemands_115 ⟨rfl, h⟩
    · have h := h.2 c1
      refine fV_aload_n hF dX3_reckonDemands_95 rfl rfl ?_
      obtain ⟨hA2, h⟩ := h
      refine fV_getR (k := 4) (i := 0) hF fK4 rfl hA2 (by decide) fw_192 (Or.inl rfl) rfl dX3_reckonDemands_96 ?_
      refine fV_iload_n hF dX3_reckonDemands_99 rfl rfl ?_
      obtain ⟨a3, e4, hA5, h⟩ := h
      refine fV_callV (k := 6) (As := [(aI x1)]) hF (mc_Jx4a65c_get_915e3 hF.2.2.2.2.2.2.2.2.1 h) fK6 e4 hA5 (by omega) fw_257 fw_254 fw_255 fw_256 fw_4 ⟨rfl, by decide, by decide, by decide +kernel⟩ (na := 1) rfl (by decide) (Nat.le_of_ble_eq_true rfl) dX3_reckonDemands_100 rfl (fun rv S9 n9 hp => ?_)
      obtain ⟨r6, rfl, rfl, rfl, h⟩ := hp
      obtain ⟨a7, e8, hA9, h⟩ := h
      refine fV_castK (k := 3) hF fK3 e8 hA9 fw_66 dX3_reckonDemands_103 ?_
      refine fV_callV (k := 3) (As := []) hF (mc_X2_settleDemand hF.2.2.2.2.2.2.2.2.1 h) fK3 e8 hA9 (by omega) fw_272 fw_269 fw_270 fw_271 fw_5 ⟨rfl, by decide, by decide, by decide +kernel⟩ (na := 0) rfl (by decide) (Nat.le_of_ble_eq_true rfl) dX3_reckonDemands_106 rfl (fun rv S10 n11 hp => ?_)
      obtain ⟨rfl, h⟩ := hp
      refine fV_iinc (v := -1) hF (fun y => [some (aR (some o)), some (aI y), none]) dX3_reckonDemands_109 rfl (by decide) (by rw [hxn]; decide) rfl (fun _ => rfl) (fun v12 ev12 => ?_)
      have h := h v12 ev12
      refine fV_goto (tgt := 91) hF dX3_reckonDemands_112 (by decide) ?_
      refine fV.sub (l' := [some (aR (some o)), some (aI v12), none]) ⟨rfl, ⟨rfl, trivial⟩⟩ ?_
      exact ih S10 n11 v12 h
set_option maxRecDepth 100000 in
set_option maxHeartbeats 4000000 in
theorem mB_X3_reckonDemands_36 {F : fX} {lv : Nat} (hlv : 4 ≤ lv) (hF : fOk F cX3_reckonDemands RX3 lv) (hxn : xn F = 3) (hr : (xM F).sig.returnType = none) {post : fMS → Nat → Prop} {o : Nat} (hE : fEnd F lv (fPV post)) : ∀ (f : Nat) (S : fMS) (n : Nat) (x1 : Int32) (h : wB_X3_reckonDemands_36 post o f S n x1), fV F S n 36 [some (aR (some o)), some (aI x1), none] [] := by
  intro f
  induction f with
  | zero => intro _ _ _ h; exact h.elim
  | succ f ih =>
    intro S n x1 h
    simp only [wB_X3_reckonDemands_36] at h
    refine fV_iload_n hF dX3_reckonDemands_36 rfl rfl ?_
    refine fV_aload_n hF dX3_reckonDemands_37 rfl rfl ?_
    obtain ⟨hA1, h⟩ := h
    refine fV_getR (k := 4) (i := 3) hF fK4 rfl hA1 (by decide) fw_195 (Or.inl rfl) rfl dX3_reckonDemands_38 ?_
    obtain ⟨a2, e3, hA4, h⟩ := h
    refine fV_callV (k := 6) (As := []) hF (mc_Jx4a65c_size_8abf5 hF.2.2.2.2.2.2.2.2.1 h) fK6 e3 hA4 (by omega) fw_233 fw_230 fw_231 fw_232 fw_4 ⟨rfl, by decide, by decide, by decide +kernel⟩ (na := 0) rfl (by decide) (Nat.le_of_ble_eq_true rfl) dX3_reckonDemands_41 rfl (fun rv S9 n9 hp => ?_)
    obtain ⟨v5, rfl, rfl, rfl, h⟩ := hp
    refine fV_icmp_ge (tgt := 81) hF dX3_reckonDemands_44 (by decide) (fun c6 => ?_) (fun c6 => ?_)
    · have h := h.1 c6
      refine fV_aload_n hF dX3_reckonDemands_81 rfl rfl ?_
      refine fV_getR (k := 4) (i := 0) hF fK4 rfl hA1 (by decide) fw_192 (Or.inl rfl) rfl dX3_reckonDemands_82 ?_
      obtain ⟨a7, e8, hA9, h⟩ := h
      refine fV_callV (k := 6) (As := []) hF (mc_Jx4a65c_size_8abf5 hF.2.2.2.2.2.2.2.2.1 h) fK6 e8 hA9 (by omega) fw_233 fw_230 fw_231 fw_232 fw_4 ⟨rfl, by decide, by decide, by decide +kernel⟩ (na := 0) rfl (by decide) (Nat.le_of_ble_eq_true rfl) dX3_reckonDemands_85 rfl (fun rv S9 n9 hp => ?_)
      obtain ⟨v10, rfl, rfl, rfl, h⟩ := hp
      refine fV_iconst (v := 1) hF dX3_reckonDemands_88 (by decide) ?_
      refine fV_isub hF dX3_reckonDemands_89 ?_
      refine fV_istore_n hF (fun y => [some (aR (some o)), some (aI y), none]) dX3_reckonDemands_90 rfl (by rw [hxn]; decide) rfl (fun _ => rfl) (fun v11 ev11 => ?_)
      have h := h v11 ev11
      obtain ⟨f1, h⟩ := h
      refine fV.sub (l' := [some (aR (some o)), some (aI v11), none]) ⟨rfl, ⟨rfl, trivial⟩⟩ ?_
      exact mB_X3_reckonDemands_91 hlv hF hxn hr hE  f1 S n v11 h
    · have h := h.2 c6
      refine fV_aload_n hF dX3_reckonDemands_47 rfl rfl ?_
      refine fV_getR (k := 4) (i := 3) hF fK4 rfl hA1 (by decide) fw_195 (Or.inl rfl) rfl dX3_reckonDemands_48 ?_
      refine fV_iload_n hF dX3_reckonDemands_51 rfl rfl ?_
      refine fV_callV (k := 6) (As := [(aI x1)]) hF (mc_Jx4a65c_get_915e3 hF.2.2.2.2.2.2.2.2.1 h) fK6 e3 hA4 (by omega) fw_257 fw_254 fw_255 fw_256 fw_4 ⟨rfl, by decide, by decide, by decide +kernel⟩ (na := 1) rfl (by decide) (Nat.le_of_ble_eq_true rfl) dX3_reckonDemands_52 rfl (fun rv S9 n9 hp => ?_)
      obtain ⟨r12, rfl, rfl, rfl, h⟩ := hp
      obtain ⟨a13, e14, hA15, h⟩ := h
      refine fV_castK (k := 1) hF fK1 e14 hA15 fw_268 dX3_reckonDemands_55 ?_
      refine fV_astore_n0 hF [some (aR (some o)), some (aI x1), some (aR r12)] dX3_reckonDemands_58 rfl (by rw [hxn]; decide) rfl rfl ?_
      refine fV_aload_n hF dX3_reckonDemands_59 rfl rfl ?_
      refine fV_getR (k := 1) (i := 1) hF fK1 e14 hA15 (by decide) fw_879 (Or.inl rfl) rfl dX3_reckonDemands_60 ?_
      refine fV_dup hF dX3_reckonDemands_63 rfl ?_
      obtain ⟨a16, e17, hA18, h⟩ := h
      refine fV_getI (k := 3) (i := 8) hF fK3 e17 hA18 (by decide) fw_91 (Or.inl rfl) rfl dX3_reckonDemands_64 ?_
      refine fV_aload_n hF dX3_reckonDemands_67 rfl rfl ?_
      refine fV_getI (k := 1) (i := 2) hF fK1 e14 hA15 (by decide) fw_881 (Or.inl rfl) rfl dX3_reckonDemands_68 ?_
      refine fV_iadd hF dX3_reckonDemands_71 ?_
      refine fV_putI (k := 3) (i := 8) hF fK3 tyX2_ok nmX2 e17 hA18 (by decide) rfl fw_91 (Or.inl rfl) (Or.inl rfl) rfl rfl dX3_reckonDemands_72 ?_
      refine fV_iinc (v := 1) hF (fun y => [some (aR (some o)), some (aI y), some (aR r12)]) dX3_reckonDemands_75 rfl (by decide) (by rw [hxn]; decide) rfl (fun _ => rfl) (fun v19 ev19 => ?_)
      have h := h v19 ev19
      refine fV_goto (tgt := 36) hF dX3_reckonDemands_78 (by decide) ?_
      refine fV.sub (l' := [some (aR (some o)), some (aI v19), none]) ⟨rfl, ⟨rfl, trivial⟩⟩ ?_
      exact ih (wI S a16 8 ((sI S a16 8) + (sI S a13 2))) n v19 h
set_option maxRecDepth 100000 in
set_option maxHeartbeats 4000000 in
theorem mB_X3_reckonDemands_2 {F : fX} {lv : Nat} (hlv : 4 ≤ lv) (hF : fOk F cX3_reckonDemands RX3 lv) (hxn : xn F = 3) (hr : (xM F).sig.returnType = none) {post : fMS → Nat → Prop} {o : Nat} (hE : fEnd F lv (fPV post)) : ∀ (f : Nat) (S : fMS) (n : Nat) (x1 : Int32) (h : wB_X3_reckonDemands_2 post o f S n x1), fV F S n 2 [some (aR (some o)), some (aI x1), none] [] := by
  intro f
  induction f with
  | zero => intro _ _ _ h; exact h.elim
  | succ f ih =>
    intro S n x1 h
    simp only [wB_X3_reckonDemands_2] at h
    refine fV_iload_n hF dX3_reckonDemands_2 rfl rfl ?_
    refine fV_aload_n hF dX3_reckonDemands_3 rfl rfl ?_
    obtain ⟨hA1, h⟩ := h
    refine fV_getR (k := 4) (i := 0) hF fK4 rfl hA1 (by decide) fw_192 (Or.inl rfl) rfl dX3_reckonDemands_4 ?_
    obtain ⟨a2, e3, hA4, h⟩ := h
    refine fV_callV (k := 6) (As := []) hF (mc_Jx4a65c_size_8abf5 hF.2.2.2.2.2.2.2.2.1 h) fK6 e3 hA4 (by omega) fw_233 fw_230 fw_231 fw_232 fw_4 ⟨rfl, by decide, by decide, by decide +kernel⟩ (na := 0) rfl (by decide) (Nat.le_of_ble_eq_true rfl) dX3_reckonDemands_7 rfl (fun rv S9 n9 hp => ?_)
    obtain ⟨v5, rfl, rfl, rfl, h⟩ := hp
    refine fV_icmp_ge (tgt := 34) hF dX3_reckonDemands_10 (by decide) (fun c6 => ?_) (fun c6 => ?_)
    · have h := h.1 c6
      refine fV_iconst (v := 0) hF dX3_reckonDemands_34 (by decide) ?_
      refine fV_istore_n0 hF [some (aR (some o)), some (aI (0 : Int32)), none] dX3_reckonDemands_35 rfl (by rw [hxn]; decide) rfl rfl ?_
      obtain ⟨f1, h⟩ := h
      refine fV.sub (l' := [some (aR (some o)), some (aI (0 : Int32)), none]) ⟨rfl, ⟨rfl, trivial⟩⟩ ?_
      exact mB_X3_reckonDemands_36 hlv hF hxn hr hE  f1 S n (0 : Int32) h
    · have h := h.2 c6
      refine fV_aload_n hF dX3_reckonDemands_13 rfl rfl ?_
      refine fV_getR (k := 4) (i := 0) hF fK4 rfl hA1 (by decide) fw_192 (Or.inl rfl) rfl dX3_reckonDemands_14 ?_
      refine fV_iload_n hF dX3_reckonDemands_17 rfl rfl ?_
      refine fV_callV (k := 6) (As := [(aI x1)]) hF (mc_Jx4a65c_get_915e3 hF.2.2.2.2.2.2.2.2.1 h) fK6 e3 hA4 (by omega) fw_257 fw_254 fw_255 fw_256 fw_4 ⟨rfl, by decide, by decide, by decide +kernel⟩ (na := 1) rfl (by decide) (Nat.le_of_ble_eq_true rfl) dX3_reckonDemands_18 rfl (fun rv S9 n9 hp => ?_)
      obtain ⟨r7, rfl, rfl, rfl, h⟩ := hp
      obtain ⟨a8, e9, hA10, h⟩ := h
      refine fV_castK (k := 3) hF fK3 e9 hA10 fw_66 dX3_reckonDemands_21 ?_
      refine fV_iconst (v := 0) hF dX3_reckonDemands_24 (by decide) ?_
      refine fV_putI (k := 3) (i := 8) hF fK3 tyX2_ok nmX2 e9 hA10 (by decide) rfl fw_91 (Or.inl rfl) (Or.inl rfl) rfl rfl dX3_reckonDemands_25 ?_
      refine fV_iinc (v := 1) hF (fun y => [some (aR (some o)), some (aI y), none]) dX3_reckonDemands_28 rfl (by decide) (by rw [hxn]; decide) rfl (fun _ => rfl) (fun v11 ev11 => ?_)
      have h := h v11 ev11
      refine fV_goto (tgt := 2) hF dX3_reckonDemands_31 (by decide) ?_
      refine fV.sub (l' := [some (aR (some o)), some (aI v11), none]) ⟨rfl, ⟨rfl, trivial⟩⟩ ?_
      exact ih (wI S a8 8 (0 : Int32)) n v11 h
set_option maxRecDepth 100000 in
set_option maxHeartbeats 4000000 in
theorem mc_X3_reckonDemands {l : Launch} (hfl : l.stackTraces = false) {G : fG} {S : fMS} {n : Nat} {o : Nat} {post : fMS → Nat → Prop} (h : wp_X3_reckonDemands S n o post) : fCM l yX3_reckonDemands (.code yX3_reckonDemands cX3_reckonDemands 3 none) 4 G [(aR (some o))] S n (fPV post) := by
  refine fCM_of hfl (by decide) (by intro v hv; simp only [List.mem_cons, List.not_mem_nil, or_false] at hv; rcases hv with rfl <;> rfl) (Nat.le_of_ble_eq_true rfl) (fun F hF hxn hl hG hr hin hE => ?_)
  subst hl hG
  have hlv : 4 ≤ 4 := Nat.le_refl _
  show fV F S n 0 [some (aR (some o)), none, none] []
  unfold wp_X3_reckonDemands at h
  refine fV_iconst (v := 0) hF dX3_reckonDemands_0 (by decide) ?_
  refine fV_istore_n0 hF [some (aR (some o)), some (aI (0 : Int32)), none] dX3_reckonDemands_1 rfl (by rw [hxn]; decide) rfl rfl ?_
  obtain ⟨f1, h⟩ := h
  refine fV.sub (l' := [some (aR (some o)), some (aI (0 : Int32)), none]) ⟨rfl, ⟨rfl, trivial⟩⟩ ?_
  exact mB_X3_reckonDemands_2 hlv hF hxn hr hE  f1 S n (0 : Int32) h
set_option maxRecDepth 100000 in
set_option maxHeartbeats 4000000 in
theorem mc_X3_rootShare {l : Launch} (hfl : l.stackTraces = false) {G : fG} {S : fMS} {n : Nat} {o : Nat} {post : Int32 → Prop} (h : wp_X3_rootShare S o post) : fCM l yX3_rootShare (.code yX3_rootShare cX3_rootShare 1 (some .int)) 1 G [(aR (some o))] S n (fPI (fun x S' n' => S = S' ∧ n = n' ∧ post x)) := by
  refine fCM_of hfl (by decide) (by intro v hv; simp only [List.mem_cons, List.not_mem_nil, or_false] at hv; rcases hv with rfl <;> rfl) (Nat.le_of_ble_eq_true rfl) (fun F hF hxn hl hG hr hin hE => ?_)
  subst hl hG
  have hlv : 1 ≤ 1 := Nat.le_refl _
  show fV F S n 0 [some (aR (some o))] []
  unfold wp_X3_rootShare at h
  refine fV_aload_n hF dX3_rootShare_0 rfl rfl ?_
  obtain ⟨hA1, h⟩ := h
  refine fV_getI (k := 4) (i := 7) hF fK4 rfl hA1 (by decide) fw_199 (Or.inl rfl) rfl dX3_rootShare_1 ?_
  refine fV_aload_n hF dX3_rootShare_4 rfl rfl ?_
  refine fV_getR (k := 4) (i := 1) hF fK4 rfl hA1 (by decide) fw_193 (Or.inl rfl) rfl dX3_rootShare_5 ?_
  obtain ⟨a2, e3, hA4, h⟩ := h
  refine fV_getI (k := 3) (i := 8) hF fK3 e3 hA4 (by decide) fw_91 (Or.inl rfl) rfl dX3_rootShare_8 ?_
  refine fV_min hF (by omega) (Nat.le_of_ble_eq_true rfl) fw_282 dX3_rootShare_11 ?_
  exact fV_iret hF hE.s (by omega) hr rfl dX3_rootShare_14 ⟨_, rfl, rfl, rfl, h⟩
set_option maxRecDepth 100000 in
set_option maxHeartbeats 4000000 in
theorem mB_X3_dealShares_13 {F : fX} {lv : Nat} (hlv : 7 ≤ lv) (hF : fOk F cX3_dealShares RX3 lv) (hxn : xn F = 2) (hr : (xM F).sig.returnType = none) {post : fMS → Nat → Prop} {o : Nat} (hE : fEnd F lv (fPV post)) : ∀ (f : Nat) (S : fMS) (n : Nat) (x1 : Int32) (h : wB_X3_dealShares_13 post o f S n x1), fV F S n 13 [some (aR (some o)), some (aI x1)] [] := by
  intro f
  induction f with
  | zero => intro _ _ _ h; exact h.elim
  | succ f ih =>
    intro S n x1 h
    simp only [wB_X3_dealShares_13] at h
    refine fV_iload_n hF dX3_dealShares_13 rfl rfl ?_
    refine fV_aload_n hF dX3_dealShares_14 rfl rfl ?_
    obtain ⟨hA1, h⟩ := h
    refine fV_getR (k := 4) (i := 0) hF fK4 rfl hA1 (by decide) fw_192 (Or.inl rfl) rfl dX3_dealShares_15 ?_
    obtain ⟨a2, e3, hA4, h⟩ := h
    refine fV_callV (k := 6) (As := []) hF (mc_Jx4a65c_size_8abf5 hF.2.2.2.2.2.2.2.2.1 h) fK6 e3 hA4 (by omega) fw_233 fw_230 fw_231 fw_232 fw_4 ⟨rfl, by decide, by decide, by decide +kernel⟩ (na := 0) rfl (by decide) (Nat.le_of_ble_eq_true rfl) dX3_dealShares_18 rfl (fun rv S9 n9 hp => ?_)
    obtain ⟨v5, rfl, rfl, rfl, h⟩ := hp
    refine fV_icmp_ge (tgt := 44) hF dX3_dealShares_21 (by decide) (fun c6 => ?_) (fun c6 => ?_)
    · have h := h.1 c6
      exact fV_vret hF hE.s (by omega) hr dX3_dealShares_44 ⟨rfl, h⟩
    · have h := h.2 c6
      refine fV_aload_n hF dX3_dealShares_24 rfl rfl ?_
      refine fV_getR (k := 4) (i := 0) hF fK4 rfl hA1 (by decide) fw_192 (Or.inl rfl) rfl dX3_dealShares_25 ?_
      refine fV_iload_n hF dX3_dealShares_28 rfl rfl ?_
      refine fV_callV (k := 6) (As := [(aI x1)]) hF (mc_Jx4a65c_get_915e3 hF.2.2.2.2.2.2.2.2.1 h) fK6 e3 hA4 (by omega) fw_257 fw_254 fw_255 fw_256 fw_4 ⟨rfl, by decide, by decide, by decide +kernel⟩ (na := 1) rfl (by decide) (Nat.le_of_ble_eq_true rfl) dX3_dealShares_29 rfl (fun rv S9 n9 hp => ?_)
      obtain ⟨r7, rfl, rfl, rfl, h⟩ := hp
      obtain ⟨a8, e9, hA10, h⟩ := h
      refine fV_castK (k := 3) hF fK3 e9 hA10 fw_66 dX3_dealShares_32 ?_
      refine fV_callV (k := 3) (As := []) hF (mc_X2_dealToChildren hF.2.2.2.2.2.2.2.2.1 h) fK3 e9 hA10 (by omega) fw_286 fw_283 fw_284 fw_285 fw_5 ⟨rfl, by decide, by decide, by decide +kernel⟩ (na := 0) rfl (by decide) (Nat.le_of_ble_eq_true rfl) dX3_dealShares_35 rfl (fun rv S11 n12 hp => ?_)
      obtain ⟨rfl, h⟩ := hp
      refine fV_iinc (v := 1) hF (fun y => [some (aR (some o)), some (aI y)]) dX3_dealShares_38 rfl (by decide) (by rw [hxn]; decide) rfl (fun _ => rfl) (fun v13 ev13 => ?_)
      have h := h v13 ev13
      refine fV_goto (tgt := 13) hF dX3_dealShares_41 (by decide) ?_
      refine fV.sub (l' := [some (aR (some o)), some (aI v13)]) ⟨rfl, ⟨rfl, trivial⟩⟩ ?_
      exact ih S11 n12 v13 h
set_option maxRecDepth 100000 in
set_option maxHeartbeats 4000000 in
theorem mc_X3_dealShares {l : Launch} (hfl : l.stackTraces = false) {G : fG} {S : fMS} {n : Nat} {o : Nat} {post : fMS → Nat → Prop} (h : wp_X3_dealShares S n o post) : fCM l yX3_dealShares (.code yX3_dealShares cX3_dealShares 2 none) 7 G [(aR (some o))] S n (fPV post) := by
  refine fCM_of hfl (by decide) (by intro v hv; simp only [List.mem_cons, List.not_mem_nil, or_false] at hv; rcases hv with rfl <;> rfl) (Nat.le_of_ble_eq_true rfl) (fun F hF hxn hl hG hr hin hE => ?_)
  subst hl hG
  have hlv : 7 ≤ 7 := Nat.le_refl _
  show fV F S n 0 [some (aR (some o)), none] []
  unfold wp_X3_dealShares at h
  refine fV_aload_n hF dX3_dealShares_0 rfl rfl ?_
  obtain ⟨hA1, h⟩ := h
  refine fV_getR (k := 4) (i := 1) hF fK4 rfl hA1 (by decide) fw_193 (Or.inl rfl) rfl dX3_dealShares_1 ?_
  refine fV_aload_n hF dX3_dealShares_4 rfl rfl ?_
  refine fV_callV (k := 4) (As := []) hF (mc_X3_rootShare hF.2.2.2.2.2.2.2.2.1 h) fK4 rfl hA1 (by omega) fw_281 fw_278 fw_280 fwp_6 fw_1 ⟨rfl, by decide, by decide, by decide +kernel⟩ (na := 0) rfl (by decide) (Nat.le_of_ble_eq_true rfl) dX3_dealShares_5 rfl (fun rv S9 n9 hp => ?_)
  obtain ⟨v2, rfl, rfl, rfl, h⟩ := hp
  obtain ⟨a3, e4, hA5, h⟩ := h
  refine fV_putI (k := 3) (i := 9) hF fK3 tyX2_ok nmX2 e4 hA5 (by decide) rfl fw_93 (Or.inl rfl) (Or.inl rfl) rfl rfl dX3_dealShares_8 ?_
  refine fV_iconst (v := 0) hF dX3_dealShares_11 (by decide) ?_
  refine fV_istore_n0 hF [some (aR (some o)), some (aI (0 : Int32))] dX3_dealShares_12 rfl (by rw [hxn]; decide) rfl rfl ?_
  obtain ⟨f1, h⟩ := h
  refine fV.sub (l' := [some (aR (some o)), some (aI (0 : Int32))]) ⟨rfl, ⟨rfl, trivial⟩⟩ ?_
  exact mB_X3_dealShares_13 hlv hF hxn hr hE  f1 (wI S a3 9 v2) n (0 : Int32) h
set_option maxRecDepth 100000 in
set_option maxHeartbeats 4000000 in
theorem mB_X3_reckonHeldUnits_36 {F : fX} {lv : Nat} (hlv : 4 ≤ lv) (hF : fOk F cX3_reckonHeldUnits RX3 lv) (hxn : xn F = 3) (hr : (xM F).sig.returnType = none) {post : fMS → Nat → Prop} {o : Nat} (hE : fEnd F lv (fPV post)) : ∀ (f : Nat) (S : fMS) (n : Nat) (x1 : Int32) (h : wB_X3_reckonHeldUnits_36 post o f S n x1), fV F S n 36 [some (aR (some o)), some (aI x1), none] [] := by
  intro f
  induction f with
  | zero => intro _ _ _ h; exact h.elim
  | succ f ih =>
    intro S n x1 h
    simp only [wB_X3_reckonHeldUnits_36] at h
    refine fV_iload_n hF dX3_reckonHeldUnits_36 rfl rfl ?_
    refine fV_aload_n hF dX3_reckonHeldUnits_37 rfl rfl ?_
    obtain ⟨hA1, h⟩ := h
    refine fV_getR (k := 4) (i := 4) hF fK4 rfl hA1 (by decide) fw_196 (Or.inl rfl) rfl dX3_reckonHeldUnits_38 ?_
    obtain ⟨a2, e3, hA4, h⟩ := h
    refine fV_callV (k := 6) (As := []) hF (mc_Jx4a65c_size_8abf5 hF.2.2.2.2.2.2.2.2.1 h) fK6 e3 hA4 (by omega) fw_233 fw_230 fw_231 fw_232 fw_4 ⟨rfl, by decide, by decide, by decide +kernel⟩ (na := 0) rfl (by decide) (Nat.le_of_ble_eq_true rfl) dX3_reckonHeldUnits_41 rfl (fun rv S9 n9 hp => ?_)
    obtain ⟨v5, rfl, rfl, rfl, h⟩ := hp
    refine fV_icmp_ge (tgt := 103) hF dX3_reckonHeldUnits_44 (by decide) (fun c6 => ?_) (fun c6 => ?_)
    · have h := h.1 c6
      exact fV_vret hF hE.s (by omega) hr dX3_reckonHeldUnits_103 ⟨rfl, h⟩
    · have h := h.2 c6
      refine fV_aload_n hF dX3_reckonHeldUnits_47 rfl rfl ?_
      refine fV_getR (k := 4) (i := 4) hF fK4 rfl hA1 (by decide) fw_196 (Or.inl rfl) rfl dX3_reckonHeldUnits_48 ?_
      refine fV_iload_n hF dX3_reckonHeldUnits_51 rfl rfl ?_
      refine fV_callV (k := 6) (As := [(aI x1)]) hF (mc_Jx4a65c_get_915e3 hF.2.2.2.2.2.2.2.2.1 h) fK6 e3 hA4 (by omega) fw_257 fw_254 fw_255 fw_256 fw_4 ⟨rfl, by decide, by decide, by decide +kernel⟩ (na := 1) rfl (by decide) (Nat.le_of_ble_eq_true rfl) dX3_reckonHeldUnits_52 rfl (fun rv S9 n9 hp => ?_)
      obtain ⟨r7, rfl, rfl, rfl, h⟩ := hp
      obtain ⟨a8, e9, hA10, h⟩ := h
      refine fV_castK (k := 2) hF fK2 e9 hA10 fw_302 dX3_reckonHeldUnits_55 ?_
      refine fV_astore_n0 hF [some (aR (some o)), some (aI x1), some (aR r7)] dX3_reckonHeldUnits_58 rfl (by rw [hxn]; decide) rfl rfl ?_
      refine fV_aload_n hF dX3_reckonHeldUnits_59 rfl rfl ?_
      refine fV_getI (k := 2) (i := 1) hF fK2 e9 hA10 (by decide) fw_1035 (Or.inl rfl) rfl dX3_reckonHeldUnits_60 ?_
      refine fV_aload_n hF dX3_reckonHeldUnits_63 rfl rfl ?_
      refine fV_getI (k := 4) (i := 9) hF fK4 rfl hA1 (by decide) fw_201 (Or.inl rfl) rfl dX3_reckonHeldUnits_64 ?_
      refine fV_icmp_gt (tgt := 97) hF dX3_reckonHeldUnits_67 (by decide) (fun c11 => ?_) (fun c11 => ?_)
      · have h := h.1 c11
        refine fV_iinc (v := 1) hF (fun y => [some (aR (some o)), some (aI y), some (aR r7)]) dX3_reckonHeldUnits_97 rfl (by decide) (by rw [hxn]; decide) rfl (fun _ => rfl) (fun v12 ev12 => ?_)
        have h := h v12 ev12
        refine fV_goto (tgt := 36) hF dX3_reckonHeldUnits_100 (by decide) ?_
        refine fV.sub (l' := [some (aR (some o)), some (aI v12), none]) ⟨rfl, ⟨rfl, trivial⟩⟩ ?_
        exact ih S n v12 h
      · have h := h.2 c11
        refine fV_aload_n hF dX3_reckonHeldUnits_70 rfl rfl ?_
        refine fV_getI (k := 4) (i := 9) hF fK4 rfl hA1 (by decide) fw_201 (Or.inl rfl) rfl dX3_reckonHeldUnits_71 ?_
        refine fV_aload_n hF dX3_reckonHeldUnits_74 rfl rfl ?_
        refine fV_getI (k := 2) (i := 2) hF fK2 e9 hA10 (by decide) fw_1037 (Or.inl rfl) rfl dX3_reckonHeldUnits_75 ?_
        refine fV_icmp_ge (tgt := 97) hF dX3_reckonHeldUnits_78 (by decide) (fun c13 => ?_) (fun c13 => ?_)
        · have h := h.1 c13
          refine fV_iinc (v := 1) hF (fun y => [some (aR (some o)), some (aI y), some (aR r7)]) dX3_reckonHeldUnits_97 rfl (by decide) (by rw [hxn]; decide) rfl (fun _ => rfl) (fun v14 ev14 => ?_)
          have h := h v14 ev14
          refine fV_goto (tgt := 36) hF dX3_reckonHeldUnits_100 (by decide) ?_
          refine fV.sub (l' := [some (aR (some o)), some (aI v14), none]) ⟨rfl, ⟨rfl, trivial⟩⟩ ?_
          exact ih S n v14 h
        · have h := h.2 c13
          refine fV_aload_n hF dX3_reckonHeldUnits_81 rfl rfl ?_
          refine fV_getR (k := 2) (i := 0) hF fK2 e9 hA10 (by decide) fw_1033 (Or.inl rfl) rfl dX3_reckonHeldUnits_82 ?_
          refine fV_dup hF dX3_reckonHeldUnits_85 rfl ?_
          obtain ⟨a15, e16, hA17, h⟩ := h
          refine fV_getI (k := 3) (i := 11) hF fK3 e16 hA17 (by decide) fw_97 (Or.inl rfl) rfl dX3_reckonHeldUnits_86 ?_
          refine fV_aload_n hF dX3_reckonHeldUnits_89 rfl rfl ?_
          refine fV_getI (k := 2) (i := 3) hF fK2 e9 hA10 (by decide) fw_1039 (Or.inl rfl) rfl dX3_reckonHeldUnits_90 ?_
          refine fV_iadd hF dX3_reckonHeldUnits_93 ?_
          refine fV_putI (k := 3) (i := 11) hF fK3 tyX2_ok nmX2 e16 hA17 (by decide) rfl fw_97 (Or.inl rfl) (Or.inl rfl) rfl rfl dX3_reckonHeldUnits_94 ?_
          refine fV_iinc (v := 1) hF (fun y => [some (aR (some o)), some (aI y), some (aR r7)]) dX3_reckonHeldUnits_97 rfl (by decide) (by rw [hxn]; decide) rfl (fun _ => rfl) (fun v18 ev18 => ?_)
          have h := h v18 ev18
          refine fV_goto (tgt := 36) hF dX3_reckonHeldUnits_100 (by decide) ?_
          refine fV.sub (l' := [some (aR (some o)), some (aI v18), none]) ⟨rfl, ⟨rfl, trivial⟩⟩ ?_
          exact ih (wI S a15 11 ((sI S a15 11) + (sI S a8 3))) n v18 h
set_option maxRecDepth 100000 in
set_option maxHeartbeats 4000000 in
theorem mB_X3_reckonHeldUnits_2 {F : fX} {lv : Nat} (hlv : 4 ≤ lv) (hF : fOk F cX3_reckonHeldUnits RX3 lv) (hxn : xn F = 3) (hr : (xM F).sig.returnType = none) {post : fMS → Nat → Prop} {o : Nat} (hE : fEnd F lv (fPV post)) : ∀ (f : Nat) (S : fMS) (n : Nat) (x1 : Int32) (h : wB_X3_reckonHeldUnits_2 post o f S n x1), fV F S n 2 [some (aR (some o)), some (aI x1), none] [] := by
  intro f
  induction f with
  | zero => intro _ _ _ h; exact h.elim
  | succ f ih =>
    intro S n x1 h
    simp only [wB_X3_reckonHeldUnits_2] at h
    refine fV_iload_n hF dX3_reckonHeldUnits_2 rfl rfl ?_
    refine fV_aload_n hF dX3_reckonHeldUnits_3 rfl rfl ?_
    obtain ⟨hA1, h⟩ := h
    refine fV_getR (k := 4) (i := 0) hF fK4 rfl hA1 (by decide) fw_192 (Or.inl rfl) rfl dX3_reckonHeldUnits_4 ?_
    obtain ⟨a2, e3, hA4, h⟩ := h
    refine fV_callV (k := 6) (As := []) hF (mc_Jx4a65c_size_8abf5 hF.2.2.2.2.2.2.2.2.1 h) fK6 e3 hA4 (by omega) fw_233 fw_230 fw_231 fw_232 fw_4 ⟨rfl, by decide, by decide, by decide +kernel⟩ (na := 0) rfl (by decide) (Nat.le_of_ble_eq_true rfl) dX3_reckonHeldUnits_7 rfl (fun rv S9 n9 hp => ?_)
    obtain ⟨v5, rfl, rfl, rfl, h⟩ := hp
    refine fV_icmp_ge (tgt := 34) hF dX3_reckonHeldUnits_10 (by decide) (fun c6 => ?_) (fun c6 => ?_)
    · have h := h.1 c6
      refine fV_iconst (v := 0) hF dX3_reckonHeldUnits_34 (by decide) ?_
      refine fV_istore_n0 hF [some (aR (some o)), some (aI (0 : Int32)), none] dX3_reckonHeldUnits_35 rfl (by rw [hxn]; decide) rfl rfl ?_
      obtain ⟨f1, h⟩ := h
      refine fV.sub (l' := [some (aR (some o)), some (aI (0 : Int32)), none]) ⟨rfl, ⟨rfl, trivial⟩⟩ ?_
      exact mB_X3_reckonHeldUnits_36 hlv hF hxn hr hE  f1 S n (0 : Int32) h
    · have h := h.2 c6
      refine fV_aload_n hF dX3_reckonHeldUnits_13 rfl rfl ?_
      refine fV_getR (k := 4) (i := 0) hF fK4 rfl hA1 (by decide) fw_192 (Or.inl rfl) rfl dX3_reckonHeldUnits_14 ?_
      refine fV_iload_n hF dX3_reckonHeldUnits_17 rfl rfl ?_
      refine fV_callV (k := 6) (As := [(aI x1)]) hF (mc_Jx4a65c_get_915e3 hF.2.2.2.2.2.2.2.2.1 h) fK6 e3 hA4 (by omega) fw_257 fw_254 fw_255 fw_256 fw_4 ⟨rfl, by decide, by decide, by decide +kernel⟩ (na := 1) rfl (by decide) (Nat.le_of_ble_eq_true rfl) dX3_reckonHeldUnits_18 rfl (fun rv S9 n9 hp => ?_)
      obtain ⟨r7, rfl, rfl, rfl, h⟩ := hp
      obtain ⟨a8, e9, hA10, h⟩ := h
      refine fV_castK (k := 3) hF fK3 e9 hA10 fw_66 dX3_reckonHeldUnits_21 ?_
      refine fV_iconst (v := 0) hF dX3_reckonHeldUnits_24 (by decide) ?_
      refine fV_putI (k := 3) (i := 11) hF fK3 tyX2_ok nmX2 e9 hA10 (by decide) rfl fw_97 (Or.inl rfl) (Or.inl rfl) rfl rfl dX3_reckonHeldUnits_25 ?_
      refine fV_iinc (v := 1) hF (fun y => [some (aR (some o)), some (aI y), none]) dX3_reckonHeldUnits_28 rfl (by decide) (by rw [hxn]; decide) rfl (fun _ => rfl) (fun v11 ev11 => ?_)
      have h := h v11 ev11
      refine fV_goto (tgt := 2) hF dX3_reckonHeldUnits_31 (by decide) ?_
      refine fV.sub (l' := [some (aR (some o)), some (aI v11), none]) ⟨rfl, ⟨rfl, trivial⟩⟩ ?_
      exact ih (wI S a8 11 (0 : Int32)) n v11 h
set_option maxRecDepth 100000 in
set_option maxHeartbeats 4000000 in
theorem mc_X3_reckonHeldUnits {l : Launch} (hfl : l.stackTraces = false) {G : fG} {S : fMS} {n : Nat} {o : Nat} {post : fMS → Nat → Prop} (h : wp_X3_reckonHeldUnits S n o post) : fCM l yX3_reckonHeldUnits (.code yX3_reckonHeldUnits cX3_reckonHeldUnits 3 none) 4 G [(aR (some o))] S n (fPV post) := by
  refine fCM_of hfl (by decide) (by intro v hv; simp only [List.mem_cons, List.not_mem_nil, or_false] at hv; rcases hv with rfl <;> rfl) (Nat.le_of_ble_eq_true rfl) (fun F hF hxn hl hG hr hin hE => ?_)
  subst hl hG
  have hlv : 4 ≤ 4 := Nat.le_refl _
  show fV F S n 0 [some (aR (some o)), none, none] []
  unfold wp_X3_reckonHeldUnits at h
  refine fV_iconst (v := 0) hF dX3_reckonHeldUnits_0 (by decide) ?_
  refine fV_istore_n0 hF [some (aR (some o)), some (aI (0 : Int32)), none] dX3_reckonHeldUnits_1 rfl (by rw [hxn]; decide) rfl rfl ?_
  obtain ⟨f1, h⟩ := h
  refine fV.sub (l' := [some (aR (some o)), some (aI (0 : Int32)), none]) ⟨rfl, ⟨rfl, trivial⟩⟩ ?_
  exact mB_X3_reckonHeldUnits_2 hlv hF hxn hr hE  f1 S n (0 : Int32) h
set_option maxRecDepth 100000 in
set_option maxHeartbeats 4000000 in
theorem mB_X3_reckonDues_14 {F : fX} {lv : Nat} (hlv : 8 ≤ lv) (hF : fOk F cX3_reckonDues RX3 lv) (hxn : xn F = 3) (hr : (xM F).sig.returnType = none) {post : fMS → Nat → Prop} {o : Nat} (hE : fEnd F lv (fPV post)) : ∀ (f : Nat) (S : fMS) (n : Nat) (x1 : Int32) (h : wB_X3_reckonDues_14 post o f S n x1), fV F S n 14 [some (aR (some o)), some (aI x1), none] [] := by
  intro f
  induction f with
  | zero => intro _ _ _ h; exact h.elim
  | succ f ih =>
    intro S n x1 h
    simp only [wB_X3_reckonDues_14] at h
    refine fV_iload_n hF dX3_reckonDues_14 rfl rfl ?_
    refine fV_aload_n hF dX3_reckonDues_15 rfl rfl ?_
    obtain ⟨hA1, h⟩ := h
    refine fV_getR (k := 4) (i := 0) hF fK4 rfl hA1 (by decide) fw_192 (Or.inl rfl) rfl dX3_reckonDues_16 ?_
    obtain ⟨a2, e3, hA4, h⟩ := h
    refine fV_callV (k := 6) (As := []) hF (mc_Jx4a65c_size_8abf5 hF.2.2.2.2.2.2.2.2.1 h) fK6 e3 hA4 (by omega) fw_233 fw_230 fw_231 fw_232 fw_4 ⟨rfl, by decide, by decide, by decide +kernel⟩ (na := 0) rfl (by decide) (Nat.le_of_ble_eq_true rfl) dX3_reckonDues_19 rfl (fun rv S9 n9 hp => ?_)
    obtain ⟨v5, rfl, rfl, rfl, h⟩ := hp
    refine fV_icmp_ge (tgt := 58) hF dX3_reckonDues_22 (by decide) (fun c6 => ?_) (fun c6 => ?_)
    · have h := h.1 c6
      exact fV_vret hF hE.s (by omega) hr dX3_reckonDues_58 ⟨rfl, h⟩
    · have h := h.2 c6
      refine fV_aload_n hF dX3_reckonDues_25 rfl rfl ?_
      refine fV_getR (k := 4) (i := 0) hF fK4 rfl hA1 (by decide) fw_192 (Or.inl rfl) rfl dX3_reckonDues_26 ?_
      refine fV_iload_n hF dX3_reckonDues_29 rfl rfl ?_
      refine fV_callV (k := 6) (As := [(aI x1)]) hF (mc_Jx4a65c_get_915e3 hF.2.2.2.2.2.2.2.2.1 h) fK6 e3 hA4 (by omega) fw_257 fw_254 fw_255 fw_256 fw_4 ⟨rfl, by decide, by decide, by decide +kernel⟩ (na := 1) rfl (by decide) (Nat.le_of_ble_eq_true rfl) dX3_reckonDues_30 rfl (fun rv S9 n9 hp => ?_)
      obtain ⟨r7, rfl, rfl, rfl, h⟩ := hp
      obtain ⟨a8, e9, hA10, h⟩ := h
      refine fV_castK (k := 3) hF fK3 e9 hA10 fw_66 dX3_reckonDues_33 ?_
      refine fV_astore_n0 hF [some (aR (some o)), some (aI x1), some (aR r7)] dX3_reckonDues_36 rfl (by rw [hxn]; decide) rfl rfl ?_
      refine fV_aload_n hF dX3_reckonDues_37 rfl rfl ?_
      refine fV_aload_n hF dX3_reckonDues_38 rfl rfl ?_
      refine fV_getI (k := 3) (i := 9) hF fK3 e9 hA10 (by decide) fw_93 (Or.inl rfl) rfl dX3_reckonDues_39 ?_
      refine fV_aload_n hF dX3_reckonDues_42 rfl rfl ?_
      refine fV_getI (k := 3) (i := 11) hF fK3 e9 hA10 (by decide) fw_97 (Or.inl rfl) rfl dX3_reckonDues_43 ?_
      refine fV_max hF (by omega) (Nat.le_of_ble_eq_true rfl) fw_303 dX3_reckonDues_46 ?_
      refine fV_putI (k := 3) (i := 12) hF fK3 tyX2_ok nmX2 e9 hA10 (by decide) rfl fw_99 (Or.inl rfl) (Or.inl rfl) rfl rfl dX3_reckonDues_49 ?_
      refine fV_iinc (v := 1) hF (fun y => [some (aR (some o)), some (aI y), some (aR r7)]) dX3_reckonDues_52 rfl (by decide) (by rw [hxn]; decide) rfl (fun _ => rfl) (fun v11 ev11 => ?_)
      have h := h v11 ev11
      refine fV_goto (tgt := 14) hF dX3_reckonDues_55 (by decide) ?_
      refine fV.sub (l' := [some (aR (some o)), some (aI v11), none]) ⟨rfl, ⟨rfl, trivial⟩⟩ ?_
      exact ih (wI S a8 12 (if (sI S a8 9) < (sI S a8 11) then (sI S a8 11) else (sI S a8 9))) n v11 h
set_option maxRecDepth 100000 in
set_option maxHeartbeats 4000000 in
theorem mc_X3_reckonDues {l : Launch} (hfl : l.stackTraces = false) {G : fG} {S : fMS} {n : Nat} {o : Nat} {post : fMS → Nat → Prop} (h : wp_X3_reckonDues S n o post) : fCM l yX3_reckonDues (.code yX3_reckonDues cX3_reckonDues 3 none) 8 G [(aR (some o))] S n (fPV post) := by
  refine fCM_of hfl (by decide) (by intro v hv; simp only [List.mem_cons, List.not_mem_nil, or_false] at hv; rcases hv with rfl <;> rfl) (Nat.le_of_ble_eq_true rfl) (fun F hF hxn hl hG hr hin hE => ?_)
  subst hl hG
  have hlv : 8 ≤ 8 := Nat.le_refl _
  show fV F S n 0 [some (aR (some o)), none, none] []
  unfold wp_X3_reckonDues at h
  refine fV_aload_n hF dX3_reckonDues_0 rfl rfl ?_
  obtain ⟨hA1, h⟩ := h
  refine fV_callV (k := 4) (As := []) hF (mc_X3_reckonDemands hF.2.2.2.2.2.2.2.2.1 h) fK4 rfl hA1 (by omega) fw_253 fw_250 fw_252 fwp_4 fw_1 ⟨rfl, by decide, by decide, by decide +kernel⟩ (na := 0) rfl (by decide) (Nat.le_of_ble_eq_true rfl) dX3_reckonDues_1 rfl (fun rv S2 n3 hp => ?_)
  obtain ⟨rfl, h⟩ := hp
  refine fV_aload_n hF dX3_reckonDues_4 rfl rfl ?_
  obtain ⟨hA4, h⟩ := h
  refine fV_callV (k := 4) (As := []) hF (mc_X3_dealShares hF.2.2.2.2.2.2.2.2.1 h) fK4 rfl hA4 (by omega) fw_277 fw_274 fw_276 fwp_5 fw_1 ⟨rfl, by decide, by decide, by decide +kernel⟩ (na := 0) rfl (by decide) (Nat.le_of_ble_eq_true rfl) dX3_reckonDues_5 rfl (fun rv S5 n6 hp => ?_)
  obtain ⟨rfl, h⟩ := hp
  refine fV_aload_n hF dX3_reckonDues_8 rfl rfl ?_
  obtain ⟨hA7, h⟩ := h
  refine fV_callV (k := 4) (As := []) hF (mc_X3_reckonHeldUnits hF.2.2.2.2.2.2.2.2.1 h) fK4 rfl hA7 (by omega) fw_301 fw_298 fw_300 fwp_9 fw_1 ⟨rfl, by decide, by decide, by decide +kernel⟩ (na := 0) rfl (by decide) (Nat.le_of_ble_eq_true rfl) dX3_reckonDues_9 rfl (fun rv S8 n9 hp => ?_)
  obtain ⟨rfl, h⟩ := hp
  refine fV_iconst (v := 0) hF dX3_reckonDues_12 (by decide) ?_
  refine fV_istore_n0 hF [some (aR (some o)), some (aI (0 : Int32)), none] dX3_reckonDues_13 rfl (by rw [hxn]; decide) rfl rfl ?_
  obtain ⟨f1, h⟩ := h
  refine fV.sub (l' := [some (aR (some o)), some (aI (0 : Int32)), none]) ⟨rfl, ⟨rfl, trivial⟩⟩ ?_
  exact mB_X3_reckonDues_14 hlv hF hxn hr hE  f1 S8 n9 (0 : Int32) h
set_option maxRecDepth 100000 in
set_option maxHeartbeats 4000000 in
theorem mB_X3_firstJob_2 {F : fX} {lv : Nat} (hlv : 4 ≤ lv) (hF : fOk F cX3_firstJob RX3 lv) (hxn : xn F = 4) (hr : (xM F).sig.returnType = (some (.object "FairquotaBroker$Job"))) {S : fMS} {n : Nat} {post : Option Nat → Prop} {o : Nat} {p1 : Option Nat} (hE : fEnd F lv (fPR (fun x S' n' => S = S' ∧ n = n' ∧ post x))) : ∀ (f : Nat) (x2 : Int32) (h : wB_X3_firstJob_2 S post o p1 f x2), fV F S n 2 [some (aR (some o)), some (aR p1), some (aI x2), none] [] := by
  intro f
  induction f with
  | zero => intro _ h; exact h.elim
  | succ f ih =>
    intro x2 h
    simp only [wB_X3_firstJob_2] at h
    refine fV_iload_n hF dX3_firstJob_2 rfl rfl ?_
    refine fV_aload_n hF dX3_firstJob_3 rfl rfl ?_
    obtain ⟨hA1, h⟩ := h
    refine fV_getR (k := 4) (i := 3) hF fK4 rfl hA1 (by decide) fw_195 (Or.inl rfl) rfl dX3_firstJob_4 ?_
    obtain ⟨a2, e3, hA4, h⟩ := h
    refine fV_callV (k := 6) (As := []) hF (mc_Jx4a65c_size_8abf5 hF.2.2.2.2.2.2.2.2.1 h) fK6 e3 hA4 (by omega) fw_233 fw_230 fw_231 fw_232 fw_4 ⟨rfl, by decide, by decide, by decide +kernel⟩ (na := 0) rfl (by decide) (Nat.le_of_ble_eq_true rfl) dX3_firstJob_7 rfl (fun rv S9 n9 hp => ?_)
    obtain ⟨v5, rfl, rfl, rfl, h⟩ := hp
    refine fV_icmp_ge (tgt := 50) hF dX3_firstJob_10 (by decide) (fun c6 => ?_) (fun c6 => ?_)
    · have h := h.1 c6
      refine fV_null hF dX3_firstJob_50 ?_
      exact fV_aret hF hE.s (by omega) hr (Or.inl ⟨_, rfl⟩) dX3_firstJob_51 ⟨_, rfl, rfl, rfl, h⟩
    · have h := h.2 c6
      refine fV_aload_n hF dX3_firstJob_13 rfl rfl ?_
      refine fV_getR (k := 4) (i := 3) hF fK4 rfl hA1 (by decide) fw_195 (Or.inl rfl) rfl dX3_firstJob_14 ?_
      refine fV_iload_n hF dX3_firstJob_17 rfl rfl ?_
      refine fV_callV (k := 6) (As := [(aI x2)]) hF (mc_Jx4a65c_get_915e3 hF.2.2.2.2.2.2.2.2.1 h) fK6 e3 hA4 (by omega) fw_257 fw_254 fw_255 fw_256 fw_4 ⟨rfl, by decide, by decide, by decide +kernel⟩ (na := 1) rfl (by decide) (Nat.le_of_ble_eq_true rfl) dX3_firstJob_18 rfl (fun rv S9 n9 hp => ?_)
      obtain ⟨r7, rfl, rfl, rfl, h⟩ := hp
      obtain ⟨a8, e9, hA10, h⟩ := h
      refine fV_castK (k := 1) hF fK1 e9 hA10 fw_268 dX3_firstJob_21 ?_
      refine fV_astore_n0 hF [some (aR (some o)), some (aR p1), some (aI x2), some (aR r7)] dX3_firstJob_24 rfl (by rw [hxn]; decide) rfl rfl ?_
      refine fV_aload_n hF dX3_firstJob_25 rfl rfl ?_
      refine fV_getR (k := 1) (i := 1) hF fK1 e9 hA10 (by decide) fw_879 (Or.inl rfl) rfl dX3_firstJob_26 ?_
      refine fV_aload_n hF dX3_firstJob_29 rfl rfl ?_
      refine fV_acmp_ne (tgt := 44) hF dX3_firstJob_30 (by decide) (fun c11 => ?_) (fun c11 => ?_)
      · have h := h.1 c11
        refine fV_iinc (v := 1) hF (fun y => [some (aR (some o)), some (aR p1), some (aI y), some (aR r7)]) dX3_firstJob_44 rfl (by decide) (by rw [hxn]; decide) rfl (fun _ => rfl) (fun v12 ev12 => ?_)
        have h := h v12 ev12
        refine fV_goto (tgt := 2) hF dX3_firstJob_47 (by decide) ?_
        refine fV.sub (l' := [some (aR (some o)), some (aR p1), some (aI v12), none]) ⟨rfl, ⟨rfl, ⟨rfl, trivial⟩⟩⟩ ?_
        exact ih v12 h
      · have h := h.2 c11
        refine fV_aload_n hF dX3_firstJob_33 rfl rfl ?_
        refine fV_getI (k := 1) (i := 4) hF fK1 e9 hA10 (by decide) fw_885 (Or.inl rfl) rfl dX3_firstJob_34 ?_
        refine fV_bipush (v := 119) hF dX3_firstJob_37 (by decide) ?_
        refine fV_icmp_ne (tgt := 44) hF dX3_firstJob_39 (by decide) (fun c13 => ?_) (fun c13 => ?_)
        · have h := h.1 c13
          refine fV_iinc (v := 1) hF (fun y => [some (aR (some o)), some (aR p1), some (aI y), some (aR r7)]) dX3_firstJob_44 rfl (by decide) (by rw [hxn]; decide) rfl (fun _ => rfl) (fun v14 ev14 => ?_)
          have h := h v14 ev14
          refine fV_goto (tgt := 2) hF dX3_firstJob_47 (by decide) ?_
          refine fV.sub (l' := [some (aR (some o)), some (aR p1), some (aI v14), none]) ⟨rfl, ⟨rfl, ⟨rfl, trivial⟩⟩⟩ ?_
          exact ih v14 h
        · have h := h.2 c13
          refine fV_aload_n hF dX3_firstJob_42 rfl rfl ?_
          exact fV_aret hF hE.s (by omega) hr (Or.inl ⟨_, rfl⟩) dX3_firstJob_43 ⟨_, rfl, rfl, rfl, h⟩
set_option maxRecDepth 100000 in
set_option maxHeartbeats 4000000 in
theorem mc_X3_firstJob {l : Launch} (hfl : l.stackTraces = false) {G : fG} {S : fMS} {n : Nat} {o : Nat} {p1 : Option Nat} {post : Option Nat → Prop} (h : wp_X3_firstJob S o p1 post) : fCM l yX3_firstJob (.code yX3_firstJob cX3_firstJob 4 (some (.object "FairquotaBroker$Job"))) 4 G [(aR (some o)), (aR p1)] S n (fPR (fun x S' n' => S = S' ∧ n = n' ∧ post x)) := by
  refine fCM_of hfl (by decide) (by intro v hv; simp only [List.mem_cons, List.not_mem_nil, or_false] at hv; rcases hv with rfl | rfl <;> rfl) (Nat.le_of_ble_eq_true rfl) (fun F hF hxn hl hG hr hin hE => ?_)
  subst hl hG
  have hlv : 4 ≤ 4 := Nat.le_refl _
  show fV F S n 0 [some (aR (some o)), some (aR p1), none, none] []
  unfold wp_X3_firstJob at h
  refine fV_iconst (v := 0) hF dX3_firstJob_0 (by decide) ?_
  refine fV_istore_n0 hF [some (aR (some o)), some (aR p1), some (aI (0 : Int32)), none] dX3_firstJob_1 rfl (by rw [hxn]; decide) rfl rfl ?_
  obtain ⟨f1, h⟩ := h
  refine fV.sub (l' := [some (aR (some o)), some (aR p1), some (aI (0 : Int32)), none]) ⟨rfl, ⟨rfl, ⟨rfl, trivial⟩⟩⟩ ?_
  exact mB_X3_firstJob_2 hlv hF hxn hr hE  f1 (0 : Int32) h
set_option maxRecDepth 100000 in
set_option maxHeartbeats 4000000 in
theorem mB_X3_placeInLine_2 {F : fX} {lv : Nat} (hlv : 4 ≤ lv) (hF : fOk F cX3_placeInLine RX3 lv) (hxn : xn F = 3) (hr : (xM F).sig.returnType = (some .int)) {S : fMS} {n : Nat} {post : Int32 → Prop} {o : Nat} {p1 : Option Nat} (hE : fEnd F lv (fPI (fun x S' n' => S = S' ∧ n = n' ∧ post x))) : ∀ (f : Nat) (x2 : Int32) (h : wB_X3_placeInLine_2 S post o p1 f x2), fV F S n 2 [some (aR (some o)), some (aR p1), some (aI x2)] [] := by
  intro f
  induction f with
  | zero => intro _ h; exact h.elim
  | succ f ih =>
    intro x2 h
    simp only [wB_X3_placeInLine_2] at h
    refine fV_iload_n hF dX3_placeInLine_2 rfl rfl ?_
    refine fV_aload_n hF dX3_placeInLine_3 rfl rfl ?_
    obtain ⟨hA1, h⟩ := h
    refine fV_getR (k := 4) (i := 5) hF fK4 rfl hA1 (by decide) fw_197 (Or.inl rfl) rfl dX3_placeInLine_4 ?_
    obtain ⟨a2, e3, hA4, h⟩ := h
    refine fV_callV (k := 6) (As := []) hF (mc_Jx4a65c_size_8abf5 hF.2.2.2.2.2.2.2.2.1 h) fK6 e3 hA4 (by omega) fw_233 fw_230 fw_231 fw_232 fw_4 ⟨rfl, by decide, by decide, by decide +kernel⟩ (na := 0) rfl (by decide) (Nat.le_of_ble_eq_true rfl) dX3_placeInLine_7 rfl (fun rv S9 n9 hp => ?_)
    obtain ⟨v5, rfl, rfl, rfl, h⟩ := hp
    refine fV_icmp_ge (tgt := 40) hF dX3_placeInLine_10 (by decide) (fun c6 => ?_) (fun c6 => ?_)
    · have h := h.1 c6
      refine fV_iload_n hF dX3_placeInLine_40 rfl rfl ?_
      exact fV_iret hF hE.s (by omega) hr rfl dX3_placeInLine_41 ⟨_, rfl, rfl, rfl, h⟩
    · have h := h.2 c6
      refine fV_aload_n hF dX3_placeInLine_13 rfl rfl ?_
      refine fV_aload_n hF dX3_placeInLine_14 rfl rfl ?_
      refine fV_getR (k := 4) (i := 5) hF fK4 rfl hA1 (by decide) fw_197 (Or.inl rfl) rfl dX3_placeInLine_15 ?_
      refine fV_iload_n hF dX3_placeInLine_18 rfl rfl ?_
      refine fV_callV (k := 6) (As := [(aI x2)]) hF (mc_Jx4a65c_get_915e3 hF.2.2.2.2.2.2.2.2.1 h) fK6 e3 hA4 (by omega) fw_257 fw_254 fw_255 fw_256 fw_4 ⟨rfl, by decide, by decide, by decide +kernel⟩ (na := 1) rfl (by decide) (Nat.le_of_ble_eq_true rfl) dX3_placeInLine_19 rfl (fun rv S9 n9 hp => ?_)
      obtain ⟨r7, rfl, rfl, rfl, h⟩ := hp
      obtain ⟨a8, e9, hA10, h⟩ := h
      refine fV_castK (k := 1) hF fK1 e9 hA10 fw_268 dX3_placeInLine_22 ?_
      refine fV_getR (k := 1) (i := 1) hF fK1 e9 hA10 (by decide) fw_879 (Or.inl rfl) rfl dX3_placeInLine_25 ?_
      obtain ⟨a11, e12, hA13, h⟩ := h
      refine fV_callV (k := 3) (As := [(aR (sR S a8 1))]) hF (mc_X2_usedLessThan hF.2.2.2.2.2.2.2.2.1 h) fK3 e12 hA13 (by omega) fw_355 fw_352 fw_353 fw_354 fw_5 ⟨rfl, by decide, by decide, by decide +kernel⟩ (na := 1) rfl (by decide) (Nat.le_of_ble_eq_true rfl) dX3_placeInLine_28 rfl (fun rv S9 n9 hp => ?_)
      obtain ⟨v14, rfl, rfl, rfl, h⟩ := hp
      refine fV_if_ne (tgt := 40) hF dX3_placeInLine_31 (by decide) (fun c15 => ?_) (fun c15 => ?_)
      · have h := h.1 c15
        refine fV_iload_n hF dX3_placeInLine_40 rfl rfl ?_
        exact fV_iret hF hE.s (by omega) hr rfl dX3_placeInLine_41 ⟨_, rfl, rfl, rfl, h⟩
      · have h := h.2 c15
        refine fV_iinc (v := 1) hF (fun y => [some (aR (some o)), some (aR p1), some (aI y)]) dX3_placeInLine_34 rfl (by decide) (by rw [hxn]; decide) rfl (fun _ => rfl) (fun v16 ev16 => ?_)
        have h := h v16 ev16
        refine fV_goto (tgt := 2) hF dX3_placeInLine_37 (by decide) ?_
        refine fV.sub (l' := [some (aR (some o)), some (aR p1), some (aI v16)]) ⟨rfl, ⟨rfl, ⟨rfl, trivial⟩⟩⟩ ?_
        exact ih v16 h
set_option maxRecDepth 100000 in
set_option maxHeartbeats 4000000 in
theorem mc_X3_placeInLine {l : Launch} (hfl : l.stackTraces = false) {G : fG} {S : fMS} {n : Nat} {o : Nat} {p1 : Option Nat} {post : Int32 → Prop} (h : wp_X3_placeInLine S o p1 post) : fCM l yX3_placeInLine (.code yX3_placeInLine cX3_placeInLine 3 (some .int)) 4 G [(aR (some o)), (aR p1)] S n (fPI (fun x S' n' => S = S' ∧ n = n' ∧ post x)) := by
  refine fCM_of hfl (by decide) (by intro v hv; simp only [List.mem_cons, List.not_mem_nil, or_false] at hv; rcases hv with rfl | rfl <;> rfl) (Nat.le_of_ble_eq_true rfl) (fun F hF hxn hl hG hr hin hE => ?_)
  subst hl hG
  have hlv : 4 ≤ 4 := Nat.le_refl _
  show fV F S n 0 [some (aR (some o)), some (aR p1), none] []
  unfold wp_X3_placeInLine at h
  refine fV_iconst (v := 0) hF dX3_placeInLine_0 (by decide) ?_
  refine fV_istore_n0 hF [some (aR (some o)), some (aR p1), some (aI (0 : Int32))] dX3_placeInLine_1 rfl (by rw [hxn]; decide) rfl rfl ?_
  obtain ⟨f1, h⟩ := h
  refine fV.sub (l' := [some (aR (some o)), some (aR p1), some (aI (0 : Int32))]) ⟨rfl, ⟨rfl, ⟨rfl, trivial⟩⟩⟩ ?_
  exact mB_X3_placeInLine_2 hlv hF hxn hr hE  f1 (0 : Int32) h
set_option maxRecDepth 100000 in
set_option maxHeartbeats 4000000 in
theorem mB_X3_formLine_9 {F : fX} {lv : Nat} (hlv : 6 ≤ lv) (hF : fOk F cX3_formLine RX3 lv) (hxn : xn F = 3) (hr : (xM F).sig.returnType = none) {post : fMS → Nat → Prop} {o : Nat} (hE : fEnd F lv (fPV post)) : ∀ (f : Nat) (S : fMS) (n : Nat) (x1 : Int32) (h : wB_X3_formLine_9 post o f S n x1), fV F S n 9 [some (aR (some o)), some (aI x1), none] [] := by
  intro f
  induction f with
  | zero => intro _ _ _ h; exact h.elim
  | succ f ih =>
    intro S n x1 h
    simp only [wB_X3_formLine_9] at h
    refine fV_iload_n hF dX3_formLine_9 rfl rfl ?_
    refine fV_aload_n hF dX3_formLine_10 rfl rfl ?_
    obtain ⟨hA1, h⟩ := h
    refine fV_getR (k := 4) (i := 0) hF fK4 rfl hA1 (by decide) fw_192 (Or.inl rfl) rfl dX3_formLine_11 ?_
    obtain ⟨a2, e3, hA4, h⟩ := h
    refine fV_callV (k := 6) (As := []) hF (mc_Jx4a65c_size_8abf5 hF.2.2.2.2.2.2.2.2.1 h) fK6 e3 hA4 (by omega) fw_233 fw_230 fw_231 fw_232 fw_4 ⟨rfl, by decide, by decide, by decide +kernel⟩ (na := 0) rfl (by decide) (Nat.le_of_ble_eq_true rfl) dX3_formLine_14 rfl (fun rv S9 n9 hp => ?_)
    obtain ⟨v5, rfl, rfl, rfl, h⟩ := hp
    refine fV_icmp_ge (tgt := 62) hF dX3_formLine_17 (by decide) (fun c6 => ?_) (fun c6 => ?_)
    · have h := h.1 c6
      exact fV_vret hF hE.s (by omega) hr dX3_formLine_62 ⟨rfl, h⟩
    · have h := h.2 c6
      refine fV_aload_n hF dX3_formLine_20 rfl rfl ?_
      refine fV_aload_n hF dX3_formLine_21 rfl rfl ?_
      refine fV_getR (k := 4) (i := 0) hF fK4 rfl hA1 (by decide) fw_192 (Or.inl rfl) rfl dX3_formLine_22 ?_
      refine fV_iload_n hF dX3_formLine_25 rfl rfl ?_
      refine fV_callV (k := 6) (As := [(aI x1)]) hF (mc_Jx4a65c_get_915e3 hF.2.2.2.2.2.2.2.2.1 h) fK6 e3 hA4 (by omega) fw_257 fw_254 fw_255 fw_256 fw_4 ⟨rfl, by decide, by decide, by decide +kernel⟩ (na := 1) rfl (by decide) (Nat.le_of_ble_eq_true rfl) dX3_formLine_26 rfl (fun rv S9 n9 hp => ?_)
      obtain ⟨r7, rfl, rfl, rfl, h⟩ := hp
      obtain ⟨a8, e9, hA10, h⟩ := h
      refine fV_castK (k := 3) hF fK3 e9 hA10 fw_66 dX3_formLine_29 ?_
      refine fV_callV (k := 4) (As := [(aR r7)]) hF (mc_X3_firstJob hF.2.2.2.2.2.2.2.2.1 h) fK4 rfl hA1 (by omega) fw_347 fw_344 fw_346 fwp_17 fw_1 ⟨rfl, by decide, by decide, by decide +kernel⟩ (na := 1) rfl (by decide) (Nat.le_of_ble_eq_true rfl) dX3_formLine_32 rfl (fun rv S9 n9 hp => ?_)
      obtain ⟨r11, rfl, rfl, rfl, h⟩ := hp
      refine fV_astore_n0 hF [some (aR (some o)), some (aI x1), some (aR r11)] dX3_formLine_35 rfl (by rw [hxn]; decide) rfl rfl ?_
      refine fV_aload_n hF dX3_formLine_36 rfl rfl ?_
      refine fV_ifnull (tgt := 56) hF dX3_formLine_37 (by decide) (fun c12 => ?_) (fun c12 => ?_)
      · have h := h.1 c12
        refine fV_iinc (v := 1) hF (fun y => [some (aR (some o)), some (aI y), some (aR r11)]) dX3_formLine_56 rfl (by decide) (by rw [hxn]; decide) rfl (fun _ => rfl) (fun v13 ev13 => ?_)
        have h := h v13 ev13
        refine fV_goto (tgt := 9) hF dX3_formLine_59 (by decide) ?_
        refine fV.sub (l' := [some (aR (some o)), some (aI v13), none]) ⟨rfl, ⟨rfl, trivial⟩⟩ ?_
        exact ih S n v13 h
      · have h := h.2 c12
        refine fV_aload_n hF dX3_formLine_40 rfl rfl ?_
        refine fV_getR (k := 4) (i := 5) hF fK4 rfl hA1 (by decide) fw_197 (Or.inl rfl) rfl dX3_formLine_41 ?_
        refine fV_aload_n hF dX3_formLine_44 rfl rfl ?_
        refine fV_aload_n hF dX3_formLine_45 rfl rfl ?_
        obtain ⟨a14, e15, hA16, h⟩ := h
        refine fV_getR (k := 1) (i := 1) hF fK1 e15 hA16 (by decide) fw_879 (Or.inl rfl) rfl dX3_formLine_46 ?_
        refine fV_callV (k := 4) (As := [(aR (sR S a14 1))]) hF (mc_X3_placeInLine hF.2.2.2.2.2.2.2.2.1 h) fK4 rfl hA1 (by omega) fw_351 fw_348 fw_350 fwp_18 fw_1 ⟨rfl, by decide, by decide, by decide +kernel⟩ (na := 1) rfl (by decide) (Nat.le_of_ble_eq_true rfl) dX3_formLine_49 rfl (fun rv S9 n9 hp => ?_)
        obtain ⟨v17, rfl, rfl, rfl, h⟩ := hp
        refine fV_aload_n hF dX3_formLine_52 rfl rfl ?_
        obtain ⟨a18, e19, hA20, h⟩ := h
        refine fV_callV (k := 6) (As := [(aI v17), (aR r11)]) hF (mc_Jx4a65c_add_7a177 hF.2.2.2.2.2.2.2.2.1 h) fK6 e19 hA20 (by omega) fw_359 fw_356 fw_357 fw_358 fw_4 ⟨rfl, by decide, by decide, by decide +kernel⟩ (na := 2) rfl (by decide) (Nat.le_of_ble_eq_true rfl) dX3_formLine_53 rfl (fun rv S21 n22 hp => ?_)
        obtain ⟨rfl, h⟩ := hp
        refine fV_iinc (v := 1) hF (fun y => [some (aR (some o)), some (aI y), some (aR r11)]) dX3_formLine_56 rfl (by decide) (by rw [hxn]; decide) rfl (fun _ => rfl) (fun v23 ev23 => ?_)
        have h := h v23 ev23
        refine fV_goto (tgt := 9) hF dX3_formLine_59 (by decide) ?_
        refine fV.sub (l' := [some (aR (some o)), some (aI v23), none]) ⟨rfl, ⟨rfl, trivial⟩⟩ ?_
        exact ih S21 n22 v23 h
set_option maxRecDepth 100000 in
set_option maxHeartbeats 4000000 in
theorem mc_X3_formLine {l : Launch} (hfl : l.stackTraces = false) {G : fG} {S : fMS} {n : Nat} {o : Nat} {post : fMS → Nat → Prop} (h : wp_X3_formLine S n o post) : fCM l yX3_formLine (.code yX3_formLine cX3_formLine 3 none) 6 G [(aR (some o))] S n (fPV post) := by
  refine fCM_of hfl (by decide) (by intro v hv; simp only [List.mem_cons, List.not_mem_nil, or_false] at hv; rcases hv with rfl <;> rfl) (Nat.le_of_ble_eq_true rfl) (fun F hF hxn hl hG hr hin hE => ?_)
  subst hl hG
  have hlv : 6 ≤ 6 := Nat.le_refl _
  show fV F S n 0 [some (aR (some o)), none, none] []
  unfold wp_X3_formLine at h
  refine fV_aload_n hF dX3_formLine_0 rfl rfl ?_
  obtain ⟨hA1, h⟩ := h
  refine fV_getR (k := 4) (i := 5) hF fK4 rfl hA1 (by decide) fw_197 (Or.inl rfl) rfl dX3_formLine_1 ?_
  obtain ⟨a2, e3, hA4, h⟩ := h
  refine fV_callV (k := 6) (As := []) hF (mc_Jx4a65c_clear_da8c8 hF.2.2.2.2.2.2.2.2.1 h) fK6 e3 hA4 (by omega) fw_343 fw_340 fw_341 fw_342 fw_4 ⟨rfl, by decide, by decide, by decide +kernel⟩ (na := 0) rfl (by decide) (Nat.le_of_ble_eq_true rfl) dX3_formLine_4 rfl (fun rv S5 n6 hp => ?_)
  obtain ⟨rfl, h⟩ := hp
  refine fV_iconst (v := 0) hF dX3_formLine_7 (by decide) ?_
  refine fV_istore_n0 hF [some (aR (some o)), some (aI (0 : Int32)), none] dX3_formLine_8 rfl (by rw [hxn]; decide) rfl rfl ?_
  obtain ⟨f1, h⟩ := h
  refine fV.sub (l' := [some (aR (some o)), some (aI (0 : Int32)), none]) ⟨rfl, ⟨rfl, trivial⟩⟩ ?_
  exact mB_X3_formLine_9 hlv hF hxn hr hE  f1 S5 n6 (0 : Int32) h
set_option maxRecDepth 100000 in
set_option maxHeartbeats 4000000 in
theorem mB_X3_freeUnits_15 {F : fX} {lv : Nat} (hlv : 4 ≤ lv) (hF : fOk F cX3_freeUnits RX3 lv) (hxn : xn F = 5) (hr : (xM F).sig.returnType = (some .int)) {S : fMS} {n : Nat} {post : Int32 → Prop} {o : Nat} {p1 : Option Nat} (hE : fEnd F lv (fPI (fun x S' n' => S = S' ∧ n = n' ∧ post x))) : ∀ (f : Nat) (x2 : Int32) (x3 : Int32) (h : wB_X3_freeUnits_15 S post o p1 f x2 x3), fV F S n 15 [some (aR (some o)), some (aR p1), some (aI x2), some (aI x3), none] [] := by
  intro f
  induction f with
  | zero => intro _ _ h; exact h.elim
  | succ f ih =>
    intro x2 x3 h
    simp only [wB_X3_freeUnits_15] at h
    refine fV_iload_n hF dX3_freeUnits_15 rfl rfl ?_
    refine fV_aload_n hF dX3_freeUnits_16 rfl rfl ?_
    obtain ⟨hA1, h⟩ := h
    refine fV_getR (k := 4) (i := 0) hF fK4 rfl hA1 (by decide) fw_192 (Or.inl rfl) rfl dX3_freeUnits_17 ?_
    obtain ⟨a2, e3, hA4, h⟩ := h
    refine fV_callV (k := 6) (As := []) hF (mc_Jx4a65c_size_8abf5 hF.2.2.2.2.2.2.2.2.1 h) fK6 e3 hA4 (by omega) fw_233 fw_230 fw_231 fw_232 fw_4 ⟨rfl, by decide, by decide, by decide +kernel⟩ (na := 0) rfl (by decide) (Nat.le_of_ble_eq_true rfl) dX3_freeUnits_20 rfl (fun rv S9 n9 hp => ?_)
    obtain ⟨v5, rfl, rfl, rfl, h⟩ := hp
    refine fV_icmp_ge (tgt := 78) hF dX3_freeUnits_23 (by decide) (fun c6 => ?_) (fun c6 => ?_)
    · have h := h.1 c6
      refine fV_iload_n hF dX3_freeUnits_78 rfl rfl ?_
      exact fV_iret hF hE.s (by omega) hr rfl dX3_freeUnits_79 ⟨_, rfl, rfl, rfl, h⟩
    · have h := h.2 c6
      refine fV_aload_n hF dX3_freeUnits_26 rfl rfl ?_
      refine fV_getR (k := 4) (i := 0) hF fK4 rfl hA1 (by decide) fw_192 (Or.inl rfl) rfl dX3_freeUnits_27 ?_
      refine fV_iload_n hF dX3_freeUnits_30 rfl rfl ?_
      refine fV_callV (k := 6) (As := [(aI x3)]) hF (mc_Jx4a65c_get_915e3 hF.2.2.2.2.2.2.2.2.1 h) fK6 e3 hA4 (by omega) fw_257 fw_254 fw_255 fw_256 fw_4 ⟨rfl, by decide, by decide, by decide +kernel⟩ (na := 1) rfl (by decide) (Nat.le_of_ble_eq_true rfl) dX3_freeUnits_31 rfl (fun rv S9 n9 hp => ?_)
      obtain ⟨r7, rfl, rfl, rfl, h⟩ := hp
      obtain ⟨a8, e9, hA10, h⟩ := h
      refine fV_castK (k := 3) hF fK3 e9 hA10 fw_66 dX3_freeUnits_34 ?_
      refine fV_astore0 hF [some (aR (some o)), some (aR p1), some (aI x2), some (aI x3), some (aR r7)] dX3_freeUnits_37 (by rw [hxn]; decide) rfl rfl ?_
      refine fV_aload hF dX3_freeUnits_39 rfl ?_
      refine fV_aload_n hF dX3_freeUnits_41 rfl rfl ?_
      refine fV_acmp_eq (tgt := 72) hF dX3_freeUnits_42 (by decide) (fun c11 => ?_) (fun c11 => ?_)
      · have h := h.1 c11
        refine fV_iinc (v := 1) hF (fun y => [some (aR (some o)), some (aR p1), some (aI x2), some (aI y), some (aR r7)]) dX3_freeUnits_72 rfl (by decide) (by rw [hxn]; decide) rfl (fun _ => rfl) (fun v12 ev12 => ?_)
        have h := h v12 ev12
        refine fV_goto (tgt := 15) hF dX3_freeUnits_75 (by decide) ?_
        refine fV.sub (l' := [some (aR (some o)), some (aR p1), some (aI x2), some (aI v12), none]) ⟨rfl, ⟨rfl, ⟨rfl, ⟨rfl, trivial⟩⟩⟩⟩ ?_
        exact ih x2 v12 h
      · have h := h.2 c11
        refine fV_aload hF dX3_freeUnits_45 rfl ?_
        refine fV_getI (k := 3) (i := 11) hF fK3 e9 hA10 (by decide) fw_97 (Or.inl rfl) rfl dX3_freeUnits_47 ?_
        refine fV_aload hF dX3_freeUnits_50 rfl ?_
        refine fV_getI (k := 3) (i := 6) hF fK3 e9 hA10 (by decide) fw_87 (Or.inl rfl) rfl dX3_freeUnits_52 ?_
        refine fV_icmp_le (tgt := 72) hF dX3_freeUnits_55 (by decide) (fun c13 => ?_) (fun c13 => ?_)
        · have h := h.1 c13
          refine fV_iinc (v := 1) hF (fun y => [some (aR (some o)), some (aR p1), some (aI x2), some (aI y), some (aR r7)]) dX3_freeUnits_72 rfl (by decide) (by rw [hxn]; decide) rfl (fun _ => rfl) (fun v14 ev14 => ?_)
          have h := h v14 ev14
          refine fV_goto (tgt := 15) hF dX3_freeUnits_75 (by decide) ?_
          refine fV.sub (l' := [some (aR (some o)), some (aR p1), some (aI x2), some (aI v14), none]) ⟨rfl, ⟨rfl, ⟨rfl, ⟨rfl, trivial⟩⟩⟩⟩ ?_
          exact ih x2 v14 h
        · have h := h.2 c13
          refine fV_iload_n hF dX3_freeUnits_58 rfl rfl ?_
          refine fV_aload hF dX3_freeUnits_59 rfl ?_
          refine fV_getI (k := 3) (i := 11) hF fK3 e9 hA10 (by decide) fw_97 (Or.inl rfl) rfl dX3_freeUnits_61 ?_
          refine fV_aload hF dX3_freeUnits_64 rfl ?_
          refine fV_getI (k := 3) (i := 6) hF fK3 e9 hA10 (by decide) fw_87 (Or.inl rfl) rfl dX3_freeUnits_66 ?_
          refine fV_isub hF dX3_freeUnits_69 ?_
          refine fV_isub hF dX3_freeUnits_70 ?_
          refine fV_istore_n hF (fun y => [some (aR (some o)), some (aR p1), some (aI y), some (aI x3), some (aR r7)]) dX3_freeUnits_71 rfl (by rw [hxn]; decide) rfl (fun _ => rfl) (fun v15 ev15 => ?_)
          have h := h v15 ev15
          refine fV_iinc (v := 1) hF (fun y => [some (aR (some o)), some (aR p1), some (aI v15), some (aI y), some (aR r7)]) dX3_freeUnits_72 rfl (by decide) (by rw [hxn]; decide) rfl (fun _ => rfl) (fun v16 ev16 => ?_)
          have h := h v16 ev16
          refine fV_goto (tgt := 15) hF dX3_freeUnits_75 (by decide) ?_
          refine fV.sub (l' := [some (aR (some o)), some (aR p1), some (aI v15), some (aI v16), none]) ⟨rfl, ⟨rfl, ⟨rfl, ⟨rfl, trivial⟩⟩⟩⟩ ?_
          exact ih v15 v16 h
set_option maxRecDepth 100000 in
set_option maxHeartbeats 4000000 in
theorem mc_X3_freeUnits {l : Launch} (hfl : l.stackTraces = false) {G : fG} {S : fMS} {n : Nat} {o : Nat} {p1 : Option Nat} {post : Int32 → Prop} (h : wp_X3_freeUnits S o p1 post) : fCM l yX3_freeUnits (.code yX3_freeUnits cX3_freeUnits 5 (some .int)) 4 G [(aR (some o)), (aR p1)] S n (fPI (fun x S' n' => S = S' ∧ n = n' ∧ post x)) := by
  refine fCM_of hfl (by decide) (by intro v hv; simp only [List.mem_cons, List.not_mem_nil, or_false] at hv; rcases hv with rfl | rfl <;> rfl) (Nat.le_of_ble_eq_true rfl) (fun F hF hxn hl hG hr hin hE => ?_)
  subst hl hG
  have hlv : 4 ≤ 4 := Nat.le_refl _
  show fV F S n 0 [some (aR (some o)), some (aR p1), none, none, none] []
  unfold wp_X3_freeUnits at h
  refine fV_aload_n hF dX3_freeUnits_0 rfl rfl ?_
  obtain ⟨hA1, h⟩ := h
  refine fV_getI (k := 4) (i := 7) hF fK4 rfl hA1 (by decide) fw_199 (Or.inl rfl) rfl dX3_freeUnits_1 ?_
  refine fV_aload_n hF dX3_freeUnits_4 rfl rfl ?_
  refine fV_getR (k := 4) (i := 1) hF fK4 rfl hA1 (by decide) fw_193 (Or.inl rfl) rfl dX3_freeUnits_5 ?_
  obtain ⟨a2, e3, hA4, h⟩ := h
  refine fV_getI (k := 3) (i := 6) hF fK3 e3 hA4 (by decide) fw_87 (Or.inl rfl) rfl dX3_freeUnits_8 ?_
  refine fV_isub hF dX3_freeUnits_11 ?_
  refine fV_istore_n hF (fun y => [some (aR (some o)), some (aR p1), some (aI y), none, none]) dX3_freeUnits_12 rfl (by rw [hxn]; decide) rfl (fun _ => rfl) (fun v5 ev5 => ?_)
  have h := h v5 ev5
  refine fV_iconst (v := 0) hF dX3_freeUnits_13 (by decide) ?_
  refine fV_istore_n0 hF [some (aR (some o)), some (aR p1), some (aI v5), some (aI (0 : Int32)), none] dX3_freeUnits_14 rfl (by rw [hxn]; decide) rfl rfl ?_
  obtain ⟨f1, h⟩ := h
  refine fV.sub (l' := [some (aR (some o)), some (aR p1), some (aI v5), some (aI (0 : Int32)), none]) ⟨rfl, ⟨rfl, ⟨rfl, ⟨rfl, trivial⟩⟩⟩⟩ ?_
  exact mB_X3_freeUnits_15 hlv hF hxn hr hE  f1 v5 (0 : Int32) h
set_option maxRecDepth 100000 in
set_option maxHeartbeats 4000000 in
theorem mB_X3_youngestBorrower_4 {F : fX} {lv : Nat} (hlv : 4 ≤ lv) (hF : fOk F cX3_youngestBorrower RX3 lv) (hxn : xn F = 5) (hr : (xM F).sig.returnType = (some (.object "FairquotaBroker$Job"))) {S : fMS} {n : Nat} {post : Option Nat → Prop} {o : Nat} {p1 : Option Nat} (hE : fEnd F lv (fPR (fun x S' n' => S = S' ∧ n = n' ∧ post x))) : ∀ (f : Nat) (x2 : Option Nat) (x3 : Int32) (h : wB_X3_youngestBorrower_4 S post o p1 f x2 x3), fV F S n 4 [some (aR (some o)), some (aR p1), some (aR x2), some (aI x3), none] [] := by
  intro f
  induction f with
  | zero => intro _ _ h; exact h.elim
  | succ f ih =>
    intro x2 x3 h
    simp only [wB_X3_youngestBorrower_4] at h
    refine fV_iload_n hF dX3_youngestBorrower_4 rfl rfl ?_
    refine fV_aload_n hF dX3_youngestBorrower_5 rfl rfl ?_
    obtain ⟨hA1, h⟩ := h
    refine fV_getR (k := 4) (i := 3) hF fK4 rfl hA1 (by decide) fw_195 (Or.inl rfl) rfl dX3_youngestBorrower_6 ?_
    obtain ⟨a2, e3, hA4, h⟩ := h
    refine fV_callV (k := 6) (As := []) hF (mc_Jx4a65c_size_8abf5 hF.2.2.2.2.2.2.2.2.1 h) fK6 e3 hA4 (by omega) fw_233 fw_230 fw_231 fw_232 fw_4 ⟨rfl, by decide, by decide, by decide +kernel⟩ (na := 0) rfl (by decide) (Nat.le_of_ble_eq_true rfl) dX3_youngestBorrower_9 rfl (fun rv S9 n9 hp => ?_)
    obtain ⟨v5, rfl, rfl, rfl, h⟩ := hp
    refine fV_icmp_ge (tgt := 91) hF dX3_youngestBorrower_12 (by decide) (fun c6 => ?_) (fun c6 => ?_)
    · have h := h.1 c6
      refine fV_aload_n hF dX3_youngestBorrower_91 rfl rfl ?_
      exact fV_aret hF hE.s (by omega) hr (Or.inl ⟨_, rfl⟩) dX3_youngestBorrower_92 ⟨_, rfl, rfl, rfl, h⟩
    · have h := h.2 c6
      refine fV_aload_n hF dX3_youngestBorrower_15 rfl rfl ?_
      refine fV_getR (k := 4) (i := 3) hF fK4 rfl hA1 (by decide) fw_195 (Or.inl rfl) rfl dX3_youngestBorrower_16 ?_
      refine fV_iload_n hF dX3_youngestBorrower_19 rfl rfl ?_
      refine fV_callV (k := 6) (As := [(aI x3)]) hF (mc_Jx4a65c_get_915e3 hF.2.2.2.2.2.2.2.2.1 h) fK6 e3 hA4 (by omega) fw_257 fw_254 fw_255 fw_256 fw_4 ⟨rfl, by decide, by decide, by decide +kernel⟩ (na := 1) rfl (by decide) (Nat.le_of_ble_eq_true rfl) dX3_youngestBorrower_20 rfl (fun rv S9 n9 hp => ?_)
      obtain ⟨r7, rfl, rfl, rfl, h⟩ := hp
      obtain ⟨a8, e9, hA10, h⟩ := h
      refine fV_castK (k := 1) hF fK1 e9 hA10 fw_268 dX3_youngestBorrower_23 ?_
      refine fV_astore0 hF [some (aR (some o)), some (aR p1), some (aR x2), some (aI x3), some (aR r7)] dX3_youngestBorrower_26 (by rw [hxn]; decide) rfl rfl ?_
      refine fV_aload hF dX3_youngestBorrower_28 rfl ?_
      refine fV_getI (k := 1) (i := 4) hF fK1 e9 hA10 (by decide) fw_885 (Or.inl rfl) rfl dX3_youngestBorrower_30 ?_
      refine fV_bipush (v := 114) hF dX3_youngestBorrower_33 (by decide) ?_
      refine fV_icmp_ne (tgt := 85) hF dX3_youngestBorrower_35 (by decide) (fun c11 => ?_) (fun c11 => ?_)
      · have h := h.1 c11
        refine fV_iinc (v := 1) hF (fun y => [some (aR (some o)), some (aR p1), some (aR x2), some (aI y), some (aR r7)]) dX3_youngestBorrower_85 rfl (by decide) (by rw [hxn]; decide) rfl (fun _ => rfl) (fun v12 ev12 => ?_)
        have h := h v12 ev12
        refine fV_goto (tgt := 4) hF dX3_youngestBorrower_88 (by decide) ?_
        refine fV.sub (l' := [some (aR (some o)), some (aR p1), some (aR x2), some (aI v12), none]) ⟨rfl, ⟨rfl, ⟨rfl, ⟨rfl, trivial⟩⟩⟩⟩ ?_
        exact ih x2 v12 h
      · have h := h.2 c11
        refine fV_aload hF dX3_youngestBorrower_38 rfl ?_
        refine fV_getR (k := 1) (i := 1) hF fK1 e9 hA10 (by decide) fw_879 (Or.inl rfl) rfl dX3_youngestBorrower_40 ?_
        refine fV_aload_n hF dX3_youngestBorrower_43 rfl rfl ?_
        refine fV_acmp_eq (tgt := 85) hF dX3_youngestBorrower_44 (by decide) (fun c13 => ?_) (fun c13 => ?_)
        · have h := h.1 c13
          refine fV_iinc (v := 1) hF (fun y => [some (aR (some o)), some (aR p1), some (aR x2), some (aI y), some (aR r7)]) dX3_youngestBorrower_85 rfl (by decide) (by rw [hxn]; decide) rfl (fun _ => rfl) (fun v14 ev14 => ?_)
          have h := h v14 ev14
          refine fV_goto (tgt := 4) hF dX3_youngestBorrower_88 (by decide) ?_
          refine fV.sub (l' := [some (aR (some o)), some (aR p1), some (aR x2), some (aI v14), none]) ⟨rfl, ⟨rfl, ⟨rfl, ⟨rfl, trivial⟩⟩⟩⟩ ?_
          exact ih x2 v14 h
        · have h := h.2 c13
          refine fV_aload hF dX3_youngestBorrower_47 rfl ?_
          refine fV_getR (k := 1) (i := 1) hF fK1 e9 hA10 (by decide) fw_879 (Or.inl rfl) rfl dX3_youngestBorrower_49 ?_
          obtain ⟨a15, e16, hA17, h⟩ := h
          refine fV_getI (k := 3) (i := 6) hF fK3 e16 hA17 (by decide) fw_87 (Or.inl rfl) rfl dX3_youngestBorrower_52 ?_
          refine fV_aload hF dX3_youngestBorrower_55 rfl ?_
          refine fV_getR (k := 1) (i := 1) hF fK1 e9 hA10 (by decide) fw_879 (Or.inl rfl) rfl dX3_youngestBorrower_57 ?_
          refine fV_getI (k := 3) (i := 12) hF fK3 e16 hA17 (by decide) fw_99 (Or.inl rfl) rfl dX3_youngestBorrower_60 ?_
          refine fV_icmp_le (tgt := 85) hF dX3_youngestBorrower_63 (by decide) (fun c18 => ?_) (fun c18 => ?_)
          · have h := h.1 c18
            refine fV_iinc (v := 1) hF (fun y => [some (aR (some o)), some (aR p1), some (aR x2), some (aI y), some (aR r7)]) dX3_youngestBorrower_85 rfl (by decide) (by rw [hxn]; decide) rfl (fun _ => rfl) (fun v19 ev19 => ?_)
            have h := h v19 ev19
            refine fV_goto (tgt := 4) hF dX3_youngestBorrower_88 (by decide) ?_
            refine fV.sub (l' := [some (aR (some o)), some (aR p1), some (aR x2), some (aI v19), none]) ⟨rfl, ⟨rfl, ⟨rfl, ⟨rfl, trivial⟩⟩⟩⟩ ?_
            exact ih x2 v19 h
          · have h := h.2 c18
            refine fV_aload_n hF dX3_youngestBorrower_66 rfl rfl ?_
            refine fV_ifnull (tgt := 82) hF dX3_youngestBorrower_67 (by decide) (fun c20 => ?_) (fun c20 => ?_)
            · have h := h.1 c20
              refine fV_aload hF dX3_youngestBorrower_82 rfl ?_
              refine fV_astore_n0 hF [some (aR (some o)), some (aR p1), some (aR r7), some (aI x3), some (aR r7)] dX3_youngestBorrower_84 rfl (by rw [hxn]; decide) rfl rfl ?_
              refine fV_iinc (v := 1) hF (fun y => [some (aR (some o)), some (aR p1), some (aR r7), some (aI y), some (aR r7)]) dX3_youngestBorrower_85 rfl (by decide) (by rw [hxn]; decide) rfl (fun _ => rfl) (fun v21 ev21 => ?_)
              have h := h v21 ev21
              refine fV_goto (tgt := 4) hF dX3_youngestBorrower_88 (by decide) ?_
              refine fV.sub (l' := [some (aR (some o)), some (aR p1), some (aR r7), some (aI v21), none]) ⟨rfl, ⟨rfl, ⟨rfl, ⟨rfl, trivial⟩⟩⟩⟩ ?_
              exact ih r7 v21 h
            · have h := h.2 c20
              refine fV_aload hF dX3_youngestBorrower_70 rfl ?_
              refine fV_getI (k := 1) (i := 7) hF fK1 e9 hA10 (by decide) fw_891 (Or.inl rfl) rfl dX3_youngestBorrower_72 ?_
              refine fV_aload_n hF dX3_youngestBorrower_75 rfl rfl ?_
              obtain ⟨a22, e23, hA24, h⟩ := h
              refine fV_getI (k := 1) (i := 7) hF fK1 e23 hA24 (by decide) fw_891 (Or.inl rfl) rfl dX3_youngestBorrower_76 ?_
              refine fV_icmp_le (tgt := 85) hF dX3_youngestBorrower_79 (by decide) (fun c25 => ?_) (fun c25 => ?_)
              · have h := h.1 c25
                refine fV_iinc (v := 1) hF (fun y => [some (aR (some o)), some (aR p1), some (aR x2), some (aI y), some (aR r7)]) dX3_youngestBorrower_85 rfl (by decide) (by rw [hxn]; decide) rfl (fun _ => rfl) (fun v26 ev26 => ?_)
                have h := h v26 ev26
                refine fV_goto (tgt := 4) hF dX3_youngestBorrower_88 (by decide) ?_
                refine fV.sub (l' := [some (aR (some o)), some (aR p1), some (aR x2), some (aI v26), none]) ⟨rfl, ⟨rfl, ⟨rfl, ⟨rfl, trivial⟩⟩⟩⟩ ?_
                exact ih x2 v26 h
              · have h := h.2 c25
                refine fV_aload hF dX3_youngestBorrower_82 rfl ?_
                refine fV_astore_n0 hF [some (aR (some o)), some (aR p1), some (aR r7), some (aI x3), some (aR r7)] dX3_youngestBorrower_84 rfl (by rw [hxn]; decide) rfl rfl ?_
                refine fV_iinc (v := 1) hF (fun y => [some (aR (some o)), some (aR p1), some (aR r7), some (aI y), some (aR r7)]) dX3_youngestBorrower_85 rfl (by decide) (by rw [hxn]; decide) rfl (fun _ => rfl) (fun v27 ev27 => ?_)
                have h := h v27 ev27
                refine fV_goto (tgt := 4) hF dX3_youngestBorrower_88 (by decide) ?_
                refine fV.sub (l' := [some (aR (some o)), some (aR p1), some (aR r7), some (aI v27), none]) ⟨rfl, ⟨rfl, ⟨rfl, ⟨rfl, trivial⟩⟩⟩⟩ ?_
                exact ih r7 v27 h
set_option maxRecDepth 100000 in
set_option maxHeartbeats 4000000 in
theorem mc_X3_youngestBorrower {l : Launch} (hfl : l.stackTraces = false) {G : fG} {S : fMS} {n : Nat} {o : Nat} {p1 : Option Nat} {post : Option Nat → Prop} (h : wp_X3_youngestBorrower S o p1 post) : fCM l yX3_youngestBorrower (.code yX3_youngestBorrower cX3_youngestBorrower 5 (some (.object "FairquotaBroker$Job"))) 4 G [(aR (some o)), (aR p1)] S n (fPR (fun x S' n' => S = S' ∧ n = n' ∧ post x)) := by
  refine fCM_of hfl (by decide) (by intro v hv; simp only [List.mem_cons, List.not_mem_nil, or_false] at hv; rcases hv with rfl | rfl <;> rfl) (Nat.le_of_ble_eq_true rfl) (fun F hF hxn hl hG hr hin hE => ?_)
  subst hl hG
  have hlv : 4 ≤ 4 := Nat.le_refl _
  show fV F S n 0 [some (aR (some o)), some (aR p1), none, none, none] []
  unfold wp_X3_youngestBorrower at h
  refine fV_null hF dX3_youngestBorrower_0 ?_
  refine fV_astore_n0 hF [some (aR (some o)), some (aR p1), some (aR none), none, none] dX3_youngestBorrower_1 rfl (by rw [hxn]; decide) rfl rfl ?_
  refine fV_iconst (v := 0) hF dX3_youngestBorrower_2 (by decide) ?_
  refine fV_istore_n0 hF [some (aR (some o)), some (aR p1), some (aR none), some (aI (0 : Int32)), none] dX3_youngestBorrower_3 rfl (by rw [hxn]; decide) rfl rfl ?_
  obtain ⟨f1, h⟩ := h
  refine fV.sub (l' := [some (aR (some o)), some (aR p1), some (aR none), some (aI (0 : Int32)), none]) ⟨rfl, ⟨rfl, ⟨rfl, ⟨rfl, trivial⟩⟩⟩⟩ ?_
  exact mB_X3_youngestBorrower_4 hlv hF hxn hr hE  f1 none (0 : Int32) h
set_option maxRecDepth 100000 in
set_option maxHeartbeats 4000000 in
theorem mB_X3_findVictims_81 {F : fX} {lv : Nat} (hlv : 7 ≤ lv) (hF : fOk F cX3_findVictims RX3 lv) (hxn : xn F = 4) (hr : (xM F).sig.returnType = (some .boolean)) {post : Int32 → fMS → Nat → Prop} {o : Nat} {p1 : Option Nat} (hE : fEnd F lv (fPI post)) : ∀ (f : Nat) (S : fMS) (n : Nat) (x2 : Int32) (x3 : Int32) (h : wB_X3_findVictims_81 post o p1 f S n x2 x3), fV F S n 81 [some (aR (some o)), some (aR p1), some (aI x2), some (aI x3)] [] := by
  intro f
  induction f with
  | zero => intro _ _ _ _ h; exact h.elim
  | succ f ih =>
    intro S n x2 x3 h
    simp only [wB_X3_findVictims_81] at h
    refine fV_iload_n hF dX3_findVictims_81 rfl rfl ?_
    refine fV_aload_n hF dX3_findVictims_82 rfl rfl ?_
    obtain ⟨hA1, h⟩ := h
    refine fV_getR (k := 4) (i := 6) hF fK4 rfl hA1 (by decide) fw_198 (Or.inl rfl) rfl dX3_findVictims_83 ?_
    obtain ⟨a2, e3, hA4, h⟩ := h
    refine fV_callV (k := 6) (As := []) hF (mc_Jx4a65c_size_8abf5 hF.2.2.2.2.2.2.2.2.1 h) fK6 e3 hA4 (by omega) fw_233 fw_230 fw_231 fw_232 fw_4 ⟨rfl, by decide, by decide, by decide +kernel⟩ (na := 0) rfl (by decide) (Nat.le_of_ble_eq_true rfl) dX3_findVictims_86 rfl (fun rv S9 n9 hp => ?_)
    obtain ⟨v5, rfl, rfl, rfl, h⟩ := hp
    refine fV_icmp_ge (tgt := 112) hF dX3_findVictims_89 (by decide) (fun c6 => ?_) (fun c6 => ?_)
    · have h := h.1 c6
      refine fV_iload_n hF dX3_findVictims_112 rfl rfl ?_
      obtain ⟨hnr7, h⟩ := h
      exact fV_iret hF hE.s (by omega) hr hnr7 dX3_findVictims_113 ⟨_, rfl, h⟩
    · have h := h.2 c6
      refine fV_aload_n hF dX3_findVictims_92 rfl rfl ?_
      refine fV_getR (k := 4) (i := 6) hF fK4 rfl hA1 (by decide) fw_198 (Or.inl rfl) rfl dX3_findVictims_93 ?_
      refine fV_iload_n hF dX3_findVictims_96 rfl rfl ?_
      refine fV_callV (k := 6) (As := [(aI x3)]) hF (mc_Jx4a65c_get_915e3 hF.2.2.2.2.2.2.2.2.1 h) fK6 e3 hA4 (by omega) fw_257 fw_254 fw_255 fw_256 fw_4 ⟨rfl, by decide, by decide, by decide +kernel⟩ (na := 1) rfl (by decide) (Nat.le_of_ble_eq_true rfl) dX3_findVictims_97 rfl (fun rv S9 n9 hp => ?_)
      obtain ⟨r8, rfl, rfl, rfl, h⟩ := hp
      obtain ⟨a9, e10, hA11, h⟩ := h
      refine fV_castK (k := 1) hF fK1 e10 hA11 fw_268 dX3_findVictims_100 ?_
      refine fV_callV (k := 1) (As := []) hF (mc_X0_takeUnits hF.2.2.2.2.2.2.2.2.1 h) fK1 e10 hA11 (by omega) fw_715 fw_712 fw_713 fw_714 fw_28 ⟨rfl, by decide, by decide, by decide +kernel⟩ (na := 0) rfl (by decide) (Nat.le_of_ble_eq_true rfl) dX3_findVictims_103 rfl (fun rv S12 n13 hp => ?_)
      obtain ⟨rfl, h⟩ := hp
      refine fV_iinc (v := 1) hF (fun y => [some (aR (some o)), some (aR p1), some (aI x2), some (aI y)]) dX3_findVictims_106 rfl (by decide) (by rw [hxn]; decide) rfl (fun _ => rfl) (fun v14 ev14 => ?_)
      have h := h v14 ev14
      refine fV_goto (tgt := 81) hF dX3_findVictims_109 (by decide) ?_
      refine fV.sub (l' := [some (aR (some o)), some (aR p1), some (aI x2), some (aI v14)]) ⟨rfl, ⟨rfl, ⟨rfl, ⟨rfl, trivial⟩⟩⟩⟩ ?_
      exact ih S12 n13 x2 v14 h
set_option maxRecDepth 100000 in
set_option maxHeartbeats 4000000 in
theorem mB_X3_findVictims_58 {F : fX} {lv : Nat} (hlv : 7 ≤ lv) (hF : fOk F cX3_findVictims RX3 lv) (hxn : xn F = 4) (hr : (xM F).sig.returnType = (some .boolean)) {post : Int32 → fMS → Nat → Prop} {o : Nat} {p1 : Option Nat} (hE : fEnd F lv (fPI post)) (S : fMS) (n : Nat) (h : wB_X3_findVictims_58 post o p1 S n) : fV F S n 58 [some (aR (some o)), some (aR p1), none, none] [] := by
  unfold wB_X3_findVictims_58 at h
  refine fV_aload_n hF dX3_findVictims_58 rfl rfl ?_
  obtain ⟨a1, e2, hA3, h⟩ := h
  refine fV_getI (k := 1) (i := 2) hF fK1 e2 hA3 (by decide) fw_881 (Or.inl rfl) rfl dX3_findVictims_59 ?_
  refine fV_aload_n hF dX3_findVictims_62 rfl rfl ?_
  refine fV_aload_n hF dX3_findVictims_63 rfl rfl ?_
  refine fV_getR (k := 1) (i := 1) hF fK1 e2 hA3 (by decide) fw_879 (Or.inl rfl) rfl dX3_findVictims_64 ?_
  obtain ⟨hA4, h⟩ := h
  refine fV_callV (k := 4) (As := [(aR (sR S a1 1))]) hF (mc_X3_freeUnits hF.2.2.2.2.2.2.2.2.1 h) fK4 rfl hA4 (by omega) fw_695 fw_692 fw_694 fwp_23 fw_1 ⟨rfl, by decide, by decide, by decide +kernel⟩ (na := 1) rfl (by decide) (Nat.le_of_ble_eq_true rfl) dX3_findVictims_67 rfl (fun rv S9 n9 hp => ?_)
  obtain ⟨v5, rfl, rfl, rfl, h⟩ := hp
  refine fV_icmp_gt (tgt := 77) hF dX3_findVictims_70 (by decide) (fun c6 => ?_) (fun c6 => ?_)
  · have h := h.1 c6
    refine fV_iconst (v := 0) hF dX3_findVictims_77 (by decide) ?_
    refine fV_istore_n0 hF [some (aR (some o)), some (aR p1), some (aI (0 : Int32)), none] dX3_findVictims_78 rfl (by rw [hxn]; decide) rfl rfl ?_
    refine fV_iconst (v := 0) hF dX3_findVictims_79 (by decide) ?_
    refine fV_istore_n0 hF [some (aR (some o)), some (aR p1), some (aI (0 : Int32)), some (aI (0 : Int32))] dX3_findVictims_80 rfl (by rw [hxn]; decide) rfl rfl ?_
    obtain ⟨f1, h⟩ := h
    refine fV.sub (l' := [some (aR (some o)), some (aR p1), some (aI (0 : Int32)), some (aI (0 : Int32))]) ⟨rfl, ⟨rfl, ⟨rfl, ⟨rfl, trivial⟩⟩⟩⟩ ?_
    exact mB_X3_findVictims_81 hlv hF hxn hr hE  f1 S n (0 : Int32) (0 : Int32) h
  · have h := h.2 c6
    refine fV_iconst (v := 1) hF dX3_findVictims_73 (by decide) ?_
    refine fV_goto (tgt := 78) hF dX3_findVictims_74 (by decide) ?_
    refine fV_istore_n0 hF [some (aR (some o)), some (aR p1), some (aI (1 : Int32)), none] dX3_findVictims_78 rfl (by rw [hxn]; decide) rfl rfl ?_
    refine fV_iconst (v := 0) hF dX3_findVictims_79 (by decide) ?_
    refine fV_istore_n0 hF [some (aR (some o)), some (aR p1), some (aI (1 : Int32)), some (aI (0 : Int32))] dX3_findVictims_80 rfl (by rw [hxn]; decide) rfl rfl ?_
    obtain ⟨f1, h⟩ := h
    refine fV.sub (l' := [some (aR (some o)), some (aR p1), some (aI (1 : Int32)), some (aI (0 : Int32))]) ⟨rfl, ⟨rfl, ⟨rfl, ⟨rfl, trivial⟩⟩⟩⟩ ?_
    exact mB_X3_findVictims_81 hlv hF hxn hr hE  f1 S n (1 : Int32) (0 : Int32) h
set_option maxRecDepth 100000 in
set_option maxHeartbeats 4000000 in
theorem mB_X3_findVictims_2 {F : fX} {lv : Nat} (hlv : 7 ≤ lv) (hF : fOk F cX3_findVictims RX3 lv) (hxn : xn F = 4) (hr : (xM F).sig.returnType = (some .boolean)) {post : Int32 → fMS → Nat → Prop} {o : Nat} {p1 : Option Nat} (hE : fEnd F lv (fPI post)) : ∀ (f : Nat) (S : fMS) (n : Nat) (x2 : Int32) (h : wB_X3_findVictims_2 post o p1 f S n x2), fV F S n 2 [some (aR (some o)), some (aR p1), some (aI x2), none] [] := by
  intro f
  induction f with
  | zero => intro _ _ _ h; exact h.elim
  | succ f ih =>
    intro S n x2 h
    simp only [wB_X3_findVictims_2] at h
    refine fV_iload_n hF dX3_findVictims_2 rfl rfl ?_
    refine fV_bipush (v := 40) hF dX3_findVictims_3 (by decide) ?_
    refine fV_icmp_ge (tgt := 58) hF dX3_findVictims_5 (by decide) (fun c1 => ?_) (fun c1 => ?_)
    · have h := h.1 c1
      refine fV.sub (l' := [some (aR (some o)), some (aR p1), none, none]) ⟨rfl, ⟨rfl, trivial⟩⟩ ?_
      exact mB_X3_findVictims_58 hlv hF hxn hr hE  S n h
    · have h := h.2 c1
      refine fV_aload_n hF dX3_findVictims_8 rfl rfl ?_
      obtain ⟨a2, e3, hA4, h⟩ := h
      refine fV_getI (k := 1) (i := 2) hF fK1 e3 hA4 (by decide) fw_881 (Or.inl rfl) rfl dX3_findVictims_9 ?_
      refine fV_aload_n hF dX3_findVictims_12 rfl rfl ?_
      refine fV_aload_n hF dX3_findVictims_13 rfl rfl ?_
      refine fV_getR (k := 1) (i := 1) hF fK1 e3 hA4 (by decide) fw_879 (Or.inl rfl) rfl dX3_findVictims_14 ?_
      obtain ⟨hA5, h⟩ := h
      refine fV_callV (k := 4) (As := [(aR (sR S a2 1))]) hF (mc_X3_freeUnits hF.2.2.2.2.2.2.2.2.1 h) fK4 rfl hA5 (by omega) fw_695 fw_692 fw_694 fwp_23 fw_1 ⟨rfl, by decide, by decide, by decide +kernel⟩ (na := 1) rfl (by decide) (Nat.le_of_ble_eq_true rfl) dX3_findVictims_17 rfl (fun rv S9 n9 hp => ?_)
      obtain ⟨v6, rfl, rfl, rfl, h⟩ := hp
      refine fV_icmp_le (tgt := 58) hF dX3_findVictims_20 (by decide) (fun c7 => ?_) (fun c7 => ?_)
      · have h := h.1 c7
        refine fV.sub (l' := [some (aR (some o)), some (aR p1), none, none]) ⟨rfl, ⟨rfl, trivial⟩⟩ ?_
        exact mB_X3_findVictims_58 hlv hF hxn hr hE  S n h
      · have h := h.2 c7
        refine fV_aload_n hF dX3_findVictims_23 rfl rfl ?_
        refine fV_aload_n hF dX3_findVictims_24 rfl rfl ?_
        refine fV_getR (k := 1) (i := 1) hF fK1 e3 hA4 (by decide) fw_879 (Or.inl rfl) rfl dX3_findVictims_25 ?_
        refine fV_callV (k := 4) (As := [(aR (sR S a2 1))]) hF (mc_X3_youngestBorrower hF.2.2.2.2.2.2.2.2.1 h) fK4 rfl hA5 (by omega) fw_703 fw_700 fw_702 fwp_25 fw_1 ⟨rfl, by decide, by decide, by decide +kernel⟩ (na := 1) rfl (by decide) (Nat.le_of_ble_eq_true rfl) dX3_findVictims_28 rfl (fun rv S9 n9 hp => ?_)
        obtain ⟨r8, rfl, rfl, rfl, h⟩ := hp
        refine fV_astore_n0 hF [some (aR (some o)), some (aR p1), some (aI x2), some (aR r8)] dX3_findVictims_31 rfl (by rw [hxn]; decide) rfl rfl ?_
        refine fV_aload_n hF dX3_findVictims_32 rfl rfl ?_
        refine fV_ifnonnull (tgt := 39) hF dX3_findVictims_33 (by decide) (fun c9 => ?_) (fun c9 => ?_)
        · have h := h.1 c9
          refine fV_aload_n hF dX3_findVictims_39 rfl rfl ?_
          obtain ⟨a10, e11, hA12, h⟩ := h
          refine fV_callV (k := 1) (As := []) hF (mc_X0_giveUnitsBack hF.2.2.2.2.2.2.2.2.1 h) fK1 e11 hA12 (by omega) fw_707 fw_704 fw_705 fw_706 fw_28 ⟨rfl, by decide, by decide, by decide +kernel⟩ (na := 0) rfl (by decide) (Nat.le_of_ble_eq_true rfl) dX3_findVictims_40 rfl (fun rv S13 n14 hp => ?_)
          obtain ⟨rfl, h⟩ := hp
          refine fV_aload_n hF dX3_findVictims_43 rfl rfl ?_
          obtain ⟨hA15, h⟩ := h
          refine fV_getR (k := 4) (i := 6) hF fK4 rfl hA15 (by decide) fw_198 (Or.inl rfl) rfl dX3_findVictims_44 ?_
          refine fV_aload_n hF dX3_findVictims_47 rfl rfl ?_
          obtain ⟨a16, e17, hA18, h⟩ := h
          refine fV_callV (k := 6) (As := [(aR r8)]) hF (mc_Jx4a65c_add_9ea2d hF.2.2.2.2.2.2.2.2.1 h) fK6 e17 hA18 (by omega) fw_133 fw_130 fw_131 fw_132 fw_4 ⟨rfl, by decide, by decide, by decide +kernel⟩ (na := 1) rfl (by decide) (Nat.le_of_ble_eq_true rfl) dX3_findVictims_48 rfl (fun rv S20 n21 hp => ?_)
          obtain ⟨v19, rfl, h⟩ := hp
          refine fV_pop hF dX3_findVictims_51 rfl ?_
          refine fV_iinc (v := 1) hF (fun y => [some (aR (some o)), some (aR p1), some (aI y), some (aR r8)]) dX3_findVictims_52 rfl (by decide) (by rw [hxn]; decide) rfl (fun _ => rfl) (fun v22 ev22 => ?_)
          have h := h v22 ev22
          refine fV_goto (tgt := 2) hF dX3_findVictims_55 (by decide) ?_
          refine fV.sub (l' := [some (aR (some o)), some (aR p1), some (aI v22), none]) ⟨rfl, ⟨rfl, ⟨rfl, trivial⟩⟩⟩ ?_
          exact ih S20 n21 v22 h
        · have h := h.2 c9
          refine fV_goto (tgt := 58) hF dX3_findVictims_36 (by decide) ?_
          refine fV.sub (l' := [some (aR (some o)), some (aR p1), none, none]) ⟨rfl, ⟨rfl, trivial⟩⟩ ?_
          exact mB_X3_findVictims_58 hlv hF hxn hr hE  S n h
set_option maxRecDepth 100000 in
set_option maxHeartbeats 4000000 in
theorem mc_X3_findVictims {l : Launch} (hfl : l.stackTraces = false) {G : fG} {S : fMS} {n : Nat} {o : Nat} {p1 : Option Nat} {post : Int32 → fMS → Nat → Prop} (h : wp_X3_findVictims S n o p1 post) : fCM l yX3_findVictims (.code yX3_findVictims cX3_findVictims 4 (some .boolean)) 7 G [(aR (some o)), (aR p1)] S n (fPI post) := by
  refine fCM_of hfl (by decide) (by intro v hv; simp only [List.mem_cons, List.not_mem_nil, or_false] at hv; rcases hv with rfl | rfl <;> rfl) (Nat.le_of_ble_eq_true rfl) (fun F hF hxn hl hG hr hin hE => ?_)
  subst hl hG
  have hlv : 7 ≤ 7 := Nat.le_refl _
  show fV F S n 0 [some (aR (some o)), some (aR p1), none, none] []
  unfold wp_X3_findVictims at h
  refine fV_iconst (v := 0) hF dX3_findVictims_0 (by decide) ?_
  refine fV_istore_n0 hF [some (aR (some o)), some (aR p1), some (aI (0 : Int32)), none] dX3_findVictims_1 rfl (by rw [hxn]; decide) rfl rfl ?_
  obtain ⟨f1, h⟩ := h
  refine fV.sub (l' := [some (aR (some o)), some (aR p1), some (aI (0 : Int32)), none]) ⟨rfl, ⟨rfl, ⟨rfl, trivial⟩⟩⟩ ?_
  exact mB_X3_findVictims_2 hlv hF hxn hr hE  f1 S n (0 : Int32) h
set_option maxRecDepth 100000 in
set_option maxHeartbeats 4000000 in
theorem mc_X3_canStartOrReclaim {l : Launch} (hfl : l.stackTraces = false) {G : fG} {S : fMS} {n : Nat} {o : Nat} {p1 : Option Nat} {post : Int32 → fMS → Nat → Prop} (h : wp_X3_canStartOrReclaim S n o p1 post) : fCM l yX3_canStartOrReclaim (.code yX3_canStartOrReclaim cX3_canStartOrReclaim 2 (some .boolean)) 8 G [(aR (some o)), (aR p1)] S n (fPI post) := by
  refine fCM_of hfl (by decide) (by intro v hv; simp only [List.mem_cons, List.not_mem_nil, or_false] at hv; rcases hv with rfl | rfl <;> rfl) (Nat.le_of_ble_eq_true rfl) (fun F hF hxn hl hG hr hin hE => ?_)
  subst hl hG
  have hlv : 8 ≤ 8 := Nat.le_refl _
  show fV F S n 0 [some (aR (some o)), some (aR p1)] []
  unfold wp_X3_canStartOrReclaim at h
  refine fV_aload_n hF dX3_canStartOrReclaim_0 rfl rfl ?_
  obtain ⟨hA1, h⟩ := h
  refine fV_getR (k := 4) (i := 6) hF fK4 rfl hA1 (by decide) fw_198 (Or.inl rfl) rfl dX3_canStartOrReclaim_1 ?_
  obtain ⟨a2, e3, hA4, h⟩ := h
  refine fV_callV (k := 6) (As := []) hF (mc_Jx4a65c_clear_da8c8 hF.2.2.2.2.2.2.2.2.1 h) fK6 e3 hA4 (by omega) fw_343 fw_340 fw_341 fw_342 fw_4 ⟨rfl, by decide, by decide, by decide +kernel⟩ (na := 0) rfl (by decide) (Nat.le_of_ble_eq_true rfl) dX3_canStartOrReclaim_4 rfl (fun rv S5 n6 hp => ?_)
  obtain ⟨rfl, h⟩ := hp
  refine fV_aload_n hF dX3_canStartOrReclaim_7 rfl rfl ?_
  obtain ⟨a7, e8, hA9, h⟩ := h
  refine fV_getR (k := 1) (i := 1) hF fK1 e8 hA9 (by decide) fw_879 (Or.inl rfl) rfl dX3_canStartOrReclaim_8 ?_
  refine fV_aload_n hF dX3_canStartOrReclaim_11 rfl rfl ?_
  refine fV_getI (k := 1) (i := 2) hF fK1 e8 hA9 (by decide) fw_881 (Or.inl rfl) rfl dX3_canStartOrReclaim_12 ?_
  obtain ⟨a10, e11, hA12, h⟩ := h
  refine fV_callV (k := 3) (As := [(aI (sI S5 a7 2))]) hF (mc_X2_limitsAllow hF.2.2.2.2.2.2.2.2.1 h) fK3 e11 hA12 (by omega) fw_691 fw_688 fw_689 fw_690 fw_5 ⟨rfl, by decide, by decide, by decide +kernel⟩ (na := 1) rfl (by decide) (Nat.le_of_ble_eq_true rfl) dX3_canStartOrReclaim_15 rfl (fun rv S9 n9 hp => ?_)
  obtain ⟨v13, rfl, rfl, rfl, h⟩ := hp
  refine fV_if_ne (tgt := 23) hF dX3_canStartOrReclaim_18 (by decide) (fun c14 => ?_) (fun c14 => ?_)
  · have h := h.1 c14
    refine fV_aload_n hF dX3_canStartOrReclaim_23 rfl rfl ?_
    refine fV_getI (k := 1) (i := 2) hF fK1 e8 hA9 (by decide) fw_881 (Or.inl rfl) rfl dX3_canStartOrReclaim_24 ?_
    refine fV_aload_n hF dX3_canStartOrReclaim_27 rfl rfl ?_
    refine fV_aload_n hF dX3_canStartOrReclaim_28 rfl rfl ?_
    refine fV_getR (k := 1) (i := 1) hF fK1 e8 hA9 (by decide) fw_879 (Or.inl rfl) rfl dX3_canStartOrReclaim_29 ?_
    obtain ⟨hA15, h⟩ := h
    refine fV_callV (k := 4) (As := [(aR (sR S5 a7 1))]) hF (mc_X3_freeUnits hF.2.2.2.2.2.2.2.2.1 h) fK4 rfl hA15 (by omega) fw_695 fw_692 fw_694 fwp_23 fw_1 ⟨rfl, by decide, by decide, by decide +kernel⟩ (na := 1) rfl (by decide) (Nat.le_of_ble_eq_true rfl) dX3_canStartOrReclaim_32 rfl (fun rv S9 n9 hp => ?_)
    obtain ⟨v16, rfl, rfl, rfl, h⟩ := hp
    refine fV_icmp_gt (tgt := 40) hF dX3_canStartOrReclaim_35 (by decide) (fun c17 => ?_) (fun c17 => ?_)
    · have h := h.1 c17
      refine fV_aload_n hF dX3_canStartOrReclaim_40 rfl rfl ?_
      refine fV_getR (k := 1) (i := 1) hF fK1 e8 hA9 (by decide) fw_879 (Or.inl rfl) rfl dX3_canStartOrReclaim_41 ?_
      refine fV_getI (k := 3) (i := 6) hF fK3 e11 hA12 (by decide) fw_87 (Or.inl rfl) rfl dX3_canStartOrReclaim_44 ?_
      refine fV_aload_n hF dX3_canStartOrReclaim_47 rfl rfl ?_
      refine fV_getI (k := 1) (i := 2) hF fK1 e8 hA9 (by decide) fw_881 (Or.inl rfl) rfl dX3_canStartOrReclaim_48 ?_
      refine fV_iadd hF dX3_canStartOrReclaim_51 ?_
      refine fV_aload_n hF dX3_canStartOrReclaim_52 rfl rfl ?_
      refine fV_getR (k := 1) (i := 1) hF fK1 e8 hA9 (by decide) fw_879 (Or.inl rfl) rfl dX3_canStartOrReclaim_53 ?_
      refine fV_getI (k := 3) (i := 12) hF fK3 e11 hA12 (by decide) fw_99 (Or.inl rfl) rfl dX3_canStartOrReclaim_56 ?_
      refine fV_icmp_gt (tgt := 74) hF dX3_canStartOrReclaim_59 (by decide) (fun c18 => ?_) (fun c18 => ?_)
      · have h := h.1 c18
        refine fV_iconst (v := 0) hF dX3_canStartOrReclaim_74 (by decide) ?_
        exact fV_iret hF hE.s (by omega) hr (by decide) dX3_canStartOrReclaim_75 ⟨_, rfl, h⟩
      · have h := h.2 c18
        refine fV_aload_n hF dX3_canStartOrReclaim_62 rfl rfl ?_
        refine fV_aload_n hF dX3_canStartOrReclaim_63 rfl rfl ?_
        refine fV_callV (k := 4) (As := [(aR p1)]) hF (mc_X3_findVictims hF.2.2.2.2.2.2.2.2.1 h) fK4 rfl hA15 (by omega) fw_699 fw_696 fw_698 fwp_24 fw_1 ⟨rfl, by decide, by decide, by decide +kernel⟩ (na := 1) rfl (by decide) (Nat.le_of_ble_eq_true rfl) dX3_canStartOrReclaim_64 rfl (fun rv S20 n21 hp => ?_)
        obtain ⟨v19, rfl, h⟩ := hp
        refine fV_if_eq (tgt := 74) hF dX3_canStartOrReclaim_67 (by decide) (fun c22 => ?_) (fun c22 => ?_)
        · have h := h.1 c22
          refine fV_iconst (v := 0) hF dX3_canStartOrReclaim_74 (by decide) ?_
          exact fV_iret hF hE.s (by omega) hr (by decide) dX3_canStartOrReclaim_75 ⟨_, rfl, h⟩
        · have h := h.2 c22
          refine fV_iconst (v := 1) hF dX3_canStartOrReclaim_70 (by decide) ?_
          refine fV_goto (tgt := 75) hF dX3_canStartOrReclaim_71 (by decide) ?_
          exact fV_iret hF hE.s (by omega) hr (by decide) dX3_canStartOrReclaim_75 ⟨_, rfl, h⟩
    · have h := h.2 c17
      refine fV_iconst (v := 1) hF dX3_canStartOrReclaim_38 (by decide) ?_
      exact fV_iret hF hE.s (by omega) hr (by decide) dX3_canStartOrReclaim_39 ⟨_, rfl, h⟩
  · have h := h.2 c14
    refine fV_iconst (v := 0) hF dX3_canStartOrReclaim_21 (by decide) ?_
    exact fV_iret hF hE.s (by omega) hr (by decide) dX3_canStartOrReclaim_22 ⟨_, rfl, h⟩
set_option maxRecDepth 100000 in
set_option maxHeartbeats 4000000 in
theorem mB_X3_stopVictims_2 {F : fX} {lv : Nat} (hlv : 4 ≤ lv) (hF : fOk F cX3_stopVictims RX3 lv) (hxn : xn F = 3) (hr : (xM F).sig.returnType = none) {post : fMS → Nat → Prop} {o : Nat} (hE : fEnd F lv (fPV post)) : ∀ (f : Nat) (S : fMS) (n : Nat) (x1 : Int32) (h : wB_X3_stopVictims_2 post o f S n x1), fV F S n 2 [some (aR (some o)), some (aI x1), none] [] := by
  intro f
  induction f with
  | zero => intro _ _ _ h; exact h.elim
  | succ f ih =>
    intro S n x1 h
    simp only [wB_X3_stopVictims_2] at h
    refine fV_iload_n hF dX3_stopVictims_2 rfl rfl ?_
    refine fV_aload_n hF dX3_stopVictims_3 rfl rfl ?_
    obtain ⟨hA1, h⟩ := h
    refine fV_getR (k := 4) (i := 6) hF fK4 rfl hA1 (by decide) fw_198 (Or.inl rfl) rfl dX3_stopVictims_4 ?_
    obtain ⟨a2, e3, hA4, h⟩ := h
    refine fV_callV (k := 6) (As := []) hF (mc_Jx4a65c_size_8abf5 hF.2.2.2.2.2.2.2.2.1 h) fK6 e3 hA4 (by omega) fw_233 fw_230 fw_231 fw_232 fw_4 ⟨rfl, by decide, by decide, by decide +kernel⟩ (na := 0) rfl (by decide) (Nat.le_of_ble_eq_true rfl) dX3_stopVictims_7 rfl (fun rv S9 n9 hp => ?_)
    obtain ⟨v5, rfl, rfl, rfl, h⟩ := hp
    refine fV_icmp_ge (tgt := 45) hF dX3_stopVictims_10 (by decide) (fun c6 => ?_) (fun c6 => ?_)
    · have h := h.1 c6
      exact fV_vret hF hE.s (by omega) hr dX3_stopVictims_45 ⟨rfl, h⟩
    · have h := h.2 c6
      refine fV_aload_n hF dX3_stopVictims_13 rfl rfl ?_
      refine fV_getR (k := 4) (i := 6) hF fK4 rfl hA1 (by decide) fw_198 (Or.inl rfl) rfl dX3_stopVictims_14 ?_
      refine fV_iload_n hF dX3_stopVictims_17 rfl rfl ?_
      refine fV_callV (k := 6) (As := [(aI x1)]) hF (mc_Jx4a65c_get_915e3 hF.2.2.2.2.2.2.2.2.1 h) fK6 e3 hA4 (by omega) fw_257 fw_254 fw_255 fw_256 fw_4 ⟨rfl, by decide, by decide, by decide +kernel⟩ (na := 1) rfl (by decide) (Nat.le_of_ble_eq_true rfl) dX3_stopVictims_18 rfl (fun rv S9 n9 hp => ?_)
      obtain ⟨r7, rfl, rfl, rfl, h⟩ := hp
      obtain ⟨a8, e9, hA10, h⟩ := h
      refine fV_castK (k := 1) hF fK1 e9 hA10 fw_268 dX3_stopVictims_21 ?_
      refine fV_astore_n0 hF [some (aR (some o)), some (aI x1), some (aR r7)] dX3_stopVictims_24 rfl (by rw [hxn]; decide) rfl rfl ?_
      refine fV_aload_n hF dX3_stopVictims_25 rfl rfl ?_
      refine fV_callV (k := 1) (As := []) hF (mc_X0_giveUnitsBack hF.2.2.2.2.2.2.2.2.1 h) fK1 e9 hA10 (by omega) fw_707 fw_704 fw_705 fw_706 fw_28 ⟨rfl, by decide, by decide, by decide +kernel⟩ (na := 0) rfl (by decide) (Nat.le_of_ble_eq_true rfl) dX3_stopVictims_26 rfl (fun rv S11 n12 hp => ?_)
      obtain ⟨rfl, h⟩ := hp
      refine fV_aload_n hF dX3_stopVictims_29 rfl rfl ?_
      refine fV_dup hF dX3_stopVictims_30 rfl ?_
      obtain ⟨hA13, h⟩ := h
      refine fV_getI (k := 1) (i := 6) hF fK1 e9 hA13 (by decide) fw_889 (Or.inl rfl) rfl dX3_stopVictims_31 ?_
      refine fV_iconst (v := 1) hF dX3_stopVictims_34 (by decide) ?_
      refine fV_iadd hF dX3_stopVictims_35 ?_
      refine fV_putI (k := 1) (i := 6) hF fK1 tyX0_ok nmX0 e9 hA13 (by decide) rfl fw_889 (Or.inl rfl) (Or.inl rfl) rfl rfl dX3_stopVictims_36 ?_
      refine fV_iinc (v := 1) hF (fun y => [some (aR (some o)), some (aI y), some (aR r7)]) dX3_stopVictims_39 rfl (by decide) (by rw [hxn]; decide) rfl (fun _ => rfl) (fun v14 ev14 => ?_)
      have h := h v14 ev14
      refine fV_goto (tgt := 2) hF dX3_stopVictims_42 (by decide) ?_
      refine fV.sub (l' := [some (aR (some o)), some (aI v14), none]) ⟨rfl, ⟨rfl, trivial⟩⟩ ?_
      exact ih (wI S11 a8 6 ((sI S11 a8 6) + (1 : Int32))) n12 v14 h
set_option maxRecDepth 100000 in
set_option maxHeartbeats 4000000 in
theorem mc_X3_stopVictims {l : Launch} (hfl : l.stackTraces = false) {G : fG} {S : fMS} {n : Nat} {o : Nat} {post : fMS → Nat → Prop} (h : wp_X3_stopVictims S n o post) : fCM l yX3_stopVictims (.code yX3_stopVictims cX3_stopVictims 3 none) 4 G [(aR (some o))] S n (fPV post) := by
  refine fCM_of hfl (by decide) (by intro v hv; simp only [List.mem_cons, List.not_mem_nil, or_false] at hv; rcases hv with rfl <;> rfl) (Nat.le_of_ble_eq_true rfl) (fun F hF hxn hl hG hr hin hE => ?_)
  subst hl hG
  have hlv : 4 ≤ 4 := Nat.le_refl _
  show fV F S n 0 [some (aR (some o)), none, none] []
  unfold wp_X3_stopVictims at h
  refine fV_iconst (v := 0) hF dX3_stopVictims_0 (by decide) ?_
  refine fV_istore_n0 hF [some (aR (some o)), some (aI (0 : Int32)), none] dX3_stopVictims_1 rfl (by rw [hxn]; decide) rfl rfl ?_
  obtain ⟨f1, h⟩ := h
  refine fV.sub (l' := [some (aR (some o)), some (aI (0 : Int32)), none]) ⟨rfl, ⟨rfl, trivial⟩⟩ ?_
  exact mB_X3_stopVictims_2 hlv hF hxn hr hE  f1 S n (0 : Int32) h
set_option maxRecDepth 100000 in
set_option maxHeartbeats 4000000 in
theorem mc_X3_start {l : Launch} (hfl : l.stackTraces = false) {G : fG} {S : fMS} {n : Nat} {o : Nat} {p1 : Option Nat} {post : fMS → Nat → Prop} (h : wp_X3_start S n o p1 post) : fCM l yX3_start (.code yX3_start cX3_start 2 none) 3 G [(aR (some o)), (aR p1)] S n (fPV post) := by
  refine fCM_of hfl (by decide) (by intro v hv; simp only [List.mem_cons, List.not_mem_nil, or_false] at hv; rcases hv with rfl | rfl <;> rfl) (Nat.le_of_ble_eq_true rfl) (fun F hF hxn hl hG hr hin hE => ?_)
  subst hl hG
  have hlv : 3 ≤ 3 := Nat.le_refl _
  show fV F S n 0 [some (aR (some o)), some (aR p1)] []
  unfold wp_X3_start at h
  refine fV_aload_n hF dX3_start_0 rfl rfl ?_
  obtain ⟨a1, e2, hA3, h⟩ := h
  refine fV_callV (k := 1) (As := []) hF (mc_X0_takeUnits hF.2.2.2.2.2.2.2.2.1 h) fK1 e2 hA3 (by omega) fw_715 fw_712 fw_713 fw_714 fw_28 ⟨rfl, by decide, by decide, by decide +kernel⟩ (na := 0) rfl (by decide) (Nat.le_of_ble_eq_true rfl) dX3_start_1 rfl (fun rv S4 n5 hp => ?_)
  obtain ⟨rfl, h⟩ := hp
  refine fV_aload_n hF dX3_start_4 rfl rfl ?_
  refine fV_aload_n hF dX3_start_5 rfl rfl ?_
  obtain ⟨hA6, h⟩ := h
  refine fV_getI (k := 1) (i := 3) hF fK1 e2 hA6 (by decide) fw_883 (Or.inl rfl) rfl dX3_start_6 ?_
  refine fV_putI (k := 1) (i := 5) hF fK1 tyX0_ok nmX0 e2 hA6 (by decide) rfl fw_887 (Or.inl rfl) (Or.inl rfl) rfl rfl dX3_start_9 ?_
  refine fV_aload_n hF dX3_start_12 rfl rfl ?_
  refine fV_dup hF dX3_start_13 rfl ?_
  obtain ⟨hA7, h⟩ := h
  refine fV_getI (k := 4) (i := 10) hF fK4 rfl hA7 (by decide) fw_202 (Or.inl rfl) rfl dX3_start_14 ?_
  refine fV_iconst (v := 1) hF dX3_start_17 (by decide) ?_
  refine fV_iadd hF dX3_start_18 ?_
  refine fV_putI (k := 4) (i := 10) hF fK4 tyX3_ok nmX3 rfl hA7 (by decide) rfl fw_202 (Or.inl rfl) (Or.inl rfl) rfl rfl dX3_start_19 ?_
  refine fV_aload_n hF dX3_start_22 rfl rfl ?_
  refine fV_aload_n hF dX3_start_23 rfl rfl ?_
  refine fV_getI (k := 4) (i := 10) hF fK4 rfl hA7 (by decide) fw_202 (Or.inl rfl) rfl dX3_start_24 ?_
  refine fV_putI (k := 1) (i := 7) hF fK1 tyX0_ok nmX0 e2 hA6 (by decide) rfl fw_891 (Or.inl rfl) (Or.inl rfl) rfl rfl dX3_start_27 ?_
  exact fV_vret hF hE.s (by omega) hr dX3_start_30 ⟨rfl, h⟩
set_option maxRecDepth 100000 in
set_option maxHeartbeats 4000000 in
theorem mB_X3_serveNext_6 {F : fX} {lv : Nat} (hlv : 9 ≤ lv) (hF : fOk F cX3_serveNext RX3 lv) (hxn : xn F = 3) (hr : (xM F).sig.returnType = (some .boolean)) {post : Int32 → fMS → Nat → Prop} {o : Nat} (hE : fEnd F lv (fPI post)) : ∀ (f : Nat) (S : fMS) (n : Nat) (x1 : Int32) (h : wB_X3_serveNext_6 post o f S n x1), fV F S n 6 [some (aR (some o)), some (aI x1), none] [] := by
  intro f
  induction f with
  | zero => intro _ _ _ h; exact h.elim
  | succ f ih =>
    intro S n x1 h
    simp only [wB_X3_serveNext_6] at h
    refine fV_iload_n hF dX3_serveNext_6 rfl rfl ?_
    refine fV_aload_n hF dX3_serveNext_7 rfl rfl ?_
    obtain ⟨hA1, h⟩ := h
    refine fV_getR (k := 4) (i := 5) hF fK4 rfl hA1 (by decide) fw_197 (Or.inl rfl) rfl dX3_serveNext_8 ?_
    obtain ⟨a2, e3, hA4, h⟩ := h
    refine fV_callV (k := 6) (As := []) hF (mc_Jx4a65c_size_8abf5 hF.2.2.2.2.2.2.2.2.1 h) fK6 e3 hA4 (by omega) fw_233 fw_230 fw_231 fw_232 fw_4 ⟨rfl, by decide, by decide, by decide +kernel⟩ (na := 0) rfl (by decide) (Nat.le_of_ble_eq_true rfl) dX3_serveNext_11 rfl (fun rv S9 n9 hp => ?_)
    obtain ⟨v5, rfl, rfl, rfl, h⟩ := hp
    refine fV_icmp_ge (tgt := 54) hF dX3_serveNext_14 (by decide) (fun c6 => ?_) (fun c6 => ?_)
    · have h := h.1 c6
      refine fV_iconst (v := 0) hF dX3_serveNext_54 (by decide) ?_
      exact fV_iret hF hE.s (by omega) hr (by decide) dX3_serveNext_55 ⟨_, rfl, h⟩
    · have h := h.2 c6
      refine fV_aload_n hF dX3_serveNext_17 rfl rfl ?_
      refine fV_getR (k := 4) (i := 5) hF fK4 rfl hA1 (by decide) fw_197 (Or.inl rfl) rfl dX3_serveNext_18 ?_
      refine fV_iload_n hF dX3_serveNext_21 rfl rfl ?_
      refine fV_callV (k := 6) (As := [(aI x1)]) hF (mc_Jx4a65c_get_915e3 hF.2.2.2.2.2.2.2.2.1 h) fK6 e3 hA4 (by omega) fw_257 fw_254 fw_255 fw_256 fw_4 ⟨rfl, by decide, by decide, by decide +kernel⟩ (na := 1) rfl (by decide) (Nat.le_of_ble_eq_true rfl) dX3_serveNext_22 rfl (fun rv S9 n9 hp => ?_)
      obtain ⟨r7, rfl, rfl, rfl, h⟩ := hp
      obtain ⟨a8, e9, hA10, h⟩ := h
      refine fV_castK (k := 1) hF fK1 e9 hA10 fw_268 dX3_serveNext_25 ?_
      refine fV_astore_n0 hF [some (aR (some o)), some (aI x1), some (aR r7)] dX3_serveNext_28 rfl (by rw [hxn]; decide) rfl rfl ?_
      refine fV_aload_n hF dX3_serveNext_29 rfl rfl ?_
      refine fV_aload_n hF dX3_serveNext_30 rfl rfl ?_
      refine fV_callV (k := 4) (As := [(aR r7)]) hF (mc_X3_canStartOrReclaim hF.2.2.2.2.2.2.2.2.1 h) fK4 rfl hA1 (by omega) fw_687 fw_684 fw_686 fwp_22 fw_1 ⟨rfl, by decide, by decide, by decide +kernel⟩ (na := 1) rfl (by decide) (Nat.le_of_ble_eq_true rfl) dX3_serveNext_31 rfl (fun rv S12 n13 hp => ?_)
      obtain ⟨v11, rfl, h⟩ := hp
      refine fV_if_eq (tgt := 48) hF dX3_serveNext_34 (by decide) (fun c14 => ?_) (fun c14 => ?_)
      · have h := h.1 c14
        refine fV_iinc (v := 1) hF (fun y => [some (aR (some o)), some (aI y), some (aR r7)]) dX3_serveNext_48 rfl (by decide) (by rw [hxn]; decide) rfl (fun _ => rfl) (fun v15 ev15 => ?_)
        have h := h v15 ev15
        refine fV_goto (tgt := 6) hF dX3_serveNext_51 (by decide) ?_
        refine fV.sub (l' := [some (aR (some o)), some (aI v15), none]) ⟨rfl, ⟨rfl, trivial⟩⟩ ?_
        exact ih S12 n13 v15 h
      · have h := h.2 c14
        refine fV_aload_n hF dX3_serveNext_37 rfl rfl ?_
        obtain ⟨hA16, h⟩ := h
        refine fV_callV (k := 4) (As := []) hF (mc_X3_stopVictims hF.2.2.2.2.2.2.2.2.1 h) fK4 rfl hA16 (by omega) fw_782 fw_779 fw_781 fwp_29 fw_1 ⟨rfl, by decide, by decide, by decide +kernel⟩ (na := 0) rfl (by decide) (Nat.le_of_ble_eq_true rfl) dX3_serveNext_38 rfl (fun rv S17 n18 hp => ?_)
        obtain ⟨rfl, h⟩ := hp
        refine fV_aload_n hF dX3_serveNext_41 rfl rfl ?_
        refine fV_aload_n hF dX3_serveNext_42 rfl rfl ?_
        obtain ⟨hA19, h⟩ := h
        refine fV_callV (k := 4) (As := [(aR r7)]) hF (mc_X3_start hF.2.2.2.2.2.2.2.2.1 h) fK4 rfl hA19 (by omega) fw_786 fw_783 fw_785 fwp_30 fw_1 ⟨rfl, by decide, by decide, by decide +kernel⟩ (na := 1) rfl (by decide) (Nat.le_of_ble_eq_true rfl) dX3_serveNext_43 rfl (fun rv S20 n21 hp => ?_)
        obtain ⟨rfl, h⟩ := hp
        refine fV_iconst (v := 1) hF dX3_serveNext_46 (by decide) ?_
        exact fV_iret hF hE.s (by omega) hr (by decide) dX3_serveNext_47 ⟨_, rfl, h⟩
set_option maxRecDepth 100000 in
set_option maxHeartbeats 4000000 in
theorem mc_X3_serveNext {l : Launch} (hfl : l.stackTraces = false) {G : fG} {S : fMS} {n : Nat} {o : Nat} {post : Int32 → fMS → Nat → Prop} (h : wp_X3_serveNext S n o post) : fCM l yX3_serveNext (.code yX3_serveNext cX3_serveNext 3 (some .boolean)) 9 G [(aR (some o))] S n (fPI post) := by
  refine fCM_of hfl (by decide) (by intro v hv; simp only [List.mem_cons, List.not_mem_nil, or_false] at hv; rcases hv with rfl <;> rfl) (Nat.le_of_ble_eq_true rfl) (fun F hF hxn hl hG hr hin hE => ?_)
  subst hl hG
  have hlv : 9 ≤ 9 := Nat.le_refl _
  show fV F S n 0 [some (aR (some o)), none, none] []
  unfold wp_X3_serveNext at h
  refine fV_aload_n hF dX3_serveNext_0 rfl rfl ?_
  obtain ⟨hA1, h⟩ := h
  refine fV_callV (k := 4) (As := []) hF (mc_X3_formLine hF.2.2.2.2.2.2.2.2.1 h) fK4 rfl hA1 (by omega) fw_339 fw_336 fw_338 fwp_16 fw_1 ⟨rfl, by decide, by decide, by decide +kernel⟩ (na := 0) rfl (by decide) (Nat.le_of_ble_eq_true rfl) dX3_serveNext_1 rfl (fun rv S2 n3 hp => ?_)
  obtain ⟨rfl, h⟩ := hp
  refine fV_iconst (v := 0) hF dX3_serveNext_4 (by decide) ?_
  refine fV_istore_n0 hF [some (aR (some o)), some (aI (0 : Int32)), none] dX3_serveNext_5 rfl (by rw [hxn]; decide) rfl rfl ?_
  obtain ⟨f1, h⟩ := h
  refine fV.sub (l' := [some (aR (some o)), some (aI (0 : Int32)), none]) ⟨rfl, ⟨rfl, trivial⟩⟩ ?_
  exact mB_X3_serveNext_6 hlv hF hxn hr hE  f1 S2 n3 (0 : Int32) h
set_option maxRecDepth 100000 in
set_option maxHeartbeats 4000000 in
theorem mB_X3_serve_8 {F : fX} {lv : Nat} (hlv : 10 ≤ lv) (hF : fOk F cX3_serve RX3 lv) (hxn : xn F = 3) (hr : (xM F).sig.returnType = none) {post : fMS → Nat → Prop} {o : Nat} (hE : fEnd F lv (fPV post)) : ∀ (f : Nat) (S : fMS) (n : Nat) (x1 : Int32) (x2 : Int32) (h : wB_X3_serve_8 post o f S n x1 x2), fV F S n 8 [some (aR (some o)), some (aI x1), some (aI x2)] [] := by
  intro f
  induction f with
  | zero => intro _ _ _ _ h; exact h.elim
  | succ f ih =>
    intro S n x1 x2 h
    simp only [wB_X3_serve_8] at h
    refine fV_iload_n hF dX3_serve_8 rfl rfl ?_
    refine fV_if_eq (tgt := 30) hF dX3_serve_9 (by decide) (fun c1 => ?_) (fun c1 => ?_)
    · have h := h.1 c1
      exact fV_vret hF hE.s (by omega) hr dX3_serve_30 ⟨rfl, h⟩
    · have h := h.2 c1
      refine fV_iload_n hF dX3_serve_12 rfl rfl ?_
      refine fV_ldc_w (v := 1000000) hF dX3_serve_13 fw_774 ?_
      refine fV_icmp_ge (tgt := 30) hF dX3_serve_16 (by decide) (fun c2 => ?_) (fun c2 => ?_)
      · have h := h.1 c2
        exact fV_vret hF hE.s (by omega) hr dX3_serve_30 ⟨rfl, h⟩
      · have h := h.2 c2
        refine fV_aload_n hF dX3_serve_19 rfl rfl ?_
        obtain ⟨hA3, h⟩ := h
        refine fV_callV (k := 4) (As := []) hF (mc_X3_serveNext hF.2.2.2.2.2.2.2.2.1 h) fK4 rfl hA3 (by omega) fw_778 fw_775 fw_777 fwp_28 fw_1 ⟨rfl, by decide, by decide, by decide +kernel⟩ (na := 0) rfl (by decide) (Nat.le_of_ble_eq_true rfl) dX3_serve_20 rfl (fun rv S5 n6 hp => ?_)
        obtain ⟨v4, rfl, h⟩ := hp
        refine fV_istore_n0 hF [some (aR (some o)), some (aI v4), some (aI x2)] dX3_serve_23 rfl (by rw [hxn]; decide) rfl rfl ?_
        refine fV_iinc (v := 1) hF (fun y => [some (aR (some o)), some (aI v4), some (aI y)]) dX3_serve_24 rfl (by decide) (by rw [hxn]; decide) rfl (fun _ => rfl) (fun v7 ev7 => ?_)
        have h := h v7 ev7
        refine fV_goto (tgt := 8) hF dX3_serve_27 (by decide) ?_
        refine fV.sub (l' := [some (aR (some o)), some (aI v4), some (aI v7)]) ⟨rfl, ⟨rfl, ⟨rfl, trivial⟩⟩⟩ ?_
        exact ih S5 n6 v4 v7 h
set_option maxRecDepth 100000 in
set_option maxHeartbeats 4000000 in
theorem mc_X3_serve {l : Launch} (hfl : l.stackTraces = false) {G : fG} {S : fMS} {n : Nat} {o : Nat} {post : fMS → Nat → Prop} (h : wp_X3_serve S n o post) : fCM l yX3_serve (.code yX3_serve cX3_serve 3 none) 10 G [(aR (some o))] S n (fPV post) := by
  refine fCM_of hfl (by decide) (by intro v hv; simp only [List.mem_cons, List.not_mem_nil, or_false] at hv; rcases hv with rfl <;> rfl) (Nat.le_of_ble_eq_true rfl) (fun F hF hxn hl hG hr hin hE => ?_)
  subst hl hG
  have hlv : 10 ≤ 10 := Nat.le_refl _
  show fV F S n 0 [some (aR (some o)), none, none] []
  unfold wp_X3_serve at h
  refine fV_aload_n hF dX3_serve_0 rfl rfl ?_
  obtain ⟨hA1, h⟩ := h
  refine fV_callV (k := 4) (As := []) hF (mc_X3_reckonDues hF.2.2.2.2.2.2.2.2.1 h) fK4 rfl hA1 (by omega) fw_249 fw_246 fw_248 fwp_3 fw_1 ⟨rfl, by decide, by decide, by decide +kernel⟩ (na := 0) rfl (by decide) (Nat.le_of_ble_eq_true rfl) dX3_serve_1 rfl (fun rv S2 n3 hp => ?_)
  obtain ⟨rfl, h⟩ := hp
  refine fV_iconst (v := 1) hF dX3_serve_4 (by decide) ?_
  refine fV_istore_n0 hF [some (aR (some o)), some (aI (1 : Int32)), none] dX3_serve_5 rfl (by rw [hxn]; decide) rfl rfl ?_
  refine fV_iconst (v := 0) hF dX3_serve_6 (by decide) ?_
  refine fV_istore_n0 hF [some (aR (some o)), some (aI (1 : Int32)), some (aI (0 : Int32))] dX3_serve_7 rfl (by rw [hxn]; decide) rfl rfl ?_
  obtain ⟨f1, h⟩ := h
  refine fV.sub (l' := [some (aR (some o)), some (aI (1 : Int32)), some (aI (0 : Int32))]) ⟨rfl, ⟨rfl, ⟨rfl, trivial⟩⟩⟩ ?_
  exact mB_X3_serve_8 hlv hF hxn hr hE  f1 S2 n3 (1 : Int32) (0 : Int32) h
set_option maxRecDepth 100000 in
set_option maxHeartbeats 4000000 in
theorem mc_X3_addTeam {l : Launch} (hfl : l.stackTraces = false) {G : fG} {S : fMS} {n : Nat} {o : Nat} {p1 : Int32} {p2 : Int32} {post : Int32 → fMS → Nat → Prop} {postX : String → fMS → Nat → Prop} (h : wp_X3_addTeam S n o p1 p2 post postX) : fCX l yX3_addTeam (.code yX3_addTeam cX3_addTeam 5 (some .int)) 11 G [(aR (some o)), (aI p1), (aI p2)] S n (fPI post) postX := by
  refine fCX_of hfl (by decide) (by intro v hv; simp only [List.mem_cons, List.not_mem_nil, or_false] at hv; rcases hv with rfl | rfl | rfl <;> rfl) (Nat.le_of_ble_eq_true rfl) (fun F hF hxn hl hG hr hin hex hE => ?_)
  subst hl hG
  have hlv : 11 ≤ 11 := Nat.le_refl _
  show fV F S n 0 [some (aR (some o)), some (aI p1), some (aI p2), none, none] []
  unfold wp_X3_addTeam at h
  refine fV_aload_n hF dX3_addTeam_0 rfl rfl ?_
  refine fV_iload_n hF dX3_addTeam_1 rfl rfl ?_
  obtain ⟨hA1, h⟩ := h
  refine fV_callVX (k := 4) (As := [(aI p1)]) hF (mc_X3_teamAt hF.2.2.2.2.2.2.2.2.1 h) hE hex fK4 rfl hA1 (by omega) fw_744 fw_741 fw_743 fwp_26 fw_1 ⟨rfl, by decide, by decide, by decide +kernel⟩ (na := 1) rfl (by decide) (Nat.le_of_ble_eq_true rfl) dX3_addTeam_2 rfl (fun rv S9 n9 hp => ?_)
  obtain ⟨r2, rfl, rfl, rfl, h⟩ := hp
  refine fV_astore_n0 hF [some (aR (some o)), some (aI p1), some (aI p2), some (aR r2), none] dX3_addTeam_5 rfl (by rw [hxn]; decide) rfl rfl ?_
  refine fV_iload_n hF dX3_addTeam_6 rfl rfl ?_
  refine fV_iconst (v := 1) hF dX3_addTeam_7 (by decide) ?_
  refine fV_bipush (v := 9) hF dX3_addTeam_8 (by decide) ?_
  refine fV_callSX (As := [(aI p2), (aI (1 : Int32)), (aI (9 : Int32))]) hF (mc_X3_requireRange hF.2.2.2.2.2.2.2.2.1 h) hE hex (by omega) fw_750 fw_748 fw_749 fw_1 ⟨by decide, by decide, by decide +kernel⟩ (na := 3) rfl (by decide) (Nat.le_of_ble_eq_true rfl) dX3_addTeam_10 rfl (fun rv S9 n9 hp => ?_)
  obtain ⟨rfl, rfl, rfl, h⟩ := hp
  refine fV_aload_n hF dX3_addTeam_13 rfl rfl ?_
  refine fV_getR (k := 4) (i := 0) hF fK4 rfl hA1 (by decide) fw_192 (Or.inl rfl) rfl dX3_addTeam_14 ?_
  obtain ⟨a3, e4, hA5, h⟩ := h
  refine fV_callV (k := 6) (As := []) hF (mc_Jx4a65c_size_8abf5 hF.2.2.2.2.2.2.2.2.1 h) fK6 e4 hA5 (by omega) fw_233 fw_230 fw_231 fw_232 fw_4 ⟨rfl, by decide, by decide, by decide +kernel⟩ (na := 0) rfl (by decide) (Nat.le_of_ble_eq_true rfl) dX3_addTeam_17 rfl (fun rv S9 n9 hp => ?_)
  obtain ⟨v6, rfl, rfl, rfl, h⟩ := hp
  refine fV_bipush (v := 10) hF dX3_addTeam_20 (by decide) ?_
  refine fV_icmp_ge (tgt := 32) hF dX3_addTeam_22 (by decide) (fun c7 => ?_) (fun c7 => ?_)
  · have h := h.1 c7
    exact fV_throw (text := "no team can be added here") hF hE hex h.1 h.2 (by omega) (Nat.le_of_ble_eq_true rfl) rfl fw_754 fw_20 (by decide) vxw_77 (by decide) dX3_addTeam_32 dX3_addTeam_35 dX3_addTeam_36 dX3_addTeam_38 dX3_addTeam_41
  · have h := h.2 c7
    refine fV_aload_n hF dX3_addTeam_25 rfl rfl ?_
    obtain ⟨a8, e9, hA10, h⟩ := h
    refine fV_getI (k := 3) (i := 5) hF fK3 e9 hA10 (by decide) fw_85 (Or.inl rfl) rfl dX3_addTeam_26 ?_
    refine fV_if_eq (tgt := 42) hF dX3_addTeam_29 (by decide) (fun c11 => ?_) (fun c11 => ?_)
    · have h := h.1 c11
      obtain ⟨hn12, h⟩ := h
      refine fV_new (k := 3) hF fK3 tyX2_ok fDef3 (by omega) fw_66 fw_67 fw_5 hn12 dX3_addTeam_42 (fun q13 hq14 hqe15 => ?_)
      have h := h q13 hq14 hqe15
      refine fV_dup hF dX3_addTeam_45 rfl ?_
      refine fV_aload_n hF dX3_addTeam_46 rfl rfl ?_
      refine fV_getR (k := 4) (i := 0) hF fK4 rfl (isA_new (k := 3) (N := 0) hq14 hA1) (by decide) fw_192 (Or.inl rfl) rfl dX3_addTeam_47 ?_
      obtain ⟨a16, e17, hA18, h⟩ := h
      refine fV_callV (k := 6) (As := []) hF (mc_Jx4a65c_size_8abf5 hF.2.2.2.2.2.2.2.2.1 h) fK6 e17 hA18 (by omega) fw_233 fw_230 fw_231 fw_232 fw_4 ⟨rfl, by decide, by decide, by decide +kernel⟩ (na := 0) rfl (by decide) (Nat.le_of_ble_eq_true rfl) dX3_addTeam_50 rfl (fun rv S9 n9 hp => ?_)
      obtain ⟨v19, rfl, rfl, rfl, h⟩ := hp
      refine fV_aload_n hF dX3_addTeam_53 rfl rfl ?_
      refine fV_iload_n hF dX3_addTeam_54 rfl rfl ?_
      refine fV_callI (As := [(aI v19), (aR r2), (aI p2)]) hF (mc_X2_init hF.2.2.2.2.2.2.2.2.1 h) rfl (by omega) fw_70 fw_68 fw_69 fw_5 ⟨by decide, by decide, by decide +kernel⟩ (na := 3) rfl rfl (by decide) (Nat.le_of_ble_eq_true rfl) dX3_addTeam_55 rfl (fun rv S20 n21 hp => ?_)
      obtain ⟨rfl, h⟩ := hp
      refine fV_astore0 hF [some (aR (some o)), some (aI p1), some (aI p2), some (aR r2), some (aR (some q13))] dX3_addTeam_58 (by rw [hxn]; decide) rfl rfl ?_
      refine fV_aload_n hF dX3_addTeam_60 rfl rfl ?_
      obtain ⟨hA22, h⟩ := h
      refine fV_getR (k := 4) (i := 0) hF fK4 rfl hA22 (by decide) fw_192 (Or.inl rfl) rfl dX3_addTeam_61 ?_
      refine fV_aload hF dX3_addTeam_64 rfl ?_
      obtain ⟨a23, e24, hA25, h⟩ := h
      refine fV_callV (k := 6) (As := [(aR (some q13))]) hF (mc_Jx4a65c_add_9ea2d hF.2.2.2.2.2.2.2.2.1 h) fK6 e24 hA25 (by omega) fw_133 fw_130 fw_131 fw_132 fw_4 ⟨rfl, by decide, by decide, by decide +kernel⟩ (na := 1) rfl (by decide) (Nat.le_of_ble_eq_true rfl) dX3_addTeam_66 rfl (fun rv S27 n28 hp => ?_)
      obtain ⟨v26, rfl, h⟩ := hp
      refine fV_pop hF dX3_addTeam_69 rfl ?_
      refine fV_aload_n hF dX3_addTeam_70 rfl rfl ?_
      obtain ⟨hA29, h⟩ := h
      refine fV_getR (k := 3) (i := 2) hF fK3 e9 hA29 (by decide) fw_79 (Or.inl rfl) rfl dX3_addTeam_71 ?_
      refine fV_aload hF dX3_addTeam_74 rfl ?_
      obtain ⟨a30, e31, hA32, h⟩ := h
      refine fV_callV (k := 6) (As := [(aR (some q13))]) hF (mc_Jx4a65c_add_9ea2d hF.2.2.2.2.2.2.2.2.1 h) fK6 e31 hA32 (by omega) fw_133 fw_130 fw_131 fw_132 fw_4 ⟨rfl, by decide, by decide, by decide +kernel⟩ (na := 1) rfl (by decide) (Nat.le_of_ble_eq_true rfl) dX3_addTeam_76 rfl (fun rv S34 n35 hp => ?_)
      obtain ⟨v33, rfl, h⟩ := hp
      refine fV_pop hF dX3_addTeam_79 rfl ?_
      refine fV_aload_n hF dX3_addTeam_80 rfl rfl ?_
      obtain ⟨hA36, h⟩ := h
      refine fV_callV (k := 4) (As := []) hF (mc_X3_serve hF.2.2.2.2.2.2.2.2.1 h) fK4 rfl hA36 (by omega) fw_773 fw_770 fw_772 fwp_27 fw_1 ⟨rfl, by decide, by decide, by decide +kernel⟩ (na := 0) rfl (by decide) (Nat.le_of_ble_eq_true rfl) dX3_addTeam_81 rfl (fun rv S37 n38 hp => ?_)
      obtain ⟨rfl, h⟩ := hp
      refine fV_aload hF dX3_addTeam_84 rfl ?_
      obtain ⟨hA39, h⟩ := h
      refine fV_getI (k := 3) (i := 0) hF fK3 rfl hA39 (by decide) fw_75 (Or.inl rfl) rfl dX3_addTeam_86 ?_
      exact fV_iret hF hE.s (by omega) hr rfl dX3_addTeam_89 ⟨_, rfl, h⟩
    · have h := h.2 c11
      exact fV_throw (text := "no team can be added here") hF hE hex h.1 h.2 (by omega) (Nat.le_of_ble_eq_true rfl) rfl fw_754 fw_20 (by decide) vxw_77 (by decide) dX3_addTeam_32 dX3_addTeam_35 dX3_addTeam_36 dX3_addTeam_38 dX3_addTeam_41
set_option maxRecDepth 100000 in
set_option maxHeartbeats 4000000 in
theorem mc_X3_teamBelowRoot {l : Launch} (hfl : l.stackTraces = false) {G : fG} {S : fMS} {n : Nat} {o : Nat} {p1 : Int32} {post : Option Nat → Prop} {postX : String → fMS → Nat → Prop} (h : wp_X3_teamBelowRoot S n o p1 post postX) : fCX l yX3_teamBelowRoot (.code yX3_teamBelowRoot cX3_teamBelowRoot 3 (some (.object "FairquotaBroker$Team"))) 5 G [(aR (some o)), (aI p1)] S n (fPR (fun x S' n' => S = S' ∧ n = n' ∧ post x)) postX := by
  refine fCX_of hfl (by decide) (by intro v hv; simp only [List.mem_cons, List.not_mem_nil, or_false] at hv; rcases hv with rfl | rfl <;> rfl) (Nat.le_of_ble_eq_true rfl) (fun F hF hxn hl hG hr hin hex hE => ?_)
  subst hl hG
  have hlv : 5 ≤ 5 := Nat.le_refl _
  show fV F S n 0 [some (aR (some o)), some (aI p1), none] []
  unfold wp_X3_teamBelowRoot at h
  refine fV_aload_n hF dX3_teamBelowRoot_0 rfl rfl ?_
  refine fV_iload_n hF dX3_teamBelowRoot_1 rfl rfl ?_
  obtain ⟨hA1, h⟩ := h
  refine fV_callVX (k := 4) (As := [(aI p1)]) hF (mc_X3_teamAt hF.2.2.2.2.2.2.2.2.1 h) hE hex fK4 rfl hA1 (by omega) fw_744 fw_741 fw_743 fwp_26 fw_1 ⟨rfl, by decide, by decide, by decide +kernel⟩ (na := 1) rfl (by decide) (Nat.le_of_ble_eq_true rfl) dX3_teamBelowRoot_2 rfl (fun rv S9 n9 hp => ?_)
  obtain ⟨r2, rfl, rfl, rfl, h⟩ := hp
  refine fV_astore_n0 hF [some (aR (some o)), some (aI p1), some (aR r2)] dX3_teamBelowRoot_5 rfl (by rw [hxn]; decide) rfl rfl ?_
  refine fV_aload_n hF dX3_teamBelowRoot_6 rfl rfl ?_
  refine fV_aload_n hF dX3_teamBelowRoot_7 rfl rfl ?_
  refine fV_getR (k := 4) (i := 1) hF fK4 rfl hA1 (by decide) fw_193 (Or.inl rfl) rfl dX3_teamBelowRoot_8 ?_
  refine fV_acmp_ne (tgt := 24) hF dX3_teamBelowRoot_11 (by decide) (fun c3 => ?_) (fun c3 => ?_)
  · have h := h.1 c3
    refine fV_aload_n hF dX3_teamBelowRoot_24 rfl rfl ?_
    exact fV_aret hF hE.s (by omega) hr (Or.inl ⟨_, rfl⟩) dX3_teamBelowRoot_25 ⟨_, rfl, rfl, rfl, h⟩
  · have h := h.2 c3
    exact fV_throw (text := "the team is the root") hF hE hex h.1 h.2 (by omega) (Nat.le_of_ble_eq_true rfl) rfl fw_799 fw_27 (by decide) vxw_257 (by decide) dX3_teamBelowRoot_14 dX3_teamBelowRoot_17 dX3_teamBelowRoot_18 dX3_teamBelowRoot_20 dX3_teamBelowRoot_23
set_option maxRecDepth 100000 in
set_option maxHeartbeats 4000000 in
theorem mc_X3_setWeight {l : Launch} (hfl : l.stackTraces = false) {G : fG} {S : fMS} {n : Nat} {o : Nat} {p1 : Int32} {p2 : Int32} {post : Int32 → fMS → Nat → Prop} {postX : String → fMS → Nat → Prop} (h : wp_X3_setWeight S n o p1 p2 post postX) : fCX l yX3_setWeight (.code yX3_setWeight cX3_setWeight 5 (some .int)) 11 G [(aR (some o)), (aI p1), (aI p2)] S n (fPI post) postX := by
  refine fCX_of hfl (by decide) (by intro v hv; simp only [List.mem_cons, List.not_mem_nil, or_false] at hv; rcases hv with rfl | rfl | rfl <;> rfl) (Nat.le_of_ble_eq_true rfl) (fun F hF hxn hl hG hr hin hex hE => ?_)
  subst hl hG
  have hlv : 11 ≤ 11 := Nat.le_refl _
  show fV F S n 0 [some (aR (some o)), some (aI p1), some (aI p2), none, none] []
  unfold wp_X3_setWeight at h
  refine fV_aload_n hF dX3_setWeight_0 rfl rfl ?_
  refine fV_iload_n hF dX3_setWeight_1 rfl rfl ?_
  obtain ⟨hA1, h⟩ := h
  refine fV_callVX (k := 4) (As := [(aI p1)]) hF (mc_X3_teamBelowRoot hF.2.2.2.2.2.2.2.2.1 h) hE hex fK4 rfl hA1 (by omega) fw_798 fw_795 fw_797 fwp_31 fw_1 ⟨rfl, by decide, by decide, by decide +kernel⟩ (na := 1) rfl (by decide) (Nat.le_of_ble_eq_true rfl) dX3_setWeight_2 rfl (fun rv S9 n9 hp => ?_)
  obtain ⟨r2, rfl, rfl, rfl, h⟩ := hp
  refine fV_astore_n0 hF [some (aR (some o)), some (aI p1), some (aI p2), some (aR r2), none] dX3_setWeight_5 rfl (by rw [hxn]; decide) rfl rfl ?_
  refine fV_iload_n hF dX3_setWeight_6 rfl rfl ?_
  refine fV_iconst (v := 1) hF dX3_setWeight_7 (by decide) ?_
  refine fV_bipush (v := 9) hF dX3_setWeight_8 (by decide) ?_
  refine fV_callSX (As := [(aI p2), (aI (1 : Int32)), (aI (9 : Int32))]) hF (mc_X3_requireRange hF.2.2.2.2.2.2.2.2.1 h) hE hex (by omega) fw_750 fw_748 fw_749 fw_1 ⟨by decide, by decide, by decide +kernel⟩ (na := 3) rfl (by decide) (Nat.le_of_ble_eq_true rfl) dX3_setWeight_10 rfl (fun rv S9 n9 hp => ?_)
  obtain ⟨rfl, rfl, rfl, h⟩ := hp
  refine fV_aload_n hF dX3_setWeight_13 rfl rfl ?_
  obtain ⟨a3, e4, hA5, h⟩ := h
  refine fV_getI (k := 3) (i := 3) hF fK3 e4 hA5 (by decide) fw_81 (Or.inl rfl) rfl dX3_setWeight_14 ?_
  refine fV_istore hF (fun y => [some (aR (some o)), some (aI p1), some (aI p2), some (aR r2), some (aI y)]) dX3_setWeight_17 (by rw [hxn]; decide) rfl (fun _ => rfl) (fun v6 ev6 => ?_)
  have h := h v6 ev6
  refine fV_aload_n hF dX3_setWeight_19 rfl rfl ?_
  refine fV_iload_n hF dX3_setWeight_20 rfl rfl ?_
  refine fV_putI (k := 3) (i := 3) hF fK3 tyX2_ok nmX2 e4 hA5 (by decide) rfl fw_81 (Or.inl rfl) (Or.inl rfl) rfl rfl dX3_setWeight_21 ?_
  refine fV_aload_n hF dX3_setWeight_24 rfl rfl ?_
  refine fV_callV (k := 4) (As := []) hF (mc_X3_serve hF.2.2.2.2.2.2.2.2.1 h) fK4 rfl hA1 (by omega) fw_773 fw_770 fw_772 fwp_27 fw_1 ⟨rfl, by decide, by decide, by decide +kernel⟩ (na := 0) rfl (by decide) (Nat.le_of_ble_eq_true rfl) dX3_setWeight_25 rfl (fun rv S7 n8 hp => ?_)
  obtain ⟨rfl, h⟩ := hp
  refine fV_iload hF dX3_setWeight_28 rfl ?_
  exact fV_iret hF hE.s (by omega) hr rfl dX3_setWeight_30 ⟨_, rfl, h⟩
set_option maxRecDepth 100000 in
set_option maxHeartbeats 4000000 in
theorem mc_X3_setLimit {l : Launch} (hfl : l.stackTraces = false) {G : fG} {S : fMS} {n : Nat} {o : Nat} {p1 : Int32} {p2 : Int32} {post : Int32 → fMS → Nat → Prop} {postX : String → fMS → Nat → Prop} (h : wp_X3_setLimit S n o p1 p2 post postX) : fCX l yX3_setLimit (.code yX3_setLimit cX3_setLimit 5 (some .int)) 11 G [(aR (some o)), (aI p1), (aI p2)] S n (fPI post) postX := by
  refine fCX_of hfl (by decide) (by intro v hv; simp only [List.mem_cons, List.not_mem_nil, or_false] at hv; rcases hv with rfl | rfl | rfl <;> rfl) (Nat.le_of_ble_eq_true rfl) (fun F hF hxn hl hG hr hin hex hE => ?_)
  subst hl hG
  have hlv : 11 ≤ 11 := Nat.le_refl _
  show fV F S n 0 [some (aR (some o)), some (aI p1), some (aI p2), none, none] []
  unfold wp_X3_setLimit at h
  refine fV_aload_n hF dX3_setLimit_0 rfl rfl ?_
  refine fV_iload_n hF dX3_setLimit_1 rfl rfl ?_
  obtain ⟨hA1, h⟩ := h
  refine fV_callVX (k := 4) (As := [(aI p1)]) hF (mc_X3_teamBelowRoot hF.2.2.2.2.2.2.2.2.1 h) hE hex fK4 rfl hA1 (by omega) fw_798 fw_795 fw_797 fwp_31 fw_1 ⟨rfl, by decide, by decide, by decide +kernel⟩ (na := 1) rfl (by decide) (Nat.le_of_ble_eq_true rfl) dX3_setLimit_2 rfl (fun rv S9 n9 hp => ?_)
  obtain ⟨r2, rfl, rfl, rfl, h⟩ := hp
  refine fV_astore_n0 hF [some (aR (some o)), some (aI p1), some (aI p2), some (aR r2), none] dX3_setLimit_5 rfl (by rw [hxn]; decide) rfl rfl ?_
  refine fV_iload_n hF dX3_setLimit_6 rfl rfl ?_
  refine fV_iconst (v := 0) hF dX3_setLimit_7 (by decide) ?_
  refine fV_sipush (v := 500) hF dX3_setLimit_8 (by decide) ?_
  refine fV_callSX (As := [(aI p2), (aI (0 : Int32)), (aI (500 : Int32))]) hF (mc_X3_requireRange hF.2.2.2.2.2.2.2.2.1 h) hE hex (by omega) fw_750 fw_748 fw_749 fw_1 ⟨by decide, by decide, by decide +kernel⟩ (na := 3) rfl (by decide) (Nat.le_of_ble_eq_true rfl) dX3_setLimit_11 rfl (fun rv S9 n9 hp => ?_)
  obtain ⟨rfl, rfl, rfl, h⟩ := hp
  refine fV_aload_n hF dX3_setLimit_14 rfl rfl ?_
  obtain ⟨a3, e4, hA5, h⟩ := h
  refine fV_getI (k := 3) (i := 4) hF fK3 e4 hA5 (by decide) fw_83 (Or.inl rfl) rfl dX3_setLimit_15 ?_
  refine fV_istore hF (fun y => [some (aR (some o)), some (aI p1), some (aI p2), some (aR r2), some (aI y)]) dX3_setLimit_18 (by rw [hxn]; decide) rfl (fun _ => rfl) (fun v6 ev6 => ?_)
  have h := h v6 ev6
  refine fV_aload_n hF dX3_setLimit_20 rfl rfl ?_
  refine fV_iload_n hF dX3_setLimit_21 rfl rfl ?_
  refine fV_putI (k := 3) (i := 4) hF fK3 tyX2_ok nmX2 e4 hA5 (by decide) rfl fw_83 (Or.inl rfl) (Or.inl rfl) rfl rfl dX3_setLimit_22 ?_
  refine fV_aload_n hF dX3_setLimit_25 rfl rfl ?_
  refine fV_callV (k := 4) (As := []) hF (mc_X3_serve hF.2.2.2.2.2.2.2.2.1 h) fK4 rfl hA1 (by omega) fw_773 fw_770 fw_772 fwp_27 fw_1 ⟨rfl, by decide, by decide, by decide +kernel⟩ (na := 0) rfl (by decide) (Nat.le_of_ble_eq_true rfl) dX3_setLimit_26 rfl (fun rv S7 n8 hp => ?_)
  obtain ⟨rfl, h⟩ := hp
  refine fV_iload hF dX3_setLimit_29 rfl ?_
  exact fV_iret hF hE.s (by omega) hr rfl dX3_setLimit_31 ⟨_, rfl, h⟩
set_option maxRecDepth 100000 in
set_option maxHeartbeats 4000000 in
theorem mc_X3_setCapacity {l : Launch} (hfl : l.stackTraces = false) {G : fG} {S : fMS} {n : Nat} {o : Nat} {p1 : Int32} {post : Int32 → fMS → Nat → Prop} {postX : String → fMS → Nat → Prop} (h : wp_X3_setCapacity S n o p1 post postX) : fCX l yX3_setCapacity (.code yX3_setCapacity cX3_setCapacity 3 (some .int)) 11 G [(aR (some o)), (aI p1)] S n (fPI post) postX := by
  refine fCX_of hfl (by decide) (by intro v hv; simp only [List.mem_cons, List.not_mem_nil, or_false] at hv; rcases hv with rfl | rfl <;> rfl) (Nat.le_of_ble_eq_true rfl) (fun F hF hxn hl hG hr hin hex hE => ?_)
  subst hl hG
  have hlv : 11 ≤ 11 := Nat.le_refl _
  show fV F S n 0 [some (aR (some o)), some (aI p1), none] []
  unfold wp_X3_setCapacity at h
  refine fV_iload_n hF dX3_setCapacity_0 rfl rfl ?_
  refine fV_iconst (v := 0) hF dX3_setCapacity_1 (by decide) ?_
  refine fV_sipush (v := 200) hF dX3_setCapacity_2 (by decide) ?_
  refine fV_callSX (As := [(aI p1), (aI (0 : Int32)), (aI (200 : Int32))]) hF (mc_X3_requireRange hF.2.2.2.2.2.2.2.2.1 h) hE hex (by omega) fw_750 fw_748 fw_749 fw_1 ⟨by decide, by decide, by decide +kernel⟩ (na := 3) rfl (by decide) (Nat.le_of_ble_eq_true rfl) dX3_setCapacity_5 rfl (fun rv S9 n9 hp => ?_)
  obtain ⟨rfl, rfl, rfl, h⟩ := hp
  refine fV_iload_n hF dX3_setCapacity_8 rfl rfl ?_
  refine fV_aload_n hF dX3_setCapacity_9 rfl rfl ?_
  obtain ⟨hA1, h⟩ := h
  refine fV_getR (k := 4) (i := 1) hF fK4 rfl hA1 (by decide) fw_193 (Or.inl rfl) rfl dX3_setCapacity_10 ?_
  obtain ⟨a2, e3, hA4, h⟩ := h
  refine fV_getI (k := 3) (i := 6) hF fK3 e3 hA4 (by decide) fw_87 (Or.inl rfl) rfl dX3_setCapacity_13 ?_
  refine fV_icmp_ge (tgt := 29) hF dX3_setCapacity_16 (by decide) (fun c5 => ?_) (fun c5 => ?_)
  · have h := h.1 c5
    refine fV_aload_n hF dX3_setCapacity_29 rfl rfl ?_
    refine fV_getI (k := 4) (i := 7) hF fK4 rfl hA1 (by decide) fw_199 (Or.inl rfl) rfl dX3_setCapacity_30 ?_
    refine fV_istore_n hF (fun y => [some (aR (some o)), some (aI p1), some (aI y)]) dX3_setCapacity_33 rfl (by rw [hxn]; decide) rfl (fun _ => rfl) (fun v6 ev6 => ?_)
    have h := h v6 ev6
    refine fV_aload_n hF dX3_setCapacity_34 rfl rfl ?_
    refine fV_iload_n hF dX3_setCapacity_35 rfl rfl ?_
    refine fV_putI (k := 4) (i := 7) hF fK4 tyX3_ok nmX3 rfl hA1 (by decide) rfl fw_199 (Or.inl rfl) (Or.inl rfl) rfl rfl dX3_setCapacity_36 ?_
    refine fV_aload_n hF dX3_setCapacity_39 rfl rfl ?_
    refine fV_callV (k := 4) (As := []) hF (mc_X3_serve hF.2.2.2.2.2.2.2.2.1 h) fK4 rfl hA1 (by omega) fw_773 fw_770 fw_772 fwp_27 fw_1 ⟨rfl, by decide, by decide, by decide +kernel⟩ (na := 0) rfl (by decide) (Nat.le_of_ble_eq_true rfl) dX3_setCapacity_40 rfl (fun rv S7 n8 hp => ?_)
    obtain ⟨rfl, h⟩ := hp
    refine fV_iload_n hF dX3_setCapacity_43 rfl rfl ?_
    exact fV_iret hF hE.s (by omega) hr rfl dX3_setCapacity_44 ⟨_, rfl, h⟩
  · have h := h.2 c5
    exact fV_throw (text := "more than that is run") hF hE hex h.1 h.2 (by omega) (Nat.le_of_ble_eq_true rfl) rfl fw_754 fw_20 (by decide) vxw_77 (by decide) dX3_setCapacity_19 dX3_setCapacity_22 dX3_setCapacity_23 dX3_setCapacity_25 dX3_setCapacity_28
set_option maxRecDepth 100000 in
set_option maxHeartbeats 4000000 in
theorem mc_X3_setHalfTime {l : Launch} (hfl : l.stackTraces = false) {G : fG} {S : fMS} {n : Nat} {o : Nat} {p1 : Int32} {post : Int32 → fMS → Nat → Prop} {postX : String → fMS → Nat → Prop} (h : wp_X3_setHalfTime S n o p1 post postX) : fCX l yX3_setHalfTime (.code yX3_setHalfTime cX3_setHalfTime 3 (some .int)) 11 G [(aR (some o)), (aI p1)] S n (fPI post) postX := by
  refine fCX_of hfl (by decide) (by intro v hv; simp only [List.mem_cons, List.not_mem_nil, or_false] at hv; rcases hv with rfl | rfl <;> rfl) (Nat.le_of_ble_eq_true rfl) (fun F hF hxn hl hG hr hin hex hE => ?_)
  subst hl hG
  have hlv : 11 ≤ 11 := Nat.le_refl _
  show fV F S n 0 [some (aR (some o)), some (aI p1), none] []
  unfold wp_X3_setHalfTime at h
  refine fV_iload_n hF dX3_setHalfTime_0 rfl rfl ?_
  refine fV_iconst (v := 1) hF dX3_setHalfTime_1 (by decide) ?_
  refine fV_bipush (v := 100) hF dX3_setHalfTime_2 (by decide) ?_
  refine fV_callSX (As := [(aI p1), (aI (1 : Int32)), (aI (100 : Int32))]) hF (mc_X3_requireRange hF.2.2.2.2.2.2.2.2.1 h) hE hex (by omega) fw_750 fw_748 fw_749 fw_1 ⟨by decide, by decide, by decide +kernel⟩ (na := 3) rfl (by decide) (Nat.le_of_ble_eq_true rfl) dX3_setHalfTime_4 rfl (fun rv S9 n9 hp => ?_)
  obtain ⟨rfl, rfl, rfl, h⟩ := hp
  refine fV_aload_n hF dX3_setHalfTime_7 rfl rfl ?_
  obtain ⟨hA1, h⟩ := h
  refine fV_getI (k := 4) (i := 8) hF fK4 rfl hA1 (by decide) fw_200 (Or.inl rfl) rfl dX3_setHalfTime_8 ?_
  refine fV_istore_n hF (fun y => [some (aR (some o)), some (aI p1), some (aI y)]) dX3_setHalfTime_11 rfl (by rw [hxn]; decide) rfl (fun _ => rfl) (fun v2 ev2 => ?_)
  have h := h v2 ev2
  refine fV_aload_n hF dX3_setHalfTime_12 rfl rfl ?_
  refine fV_iload_n hF dX3_setHalfTime_13 rfl rfl ?_
  refine fV_putI (k := 4) (i := 8) hF fK4 tyX3_ok nmX3 rfl hA1 (by decide) rfl fw_200 (Or.inl rfl) (Or.inl rfl) rfl rfl dX3_setHalfTime_14 ?_
  refine fV_aload_n hF dX3_setHalfTime_17 rfl rfl ?_
  refine fV_callV (k := 4) (As := []) hF (mc_X3_serve hF.2.2.2.2.2.2.2.2.1 h) fK4 rfl hA1 (by omega) fw_773 fw_770 fw_772 fwp_27 fw_1 ⟨rfl, by decide, by decide, by decide +kernel⟩ (na := 0) rfl (by decide) (Nat.le_of_ble_eq_true rfl) dX3_setHalfTime_18 rfl (fun rv S3 n4 hp => ?_)
  obtain ⟨rfl, h⟩ := hp
  refine fV_iload_n hF dX3_setHalfTime_21 rfl rfl ?_
  exact fV_iret hF hE.s (by omega) hr rfl dX3_setHalfTime_22 ⟨_, rfl, h⟩
set_option maxRecDepth 100000 in
set_option maxHeartbeats 4000000 in
theorem mc_X3_teams {l : Launch} (hfl : l.stackTraces = false) {G : fG} {S : fMS} {n : Nat} {o : Nat} {post : Int32 → Prop} (h : wp_X3_teams S o post) : fCM l yX3_teams (.code yX3_teams cX3_teams 1 (some .int)) 2 G [(aR (some o))] S n (fPI (fun x S' n' => S = S' ∧ n = n' ∧ post x)) := by
  refine fCM_of hfl (by decide) (by intro v hv; simp only [List.mem_cons, List.not_mem_nil, or_false] at hv; rcases hv with rfl <;> rfl) (Nat.le_of_ble_eq_true rfl) (fun F hF hxn hl hG hr hin hE => ?_)
  subst hl hG
  have hlv : 2 ≤ 2 := Nat.le_refl _
  show fV F S n 0 [some (aR (some o))] []
  unfold wp_X3_teams at h
  refine fV_aload_n hF dX3_teams_0 rfl rfl ?_
  obtain ⟨hA1, h⟩ := h
  refine fV_getR (k := 4) (i := 0) hF fK4 rfl hA1 (by decide) fw_192 (Or.inl rfl) rfl dX3_teams_1 ?_
  obtain ⟨a2, e3, hA4, h⟩ := h
  refine fV_callV (k := 6) (As := []) hF (mc_Jx4a65c_size_8abf5 hF.2.2.2.2.2.2.2.2.1 h) fK6 e3 hA4 (by omega) fw_233 fw_230 fw_231 fw_232 fw_4 ⟨rfl, by decide, by decide, by decide +kernel⟩ (na := 0) rfl (by decide) (Nat.le_of_ble_eq_true rfl) dX3_teams_4 rfl (fun rv S9 n9 hp => ?_)
  obtain ⟨v5, rfl, rfl, rfl, h⟩ := hp
  exact fV_iret hF hE.s (by omega) hr rfl dX3_teams_7 ⟨_, rfl, rfl, rfl, h⟩
set_option maxRecDepth 100000 in
set_option maxHeartbeats 4000000 in
theorem mc_X3_parentOf {l : Launch} (hfl : l.stackTraces = false) {G : fG} {S : fMS} {n : Nat} {o : Nat} {p1 : Int32} {post : Int32 → Prop} {postX : String → fMS → Nat → Prop} (h : wp_X3_parentOf S n o p1 post postX) : fCX l yX3_parentOf (.code yX3_parentOf cX3_parentOf 3 (some .int)) 6 G [(aR (some o)), (aI p1)] S n (fPI (fun x S' n' => S = S' ∧ n = n' ∧ post x)) postX := by
  refine fCX_of hfl (by decide) (by intro v hv; simp only [List.mem_cons, List.not_mem_nil, or_false] at hv; rcases hv with rfl | rfl <;> rfl) (Nat.le_of_ble_eq_true rfl) (fun F hF hxn hl hG hr hin hex hE => ?_)
  subst hl hG
  have hlv : 6 ≤ 6 := Nat.le_refl _
  show fV F S n 0 [some (aR (some o)), some (aI p1), none] []
  unfold wp_X3_parentOf at h
  refine fV_aload_n hF dX3_parentOf_0 rfl rfl ?_
  refine fV_iload_n hF dX3_parentOf_1 rfl rfl ?_
  obtain ⟨hA1, h⟩ := h
  refine fV_callVX (k := 4) (As := [(aI p1)]) hF (mc_X3_teamBelowRoot hF.2.2.2.2.2.2.2.2.1 h) hE hex fK4 rfl hA1 (by omega) fw_798 fw_795 fw_797 fwp_31 fw_1 ⟨rfl, by decide, by decide, by decide +kernel⟩ (na := 1) rfl (by decide) (Nat.le_of_ble_eq_true rfl) dX3_parentOf_2 rfl (fun rv S9 n9 hp => ?_)
  obtain ⟨r2, rfl, rfl, rfl, h⟩ := hp
  obtain ⟨a3, e4, hA5, h⟩ := h
  refine fV_getR (k := 3) (i := 1) hF fK3 e4 hA5 (by decide) fw_77 (Or.inl rfl) rfl dX3_parentOf_5 ?_
  refine fV_astore_n hF (fun y => [some (aR (some o)), some (aI p1), some (aR y)]) dX3_parentOf_8 rfl (by rw [hxn]; decide) rfl (fun _ => rfl) (fun r6 er6 => ?_)
  have h := h r6 er6
  refine fV_aload_n hF dX3_parentOf_9 rfl rfl ?_
  refine fV_ifnonnull (tgt := 17) hF dX3_parentOf_10 (by decide) (fun c7 => ?_) (fun c7 => ?_)
  · have h := h.1 c7
    refine fV_aload_n hF dX3_parentOf_17 rfl rfl ?_
    obtain ⟨a8, e9, hA10, h⟩ := h
    refine fV_getI (k := 3) (i := 0) hF fK3 e9 hA10 (by decide) fw_75 (Or.inl rfl) rfl dX3_parentOf_18 ?_
    exact fV_iret hF hE.s (by omega) hr rfl dX3_parentOf_21 ⟨_, rfl, rfl, rfl, h⟩
  · have h := h.2 c7
    refine fV_iconst (v := 0) hF dX3_parentOf_13 (by decide) ?_
    refine fV_goto (tgt := 21) hF dX3_parentOf_14 (by decide) ?_
    exact fV_iret hF hE.s (by omega) hr rfl dX3_parentOf_21 ⟨_, rfl, rfl, rfl, h⟩
set_option maxRecDepth 100000 in
set_option maxHeartbeats 4000000 in
theorem mc_X3_children {l : Launch} (hfl : l.stackTraces = false) {G : fG} {S : fMS} {n : Nat} {o : Nat} {p1 : Int32} {post : Int32 → Prop} {postX : String → fMS → Nat → Prop} (h : wp_X3_children S n o p1 post postX) : fCX l yX3_children (.code yX3_children cX3_children 2 (some .int)) 5 G [(aR (some o)), (aI p1)] S n (fPI (fun x S' n' => S = S' ∧ n = n' ∧ post x)) postX := by
  refine fCX_of hfl (by decide) (by intro v hv; simp only [List.mem_cons, List.not_mem_nil, or_false] at hv; rcases hv with rfl | rfl <;> rfl) (Nat.le_of_ble_eq_true rfl) (fun F hF hxn hl hG hr hin hex hE => ?_)
  subst hl hG
  have hlv : 5 ≤ 5 := Nat.le_refl _
  show fV F S n 0 [some (aR (some o)), some (aI p1)] []
  unfold wp_X3_children at h
  refine fV_aload_n hF dX3_children_0 rfl rfl ?_
  refine fV_iload_n hF dX3_children_1 rfl rfl ?_
  obtain ⟨hA1, h⟩ := h
  refine fV_callVX (k := 4) (As := [(aI p1)]) hF (mc_X3_teamAt hF.2.2.2.2.2.2.2.2.1 h) hE hex fK4 rfl hA1 (by omega) fw_744 fw_741 fw_743 fwp_26 fw_1 ⟨rfl, by decide, by decide, by decide +kernel⟩ (na := 1) rfl (by decide) (Nat.le_of_ble_eq_true rfl) dX3_children_2 rfl (fun rv S9 n9 hp => ?_)
  obtain ⟨r2, rfl, rfl, rfl, h⟩ := hp
  obtain ⟨a3, e4, hA5, h⟩ := h
  refine fV_getR (k := 3) (i := 2) hF fK3 e4 hA5 (by decide) fw_79 (Or.inl rfl) rfl dX3_children_5 ?_
  obtain ⟨a6, e7, hA8, h⟩ := h
  refine fV_callV (k := 6) (As := []) hF (mc_Jx4a65c_size_8abf5 hF.2.2.2.2.2.2.2.2.1 h) fK6 e7 hA8 (by omega) fw_233 fw_230 fw_231 fw_232 fw_4 ⟨rfl, by decide, by decide, by decide +kernel⟩ (na := 0) rfl (by decide) (Nat.le_of_ble_eq_true rfl) dX3_children_8 rfl (fun rv S9 n9 hp => ?_)
  obtain ⟨v9, rfl, rfl, rfl, h⟩ := hp
  exact fV_iret hF hE.s (by omega) hr rfl dX3_children_11 ⟨_, rfl, rfl, rfl, h⟩
set_option maxRecDepth 100000 in
set_option maxHeartbeats 4000000 in
theorem mc_X3_requireLeaf {l : Launch} (hfl : l.stackTraces = false) {G : fG} {S : fMS} {n : Nat} {p0 : Option Nat} {post : Prop} {postX : String → fMS → Nat → Prop} (h : wp_X3_requireLeaf S n p0 post postX) : fCX l yX3_requireLeaf (.code yX3_requireLeaf cX3_requireLeaf 1 none) 3 G [(aR p0)] S n (fPV (fun S' n' => S = S' ∧ n = n' ∧ post)) postX := by
  refine fCX_of hfl (by decide) (by intro v hv; simp only [List.mem_cons, List.not_mem_nil, or_false] at hv; rcases hv with rfl <;> rfl) (Nat.le_of_ble_eq_true rfl) (fun F hF hxn hl hG hr hin hex hE => ?_)
  subst hl hG
  have hlv : 3 ≤ 3 := Nat.le_refl _
  show fV F S n 0 [some (aR p0)] []
  unfold wp_X3_requireLeaf at h
  refine fV_aload_n hF dX3_requireLeaf_0 rfl rfl ?_
  obtain ⟨a1, e2, hA3, h⟩ := h
  refine fV_callV (k := 3) (As := []) hF (mc_X2_isLeaf hF.2.2.2.2.2.2.2.2.1 h) fK3 e2 hA3 (by omega) fw_864 fw_861 fw_862 fw_863 fw_5 ⟨rfl, by decide, by decide, by decide +kernel⟩ (na := 0) rfl (by decide) (Nat.le_of_ble_eq_true rfl) dX3_requireLeaf_1 rfl (fun rv S9 n9 hp => ?_)
  obtain ⟨v4, rfl, rfl, rfl, h⟩ := hp
  refine fV_if_ne (tgt := 18) hF dX3_requireLeaf_4 (by decide) (fun c5 => ?_) (fun c5 => ?_)
  · have h := h.1 c5
    exact fV_vret hF hE.s (by omega) hr dX3_requireLeaf_18 ⟨rfl, rfl, rfl, h⟩
  · have h := h.2 c5
    exact fV_throwW (text := "the team has children") hF hE hex h.1 h.2 (by omega) (Nat.le_of_ble_eq_true rfl) rfl fw_799 fw_27 (by decide) vxw_257 (by decide) dX3_requireLeaf_7 dX3_requireLeaf_10 dX3_requireLeaf_11 dX3_requireLeaf_14 dX3_requireLeaf_17
set_option maxRecDepth 100000 in
set_option maxHeartbeats 4000000 in
theorem mc_X3_submit {l : Launch} (hfl : l.stackTraces = false) {G : fG} {S : fMS} {n : Nat} {o : Nat} {p1 : Int32} {p2 : Int32} {p3 : Int32} {post : Int32 → fMS → Nat → Prop} {postX : String → fMS → Nat → Prop} (h : wp_X3_submit S n o p1 p2 p3 post postX) : fCX l yX3_submit (.code yX3_submit cX3_submit 6 (some .int)) 11 G [(aR (some o)), (aI p1), (aI p2), (aI p3)] S n (fPI post) postX := by
  refine fCX_of hfl (by decide) (by intro v hv; simp only [List.mem_cons, List.not_mem_nil, or_false] at hv; rcases hv with rfl | rfl | rfl | rfl <;> rfl) (Nat.le_of_ble_eq_true rfl) (fun F hF hxn hl hG hr hin hex hE => ?_)
  subst hl hG
  have hlv : 11 ≤ 11 := Nat.le_refl _
  show fV F S n 0 [some (aR (some o)), some (aI p1), some (aI p2), some (aI p3), none, none] []
  unfold wp_X3_submit at h
  refine fV_aload_n hF dX3_submit_0 rfl rfl ?_
  refine fV_iload_n hF dX3_submit_1 rfl rfl ?_
  obtain ⟨hA1, h⟩ := h
  refine fV_callVX (k := 4) (As := [(aI p1)]) hF (mc_X3_teamAt hF.2.2.2.2.2.2.2.2.1 h) hE hex fK4 rfl hA1 (by omega) fw_744 fw_741 fw_743 fwp_26 fw_1 ⟨rfl, by decide, by decide, by decide +kernel⟩ (na := 1) rfl (by decide) (Nat.le_of_ble_eq_true rfl) dX3_submit_2 rfl (fun rv S9 n9 hp => ?_)
  obtain ⟨r2, rfl, rfl, rfl, h⟩ := hp
  refine fV_astore0 hF [some (aR (some o)), some (aI p1), some (aI p2), some (aI p3), some (aR r2), none] dX3_submit_5 (by rw [hxn]; decide) rfl rfl ?_
  refine fV_iload_n hF dX3_submit_7 rfl rfl ?_
  refine fV_iconst (v := 1) hF dX3_submit_8 (by decide) ?_
  refine fV_bipush (v := 60) hF dX3_submit_9 (by decide) ?_
  refine fV_callSX (As := [(aI p2), (aI (1 : Int32)), (aI (60 : Int32))]) hF (mc_X3_requireRange hF.2.2.2.2.2.2.2.2.1 h) hE hex (by omega) fw_750 fw_748 fw_749 fw_1 ⟨by decide, by decide, by decide +kernel⟩ (na := 3) rfl (by decide) (Nat.le_of_ble_eq_true rfl) dX3_submit_11 rfl (fun rv S9 n9 hp => ?_)
  obtain ⟨rfl, rfl, rfl, h⟩ := hp
  refine fV_iload_n hF dX3_submit_14 rfl rfl ?_
  refine fV_iconst (v := 1) hF dX3_submit_15 (by decide) ?_
  refine fV_bipush (v := 50) hF dX3_submit_16 (by decide) ?_
  refine fV_callSX (As := [(aI p3), (aI (1 : Int32)), (aI (50 : Int32))]) hF (mc_X3_requireRange hF.2.2.2.2.2.2.2.2.1 h) hE hex (by omega) fw_750 fw_748 fw_749 fw_1 ⟨by decide, by decide, by decide +kernel⟩ (na := 3) rfl (by decide) (Nat.le_of_ble_eq_true rfl) dX3_submit_18 rfl (fun rv S9 n9 hp => ?_)
  obtain ⟨rfl, rfl, rfl, h⟩ := hp
  refine fV_aload hF dX3_submit_21 rfl ?_
  refine fV_callSX (As := [(aR r2)]) hF (mc_X3_requireLeaf hF.2.2.2.2.2.2.2.2.1 h) hE hex (by omega) fw_860 fw_858 fw_859 fw_1 ⟨by decide, by decide, by decide +kernel⟩ (na := 1) rfl (by decide) (Nat.le_of_ble_eq_true rfl) dX3_submit_23 rfl (fun rv S9 n9 hp => ?_)
  obtain ⟨rfl, rfl, rfl, h⟩ := hp
  refine fV_aload_n hF dX3_submit_26 rfl rfl ?_
  refine fV_getR (k := 4) (i := 3) hF fK4 rfl hA1 (by decide) fw_195 (Or.inl rfl) rfl dX3_submit_27 ?_
  obtain ⟨a3, e4, hA5, h⟩ := h
  refine fV_callV (k := 6) (As := []) hF (mc_Jx4a65c_size_8abf5 hF.2.2.2.2.2.2.2.2.1 h) fK6 e4 hA5 (by omega) fw_233 fw_230 fw_231 fw_232 fw_4 ⟨rfl, by decide, by decide, by decide +kernel⟩ (na := 0) rfl (by decide) (Nat.le_of_ble_eq_true rfl) dX3_submit_30 rfl (fun rv S9 n9 hp => ?_)
  obtain ⟨v6, rfl, rfl, rfl, h⟩ := hp
  refine fV_bipush (v := 40) hF dX3_submit_33 (by decide) ?_
  refine fV_icmp_ge (tgt := 51) hF dX3_submit_35 (by decide) (fun c7 => ?_) (fun c7 => ?_)
  · have h := h.1 c7
    exact fV_throw (text := "too many jobs") hF hE hex h.1 h.2 (by omega) (Nat.le_of_ble_eq_true rfl) rfl fw_754 fw_20 (by decide) vxw_77 (by decide) dX3_submit_51 dX3_submit_54 dX3_submit_55 dX3_submit_57 dX3_submit_60
  · have h := h.2 c7
    refine fV_aload_n hF dX3_submit_38 rfl rfl ?_
    refine fV_getR (k := 4) (i := 2) hF fK4 rfl hA1 (by decide) fw_194 (Or.inl rfl) rfl dX3_submit_39 ?_
    obtain ⟨a8, e9, hA10, h⟩ := h
    refine fV_callV (k := 6) (As := []) hF (mc_Jx4a65c_size_8abf5 hF.2.2.2.2.2.2.2.2.1 h) fK6 e9 hA10 (by omega) fw_233 fw_230 fw_231 fw_232 fw_4 ⟨rfl, by decide, by decide, by decide +kernel⟩ (na := 0) rfl (by decide) (Nat.le_of_ble_eq_true rfl) dX3_submit_42 rfl (fun rv S9 n9 hp => ?_)
    obtain ⟨v11, rfl, rfl, rfl, h⟩ := hp
    refine fV_sipush (v := 512) hF dX3_submit_45 (by decide) ?_
    refine fV_icmp_lt (tgt := 61) hF dX3_submit_48 (by decide) (fun c12 => ?_) (fun c12 => ?_)
    · have h := h.1 c12
      obtain ⟨hn13, h⟩ := h
      refine fV_new (k := 1) hF fK1 tyX0_ok fDef1 (by omega) fw_268 fw_871 fw_28 hn13 dX3_submit_61 (fun q14 hq15 hqe16 => ?_)
      have h := h q14 hq15 hqe16
      refine fV_dup hF dX3_submit_64 rfl ?_
      refine fV_aload_n hF dX3_submit_65 rfl rfl ?_
      refine fV_getR (k := 4) (i := 2) hF fK4 rfl (isA_new (k := 1) (N := 0) hq15 hA1) (by decide) fw_194 (Or.inl rfl) rfl dX3_submit_66 ?_
      obtain ⟨a17, e18, hA19, h⟩ := h
      refine fV_callV (k := 6) (As := []) hF (mc_Jx4a65c_size_8abf5 hF.2.2.2.2.2.2.2.2.1 h) fK6 e18 hA19 (by omega) fw_233 fw_230 fw_231 fw_232 fw_4 ⟨rfl, by decide, by decide, by decide +kernel⟩ (na := 0) rfl (by decide) (Nat.le_of_ble_eq_true rfl) dX3_submit_69 rfl (fun rv S9 n9 hp => ?_)
      obtain ⟨v20, rfl, rfl, rfl, h⟩ := hp
      refine fV_aload hF dX3_submit_72 rfl ?_
      refine fV_iload_n hF dX3_submit_74 rfl rfl ?_
      refine fV_iload_n hF dX3_submit_75 rfl rfl ?_
      refine fV_callI (As := [(aI v20), (aR r2), (aI p2), (aI p3)]) hF (mc_X0_init hF.2.2.2.2.2.2.2.2.1 h) rfl (by omega) fw_874 fw_872 fw_873 fw_28 ⟨by decide, by decide, by decide +kernel⟩ (na := 4) rfl rfl (by decide) (Nat.le_of_ble_eq_true rfl) dX3_submit_76 rfl (fun rv S21 n22 hp => ?_)
      obtain ⟨rfl, h⟩ := hp
      refine fV_astore0 hF [some (aR (some o)), some (aI p1), some (aI p2), some (aI p3), some (aR r2), some (aR (some q14))] dX3_submit_79 (by rw [hxn]; decide) rfl rfl ?_
      refine fV_aload_n hF dX3_submit_81 rfl rfl ?_
      obtain ⟨hA23, h⟩ := h
      refine fV_getR (k := 4) (i := 2) hF fK4 rfl hA23 (by decide) fw_194 (Or.inl rfl) rfl dX3_submit_82 ?_
      refine fV_aload hF dX3_submit_85 rfl ?_
      obtain ⟨a24, e25, hA26, h⟩ := h
      refine fV_callV (k := 6) (As := [(aR (some q14))]) hF (mc_Jx4a65c_add_9ea2d hF.2.2.2.2.2.2.2.2.1 h) fK6 e25 hA26 (by omega) fw_133 fw_130 fw_131 fw_132 fw_4 ⟨rfl, by decide, by decide, by decide +kernel⟩ (na := 1) rfl (by decide) (Nat.le_of_ble_eq_true rfl) dX3_submit_87 rfl (fun rv S28 n29 hp => ?_)
      obtain ⟨v27, rfl, h⟩ := hp
      refine fV_pop hF dX3_submit_90 rfl ?_
      refine fV_aload_n hF dX3_submit_91 rfl rfl ?_
      obtain ⟨hA30, h⟩ := h
      refine fV_getR (k := 4) (i := 3) hF fK4 rfl hA30 (by decide) fw_195 (Or.inl rfl) rfl dX3_submit_92 ?_
      refine fV_aload hF dX3_submit_95 rfl ?_
      obtain ⟨a31, e32, hA33, h⟩ := h
      refine fV_callV (k := 6) (As := [(aR (some q14))]) hF (mc_Jx4a65c_add_9ea2d hF.2.2.2.2.2.2.2.2.1 h) fK6 e32 hA33 (by omega) fw_133 fw_130 fw_131 fw_132 fw_4 ⟨rfl, by decide, by decide, by decide +kernel⟩ (na := 1) rfl (by decide) (Nat.le_of_ble_eq_true rfl) dX3_submit_97 rfl (fun rv S35 n36 hp => ?_)
      obtain ⟨v34, rfl, h⟩ := hp
      refine fV_pop hF dX3_submit_100 rfl ?_
      refine fV_aload hF dX3_submit_101 rfl ?_
      refine fV_iconst (v := 1) hF dX3_submit_103 (by decide) ?_
      obtain ⟨a37, e38, hA39, h⟩ := h
      refine fV_putI (k := 3) (i := 5) hF fK3 tyX2_ok nmX2 e38 hA39 (by decide) rfl fw_85 (Or.inl rfl) (Or.inl rfl) (by decide) (by decide) dX3_submit_104 ?_
      refine fV_aload_n hF dX3_submit_107 rfl rfl ?_
      obtain ⟨hA40, h⟩ := h
      refine fV_callV (k := 4) (As := []) hF (mc_X3_serve hF.2.2.2.2.2.2.2.2.1 h) fK4 rfl hA40 (by omega) fw_773 fw_770 fw_772 fwp_27 fw_1 ⟨rfl, by decide, by decide, by decide +kernel⟩ (na := 0) rfl (by decide) (Nat.le_of_ble_eq_true rfl) dX3_submit_108 rfl (fun rv S41 n42 hp => ?_)
      obtain ⟨rfl, h⟩ := hp
      refine fV_aload hF dX3_submit_111 rfl ?_
      obtain ⟨hA43, h⟩ := h
      refine fV_getI (k := 1) (i := 0) hF fK1 rfl hA43 (by decide) fw_877 (Or.inl rfl) rfl dX3_submit_113 ?_
      exact fV_iret hF hE.s (by omega) hr rfl dX3_submit_116 ⟨_, rfl, h⟩
    · have h := h.2 c12
      exact fV_throw (text := "too many jobs") hF hE hex h.1 h.2 (by omega) (Nat.le_of_ble_eq_true rfl) rfl fw_754 fw_20 (by decide) vxw_77 (by decide) dX3_submit_51 dX3_submit_54 dX3_submit_55 dX3_submit_57 dX3_submit_60
set_option maxRecDepth 100000 in
set_option maxHeartbeats 4000000 in
theorem mc_X3_jobAt {l : Launch} (hfl : l.stackTraces = false) {G : fG} {S : fMS} {n : Nat} {o : Nat} {p1 : Int32} {post : Option Nat → Prop} {postX : String → fMS → Nat → Prop} (h : wp_X3_jobAt S n o p1 post postX) : fCX l yX3_jobAt (.code yX3_jobAt cX3_jobAt 2 (some (.object "FairquotaBroker$Job"))) 4 G [(aR (some o)), (aI p1)] S n (fPR (fun x S' n' => S = S' ∧ n = n' ∧ post x)) postX := by
  refine fCX_of hfl (by decide) (by intro v hv; simp only [List.mem_cons, List.not_mem_nil, or_false] at hv; rcases hv with rfl | rfl <;> rfl) (Nat.le_of_ble_eq_true rfl) (fun F hF hxn hl hG hr hin hex hE => ?_)
  subst hl hG
  have hlv : 4 ≤ 4 := Nat.le_refl _
  show fV F S n 0 [some (aR (some o)), some (aI p1)] []
  unfold wp_X3_jobAt at h
  refine fV_iload_n hF dX3_jobAt_0 rfl rfl ?_
  refine fV_if_lt (tgt := 15) hF dX3_jobAt_1 (by decide) (fun c1 => ?_) (fun c1 => ?_)
  · have h := h.1 c1
    exact fV_throwNW (text := "no such job") hF hE hex h.1 h.2 (by omega) (Nat.le_of_ble_eq_true rfl) rfl (by decide) dX3_jobAt_15 dX3_jobAt_18 dX3_jobAt_19 dX3_jobAt_22 dX3_jobAt_25
  · have h := h.2 c1
    refine fV_iload_n hF dX3_jobAt_4 rfl rfl ?_
    refine fV_aload_n hF dX3_jobAt_5 rfl rfl ?_
    obtain ⟨hA2, h⟩ := h
    refine fV_getR (k := 4) (i := 2) hF fK4 rfl hA2 (by decide) fw_194 (Or.inl rfl) rfl dX3_jobAt_6 ?_
    obtain ⟨a3, e4, hA5, h⟩ := h
    refine fV_callV (k := 6) (As := []) hF (mc_Jx4a65c_size_8abf5 hF.2.2.2.2.2.2.2.2.1 h) fK6 e4 hA5 (by omega) fw_233 fw_230 fw_231 fw_232 fw_4 ⟨rfl, by decide, by decide, by decide +kernel⟩ (na := 0) rfl (by decide) (Nat.le_of_ble_eq_true rfl) dX3_jobAt_9 rfl (fun rv S9 n9 hp => ?_)
    obtain ⟨v6, rfl, rfl, rfl, h⟩ := hp
    refine fV_icmp_lt (tgt := 26) hF dX3_jobAt_12 (by decide) (fun c7 => ?_) (fun c7 => ?_)
    · have h := h.1 c7
      refine fV_aload_n hF dX3_jobAt_26 rfl rfl ?_
      refine fV_getR (k := 4) (i := 2) hF fK4 rfl hA2 (by decide) fw_194 (Or.inl rfl) rfl dX3_jobAt_27 ?_
      refine fV_iload_n hF dX3_jobAt_30 rfl rfl ?_
      refine fV_callV (k := 6) (As := [(aI p1)]) hF (mc_Jx4a65c_get_915e3 hF.2.2.2.2.2.2.2.2.1 h) fK6 e4 hA5 (by omega) fw_257 fw_254 fw_255 fw_256 fw_4 ⟨rfl, by decide, by decide, by decide +kernel⟩ (na := 1) rfl (by decide) (Nat.le_of_ble_eq_true rfl) dX3_jobAt_31 rfl (fun rv S9 n9 hp => ?_)
      obtain ⟨r8, rfl, rfl, rfl, h⟩ := hp
      obtain ⟨a9, e10, hA11, h⟩ := h
      refine fV_castK (k := 1) hF fK1 e10 hA11 fw_268 dX3_jobAt_34 ?_
      exact fV_aret hF hE.s (by omega) hr (Or.inl ⟨_, rfl⟩) dX3_jobAt_37 ⟨_, rfl, rfl, rfl, h⟩
    · have h := h.2 c7
      exact fV_throwNW (text := "no such job") hF hE hex h.1 h.2 (by omega) (Nat.le_of_ble_eq_true rfl) rfl (by decide) dX3_jobAt_15 dX3_jobAt_18 dX3_jobAt_19 dX3_jobAt_22 dX3_jobAt_25
set_option maxRecDepth 100000 in
set_option maxHeartbeats 4000000 in
theorem mc_X3_aliveJobAt {l : Launch} (hfl : l.stackTraces = false) {G : fG} {S : fMS} {n : Nat} {o : Nat} {p1 : Int32} {post : Option Nat → Prop} {postX : String → fMS → Nat → Prop} (h : wp_X3_aliveJobAt S n o p1 post postX) : fCX l yX3_aliveJobAt (.code yX3_aliveJobAt cX3_aliveJobAt 3 (some (.object "FairquotaBroker$Job"))) 5 G [(aR (some o)), (aI p1)] S n (fPR (fun x S' n' => S = S' ∧ n = n' ∧ post x)) postX := by
  refine fCX_of hfl (by decide) (by intro v hv; simp only [List.mem_cons, List.not_mem_nil, or_false] at hv; rcases hv with rfl | rfl <;> rfl) (Nat.le_of_ble_eq_true rfl) (fun F hF hxn hl hG hr hin hex hE => ?_)
  subst hl hG
  have hlv : 5 ≤ 5 := Nat.le_refl _
  show fV F S n 0 [some (aR (some o)), some (aI p1), none] []
  unfold wp_X3_aliveJobAt at h
  refine fV_aload_n hF dX3_aliveJobAt_0 rfl rfl ?_
  refine fV_iload_n hF dX3_aliveJobAt_1 rfl rfl ?_
  obtain ⟨hA1, h⟩ := h
  refine fV_callVX (k := 4) (As := [(aI p1)]) hF (mc_X3_jobAt hF.2.2.2.2.2.2.2.2.1 h) hE hex fK4 rfl hA1 (by omega) fw_924 fw_921 fw_923 fwp_33 fw_1 ⟨rfl, by decide, by decide, by decide +kernel⟩ (na := 1) rfl (by decide) (Nat.le_of_ble_eq_true rfl) dX3_aliveJobAt_2 rfl (fun rv S9 n9 hp => ?_)
  obtain ⟨r2, rfl, rfl, rfl, h⟩ := hp
  refine fV_astore_n0 hF [some (aR (some o)), some (aI p1), some (aR r2)] dX3_aliveJobAt_5 rfl (by rw [hxn]; decide) rfl rfl ?_
  refine fV_aload_n hF dX3_aliveJobAt_6 rfl rfl ?_
  obtain ⟨a3, e4, hA5, h⟩ := h
  refine fV_callV (k := 1) (As := []) hF (mc_X0_isAlive hF.2.2.2.2.2.2.2.2.1 h) fK1 e4 hA5 (by omega) fw_944 fw_941 fw_942 fw_943 fw_28 ⟨rfl, by decide, by decide, by decide +kernel⟩ (na := 0) rfl (by decide) (Nat.le_of_ble_eq_true rfl) dX3_aliveJobAt_7 rfl (fun rv S9 n9 hp => ?_)
  obtain ⟨v6, rfl, rfl, rfl, h⟩ := hp
  refine fV_if_ne (tgt := 24) hF dX3_aliveJobAt_10 (by decide) (fun c7 => ?_) (fun c7 => ?_)
  · have h := h.1 c7
    refine fV_aload_n hF dX3_aliveJobAt_24 rfl rfl ?_
    exact fV_aret hF hE.s (by omega) hr (Or.inl ⟨_, rfl⟩) dX3_aliveJobAt_25 ⟨_, rfl, rfl, rfl, h⟩
  · have h := h.2 c7
    exact fV_throwW (text := "the job neither waits nor runs") hF hE hex h.1 h.2 (by omega) (Nat.le_of_ble_eq_true rfl) rfl fw_754 fw_20 (by decide) vxw_77 (by decide) dX3_aliveJobAt_13 dX3_aliveJobAt_16 dX3_aliveJobAt_17 dX3_aliveJobAt_20 dX3_aliveJobAt_23
set_option maxRecDepth 100000 in
set_option maxHeartbeats 4000000 in
theorem mB_X3_forgetDeadJobs_10 {F : fX} {lv : Nat} (hlv : 4 ≤ lv) (hF : fOk F cX3_forgetDeadJobs RX3 lv) (hxn : xn F = 2) (hr : (xM F).sig.returnType = none) {post : fMS → Nat → Prop} {o : Nat} (hE : fEnd F lv (fPV post)) : ∀ (f : Nat) (S : fMS) (n : Nat) (x1 : Int32) (h : wB_X3_forgetDeadJobs_10 post o f S n x1), fV F S n 10 [some (aR (some o)), some (aI x1)] [] := by
  intro f
  induction f with
  | zero => intro _ _ _ h; exact h.elim
  | succ f ih =>
    intro S n x1 h
    simp only [wB_X3_forgetDeadJobs_10] at h
    refine fV_iload_n hF dX3_forgetDeadJobs_10 rfl rfl ?_
    refine fV_if_lt (tgt := 46) hF dX3_forgetDeadJobs_11 (by decide) (fun c1 => ?_) (fun c1 => ?_)
    · have h := h.1 c1
      exact fV_vret hF hE.s (by omega) hr dX3_forgetDeadJobs_46 ⟨rfl, h⟩
    · have h := h.2 c1
      refine fV_aload_n hF dX3_forgetDeadJobs_14 rfl rfl ?_
      obtain ⟨hA2, h⟩ := h
      refine fV_getR (k := 4) (i := 3) hF fK4 rfl hA2 (by decide) fw_195 (Or.inl rfl) rfl dX3_forgetDeadJobs_15 ?_
      refine fV_iload_n hF dX3_forgetDeadJobs_18 rfl rfl ?_
      obtain ⟨a3, e4, hA5, h⟩ := h
      refine fV_callV (k := 6) (As := [(aI x1)]) hF (mc_Jx4a65c_get_915e3 hF.2.2.2.2.2.2.2.2.1 h) fK6 e4 hA5 (by omega) fw_257 fw_254 fw_255 fw_256 fw_4 ⟨rfl, by decide, by decide, by decide +kernel⟩ (na := 1) rfl (by decide) (Nat.le_of_ble_eq_true rfl) dX3_forgetDeadJobs_19 rfl (fun rv S9 n9 hp => ?_)
      obtain ⟨r6, rfl, rfl, rfl, h⟩ := hp
      obtain ⟨a7, e8, hA9, h⟩ := h
      refine fV_castK (k := 1) hF fK1 e8 hA9 fw_268 dX3_forgetDeadJobs_22 ?_
      refine fV_callV (k := 1) (As := []) hF (mc_X0_isAlive hF.2.2.2.2.2.2.2.2.1 h) fK1 e8 hA9 (by omega) fw_944 fw_941 fw_942 fw_943 fw_28 ⟨rfl, by decide, by decide, by decide +kernel⟩ (na := 0) rfl (by decide) (Nat.le_of_ble_eq_true rfl) dX3_forgetDeadJobs_25 rfl (fun rv S9 n9 hp => ?_)
      obtain ⟨v10, rfl, rfl, rfl, h⟩ := hp
      refine fV_if_ne (tgt := 40) hF dX3_forgetDeadJobs_28 (by decide) (fun c11 => ?_) (fun c11 => ?_)
      · have h := h.1 c11
        refine fV_iinc (v := -1) hF (fun y => [some (aR (some o)), some (aI y)]) dX3_forgetDeadJobs_40 rfl (by decide) (by rw [hxn]; decide) rfl (fun _ => rfl) (fun v12 ev12 => ?_)
        have h := h v12 ev12
        refine fV_goto (tgt := 10) hF dX3_forgetDeadJobs_43 (by decide) ?_
        refine fV.sub (l' := [some (aR (some o)), some (aI v12)]) ⟨rfl, ⟨rfl, trivial⟩⟩ ?_
        exact ih S n v12 h
      · have h := h.2 c11
        refine fV_aload_n hF dX3_forgetDeadJobs_31 rfl rfl ?_
        refine fV_getR (k := 4) (i := 3) hF fK4 rfl hA2 (by decide) fw_195 (Or.inl rfl) rfl dX3_forgetDeadJobs_32 ?_
        refine fV_iload_n hF dX3_forgetDeadJobs_35 rfl rfl ?_
        refine fV_callV (k := 6) (As := [(aI x1)]) hF (mc_Jx4a65c_remove_915e3 hF.2.2.2.2.2.2.2.2.1 h) fK6 e4 hA5 (by omega) fw_953 fw_950 fw_951 fw_952 fw_4 ⟨rfl, by decide, by decide, by decide +kernel⟩ (na := 1) rfl (by decide) (Nat.le_of_ble_eq_true rfl) dX3_forgetDeadJobs_36 rfl (fun rv S14 n15 hp => ?_)
        obtain ⟨r13, rfl, h⟩ := hp
        refine fV_pop hF dX3_forgetDeadJobs_39 rfl ?_
        refine fV_iinc (v := -1) hF (fun y => [some (aR (some o)), some (aI y)]) dX3_forgetDeadJobs_40 rfl (by decide) (by rw [hxn]; decide) rfl (fun _ => rfl) (fun v16 ev16 => ?_)
        have h := h v16 ev16
        refine fV_goto (tgt := 10) hF dX3_forgetDeadJobs_43 (by decide) ?_
        refine fV.sub (l' := [some (aR (some o)), some (aI v16)]) ⟨rfl, ⟨rfl, trivial⟩⟩ ?_
        exact ih S14 n15 v16 h
set_option maxRecDepth 100000 in
set_option maxHeartbeats 4000000 in
theorem mc_X3_forgetDeadJobs {l : Launch} (hfl : l.stackTraces = false) {G : fG} {S : fMS} {n : Nat} {o : Nat} {post : fMS → Nat → Prop} (h : wp_X3_forgetDeadJobs S n o post) : fCM l yX3_forgetDeadJobs (.code yX3_forgetDeadJobs cX3_forgetDeadJobs 2 none) 4 G [(aR (some o))] S n (fPV post) := by
  refine fCM_of hfl (by decide) (by intro v hv; simp only [List.mem_cons, List.not_mem_nil, or_false] at hv; rcases hv with rfl <;> rfl) (Nat.le_of_ble_eq_true rfl) (fun F hF hxn hl hG hr hin hE => ?_)
  subst hl hG
  have hlv : 4 ≤ 4 := Nat.le_refl _
  show fV F S n 0 [some (aR (some o)), none] []
  unfold wp_X3_forgetDeadJobs at h
  refine fV_aload_n hF dX3_forgetDeadJobs_0 rfl rfl ?_
  obtain ⟨hA1, h⟩ := h
  refine fV_getR (k := 4) (i := 3) hF fK4 rfl hA1 (by decide) fw_195 (Or.inl rfl) rfl dX3_forgetDeadJobs_1 ?_
  obtain ⟨a2, e3, hA4, h⟩ := h
  refine fV_callV (k := 6) (As := []) hF (mc_Jx4a65c_size_8abf5 hF.2.2.2.2.2.2.2.2.1 h) fK6 e3 hA4 (by omega) fw_233 fw_230 fw_231 fw_232 fw_4 ⟨rfl, by decide, by decide, by decide +kernel⟩ (na := 0) rfl (by decide) (Nat.le_of_ble_eq_true rfl) dX3_forgetDeadJobs_4 rfl (fun rv S9 n9 hp => ?_)
  obtain ⟨v5, rfl, rfl, rfl, h⟩ := hp
  refine fV_iconst (v := 1) hF dX3_forgetDeadJobs_7 (by decide) ?_
  refine fV_isub hF dX3_forgetDeadJobs_8 ?_
  refine fV_istore_n hF (fun y => [some (aR (some o)), some (aI y)]) dX3_forgetDeadJobs_9 rfl (by rw [hxn]; decide) rfl (fun _ => rfl) (fun v6 ev6 => ?_)
  have h := h v6 ev6
  obtain ⟨f1, h⟩ := h
  refine fV.sub (l' := [some (aR (some o)), some (aI v6)]) ⟨rfl, ⟨rfl, trivial⟩⟩ ?_
  exact mB_X3_forgetDeadJobs_10 hlv hF hxn hr hE  f1 S n v6 h
set_option maxRecDepth 100000 in
set_option maxHeartbeats 4000000 in
theorem mB_X3_cancel_26 {F : fX} {lv : Nat} (hlv : 11 ≤ lv) (hF : fOk F cX3_cancel RX3 lv) (hxn : xn F = 4) (hr : (xM F).sig.returnType = (some .int)) (hex : ∀ x ∈ (xc F).exceptionTable.toList, False) {post : Int32 → fMS → Nat → Prop} {postX : String → fMS → Nat → Prop} {o : Nat} {p1 : Int32} (hE : fEndX F lv (fPI post) postX) (S : fMS) (n : Nat) (x2 : Option Nat) (x3 : Int32) (h : wB_X3_cancel_26 post postX o p1 S n x2 x3) : fV F S n 26 [some (aR (some o)), some (aI p1), some (aR x2), some (aI x3)] [] := by
  unfold wB_X3_cancel_26 at h
  refine fV_aload_n hF dX3_cancel_26 rfl rfl ?_
  refine fV_bipush (v := 99) hF dX3_cancel_27 (by decide) ?_
  obtain ⟨a1, e2, hA3, h⟩ := h
  refine fV_putI (k := 1) (i := 4) hF fK1 tyX0_ok nmX0 e2 hA3 (by decide) rfl fw_885 (Or.inl rfl) (Or.inl rfl) (by decide) (by decide) dX3_cancel_29 ?_
  refine fV_aload_n hF dX3_cancel_32 rfl rfl ?_
  obtain ⟨hA4, h⟩ := h
  refine fV_callV (k := 4) (As := []) hF (mc_X3_forgetDeadJobs hF.2.2.2.2.2.2.2.2.1 h) fK4 rfl hA4 (by omega) fw_949 fw_946 fw_948 fwp_34 fw_1 ⟨rfl, by decide, by decide, by decide +kernel⟩ (na := 0) rfl (by decide) (Nat.le_of_ble_eq_true rfl) dX3_cancel_33 rfl (fun rv S5 n6 hp => ?_)
  obtain ⟨rfl, h⟩ := hp
  refine fV_aload_n hF dX3_cancel_36 rfl rfl ?_
  obtain ⟨hA7, h⟩ := h
  refine fV_callV (k := 4) (As := []) hF (mc_X3_serve hF.2.2.2.2.2.2.2.2.1 h) fK4 rfl hA7 (by omega) fw_773 fw_770 fw_772 fwp_27 fw_1 ⟨rfl, by decide, by decide, by decide +kernel⟩ (na := 0) rfl (by decide) (Nat.le_of_ble_eq_true rfl) dX3_cancel_37 rfl (fun rv S8 n9 hp => ?_)
  obtain ⟨rfl, h⟩ := hp
  refine fV_iload_n hF dX3_cancel_40 rfl rfl ?_
  exact fV_iret hF hE.s (by omega) hr rfl dX3_cancel_41 ⟨_, rfl, h⟩
set_option maxRecDepth 100000 in
set_option maxHeartbeats 4000000 in
theorem mc_X3_cancel {l : Launch} (hfl : l.stackTraces = false) {G : fG} {S : fMS} {n : Nat} {o : Nat} {p1 : Int32} {post : Int32 → fMS → Nat → Prop} {postX : String → fMS → Nat → Prop} (h : wp_X3_cancel S n o p1 post postX) : fCX l yX3_cancel (.code yX3_cancel cX3_cancel 4 (some .int)) 11 G [(aR (some o)), (aI p1)] S n (fPI post) postX := by
  refine fCX_of hfl (by decide) (by intro v hv; simp only [List.mem_cons, List.not_mem_nil, or_false] at hv; rcases hv with rfl | rfl <;> rfl) (Nat.le_of_ble_eq_true rfl) (fun F hF hxn hl hG hr hin hex hE => ?_)
  subst hl hG
  have hlv : 11 ≤ 11 := Nat.le_refl _
  show fV F S n 0 [some (aR (some o)), some (aI p1), none, none] []
  unfold wp_X3_cancel at h
  refine fV_aload_n hF dX3_cancel_0 rfl rfl ?_
  refine fV_iload_n hF dX3_cancel_1 rfl rfl ?_
  obtain ⟨hA1, h⟩ := h
  refine fV_callVX (k := 4) (As := [(aI p1)]) hF (mc_X3_aliveJobAt hF.2.2.2.2.2.2.2.2.1 h) hE hex fK4 rfl hA1 (by omega) fw_920 fw_917 fw_919 fwp_32 fw_1 ⟨rfl, by decide, by decide, by decide +kernel⟩ (na := 1) rfl (by decide) (Nat.le_of_ble_eq_true rfl) dX3_cancel_2 rfl (fun rv S9 n9 hp => ?_)
  obtain ⟨r2, rfl, rfl, rfl, h⟩ := hp
  refine fV_astore_n0 hF [some (aR (some o)), some (aI p1), some (aR r2), none] dX3_cancel_5 rfl (by rw [hxn]; decide) rfl rfl ?_
  refine fV_iconst (v := 0) hF dX3_cancel_6 (by decide) ?_
  refine fV_istore_n0 hF [some (aR (some o)), some (aI p1), some (aR r2), some (aI (0 : Int32))] dX3_cancel_7 rfl (by rw [hxn]; decide) rfl rfl ?_
  refine fV_aload_n hF dX3_cancel_8 rfl rfl ?_
  obtain ⟨a3, e4, hA5, h⟩ := h
  refine fV_getI (k := 1) (i := 4) hF fK1 e4 hA5 (by decide) fw_885 (Or.inl rfl) rfl dX3_cancel_9 ?_
  refine fV_bipush (v := 114) hF dX3_cancel_12 (by decide) ?_
  refine fV_icmp_ne (tgt := 26) hF dX3_cancel_14 (by decide) (fun c6 => ?_) (fun c6 => ?_)
  · have h := h.1 c6
    refine fV.sub (l' := [some (aR (some o)), some (aI p1), some (aR r2), some (aI (0 : Int32))]) ⟨rfl, ⟨rfl, ⟨rfl, ⟨rfl, trivial⟩⟩⟩⟩ ?_
    exact mB_X3_cancel_26 hlv hF hxn hr hex hE  S n r2 (0 : Int32) h
  · have h := h.2 c6
    refine fV_aload_n hF dX3_cancel_17 rfl rfl ?_
    refine fV_getI (k := 1) (i := 2) hF fK1 e4 hA5 (by decide) fw_881 (Or.inl rfl) rfl dX3_cancel_18 ?_
    refine fV_istore_n hF (fun y => [some (aR (some o)), some (aI p1), some (aR r2), some (aI y)]) dX3_cancel_21 rfl (by rw [hxn]; decide) rfl (fun _ => rfl) (fun v7 ev7 => ?_)
    have h := h v7 ev7
    refine fV_aload_n hF dX3_cancel_22 rfl rfl ?_
    refine fV_callV (k := 1) (As := []) hF (mc_X0_giveUnitsBack hF.2.2.2.2.2.2.2.2.1 h) fK1 e4 hA5 (by omega) fw_707 fw_704 fw_705 fw_706 fw_28 ⟨rfl, by decide, by decide, by decide +kernel⟩ (na := 0) rfl (by decide) (Nat.le_of_ble_eq_true rfl) dX3_cancel_23 rfl (fun rv S8 n9 hp => ?_)
    obtain ⟨rfl, h⟩ := hp
    refine fV.sub (l' := [some (aR (some o)), some (aI p1), some (aR r2), some (aI v7)]) ⟨rfl, ⟨rfl, ⟨rfl, ⟨rfl, trivial⟩⟩⟩⟩ ?_
    exact mB_X3_cancel_26 hlv hF hxn hr hex hE  S8 n9 r2 v7 h
set_option maxRecDepth 100000 in
set_option maxHeartbeats 4000000 in
theorem mB_X3_endJobs_4 {F : fX} {lv : Nat} (hlv : 5 ≤ lv) (hF : fOk F cX3_endJobs RX3 lv) (hxn : xn F = 4) (hr : (xM F).sig.returnType = (some .int)) {post : Int32 → fMS → Nat → Prop} {o : Nat} (hE : fEnd F lv (fPI post)) : ∀ (f : Nat) (S : fMS) (n : Nat) (x1 : Int32) (x2 : Int32) (h : wB_X3_endJobs_4 post o f S n x1 x2), fV F S n 4 [some (aR (some o)), some (aI x1), some (aI x2), none] [] := by
  intro f
  induction f with
  | zero => intro _ _ _ _ h; exact h.elim
  | succ f ih =>
    intro S n x1 x2 h
    simp only [wB_X3_endJobs_4] at h
    refine fV_iload_n hF dX3_endJobs_4 rfl rfl ?_
    refine fV_aload_n hF dX3_endJobs_5 rfl rfl ?_
    obtain ⟨hA1, h⟩ := h
    refine fV_getR (k := 4) (i := 3) hF fK4 rfl hA1 (by decide) fw_195 (Or.inl rfl) rfl dX3_endJobs_6 ?_
    obtain ⟨a2, e3, hA4, h⟩ := h
    refine fV_callV (k := 6) (As := []) hF (mc_Jx4a65c_size_8abf5 hF.2.2.2.2.2.2.2.2.1 h) fK6 e3 hA4 (by omega) fw_233 fw_230 fw_231 fw_232 fw_4 ⟨rfl, by decide, by decide, by decide +kernel⟩ (na := 0) rfl (by decide) (Nat.le_of_ble_eq_true rfl) dX3_endJobs_9 rfl (fun rv S9 n9 hp => ?_)
    obtain ⟨v5, rfl, rfl, rfl, h⟩ := hp
    refine fV_icmp_ge (tgt := 72) hF dX3_endJobs_12 (by decide) (fun c6 => ?_) (fun c6 => ?_)
    · have h := h.1 c6
      refine fV_aload_n hF dX3_endJobs_72 rfl rfl ?_
      refine fV_callV (k := 4) (As := []) hF (mc_X3_forgetDeadJobs hF.2.2.2.2.2.2.2.2.1 h) fK4 rfl hA1 (by omega) fw_949 fw_946 fw_948 fwp_34 fw_1 ⟨rfl, by decide, by decide, by decide +kernel⟩ (na := 0) rfl (by decide) (Nat.le_of_ble_eq_true rfl) dX3_endJobs_73 rfl (fun rv S7 n8 hp => ?_)
      obtain ⟨rfl, h⟩ := hp
      refine fV_iload_n hF dX3_endJobs_76 rfl rfl ?_
      exact fV_iret hF hE.s (by omega) hr rfl dX3_endJobs_77 ⟨_, rfl, h⟩
    · have h := h.2 c6
      refine fV_aload_n hF dX3_endJobs_15 rfl rfl ?_
      refine fV_getR (k := 4) (i := 3) hF fK4 rfl hA1 (by decide) fw_195 (Or.inl rfl) rfl dX3_endJobs_16 ?_
      refine fV_iload_n hF dX3_endJobs_19 rfl rfl ?_
      refine fV_callV (k := 6) (As := [(aI x2)]) hF (mc_Jx4a65c_get_915e3 hF.2.2.2.2.2.2.2.2.1 h) fK6 e3 hA4 (by omega) fw_257 fw_254 fw_255 fw_256 fw_4 ⟨rfl, by decide, by decide, by decide +kernel⟩ (na := 1) rfl (by decide) (Nat.le_of_ble_eq_true rfl) dX3_endJobs_20 rfl (fun rv S9 n9 hp => ?_)
      obtain ⟨r9, rfl, rfl, rfl, h⟩ := hp
      obtain ⟨a10, e11, hA12, h⟩ := h
      refine fV_castK (k := 1) hF fK1 e11 hA12 fw_268 dX3_endJobs_23 ?_
      refine fV_astore_n0 hF [some (aR (some o)), some (aI x1), some (aI x2), some (aR r9)] dX3_endJobs_26 rfl (by rw [hxn]; decide) rfl rfl ?_
      refine fV_aload_n hF dX3_endJobs_27 rfl rfl ?_
      refine fV_getI (k := 1) (i := 4) hF fK1 e11 hA12 (by decide) fw_885 (Or.inl rfl) rfl dX3_endJobs_28 ?_
      refine fV_bipush (v := 114) hF dX3_endJobs_31 (by decide) ?_
      refine fV_icmp_ne (tgt := 66) hF dX3_endJobs_33 (by decide) (fun c13 => ?_) (fun c13 => ?_)
      · have h := h.1 c13
        refine fV_iinc (v := 1) hF (fun y => [some (aR (some o)), some (aI x1), some (aI y), some (aR r9)]) dX3_endJobs_66 rfl (by decide) (by rw [hxn]; decide) rfl (fun _ => rfl) (fun v14 ev14 => ?_)
        have h := h v14 ev14
        refine fV_goto (tgt := 4) hF dX3_endJobs_69 (by decide) ?_
        refine fV.sub (l' := [some (aR (some o)), some (aI x1), some (aI v14), none]) ⟨rfl, ⟨rfl, ⟨rfl, trivial⟩⟩⟩ ?_
        exact ih S n x1 v14 h
      · have h := h.2 c13
        refine fV_aload_n hF dX3_endJobs_36 rfl rfl ?_
        refine fV_dup hF dX3_endJobs_37 rfl ?_
        refine fV_getI (k := 1) (i := 5) hF fK1 e11 hA12 (by decide) fw_887 (Or.inl rfl) rfl dX3_endJobs_38 ?_
        refine fV_iconst (v := 1) hF dX3_endJobs_41 (by decide) ?_
        refine fV_isub hF dX3_endJobs_42 ?_
        refine fV_putI (k := 1) (i := 5) hF fK1 tyX0_ok nmX0 e11 hA12 (by decide) rfl fw_887 (Or.inl rfl) (Or.inl rfl) rfl rfl dX3_endJobs_43 ?_
        refine fV_aload_n hF dX3_endJobs_46 rfl rfl ?_
        refine fV_getI (k := 1) (i := 5) hF fK1 e11 hA12 (by decide) fw_887 (Or.inl rfl) rfl dX3_endJobs_47 ?_
        refine fV_if_gt (tgt := 66) hF dX3_endJobs_50 (by decide) (fun c15 => ?_) (fun c15 => ?_)
        · have h := h.1 c15
          refine fV_iinc (v := 1) hF (fun y => [some (aR (some o)), some (aI x1), some (aI y), some (aR r9)]) dX3_endJobs_66 rfl (by decide) (by rw [hxn]; decide) rfl (fun _ => rfl) (fun v16 ev16 => ?_)
          have h := h v16 ev16
          refine fV_goto (tgt := 4) hF dX3_endJobs_69 (by decide) ?_
          refine fV.sub (l' := [some (aR (some o)), some (aI x1), some (aI v16), none]) ⟨rfl, ⟨rfl, ⟨rfl, trivial⟩⟩⟩ ?_
          exact ih (wI S a10 5 ((sI S a10 5) - (1 : Int32))) n x1 v16 h
        · have h := h.2 c15
          refine fV_aload_n hF dX3_endJobs_53 rfl rfl ?_
          refine fV_callV (k := 1) (As := []) hF (mc_X0_giveUnitsBack hF.2.2.2.2.2.2.2.2.1 h) fK1 e11 hA12 (by omega) fw_707 fw_704 fw_705 fw_706 fw_28 ⟨rfl, by decide, by decide, by decide +kernel⟩ (na := 0) rfl (by decide) (Nat.le_of_ble_eq_true rfl) dX3_endJobs_54 rfl (fun rv S17 n18 hp => ?_)
          obtain ⟨rfl, h⟩ := hp
          refine fV_aload_n hF dX3_endJobs_57 rfl rfl ?_
          refine fV_bipush (v := 101) hF dX3_endJobs_58 (by decide) ?_
          obtain ⟨hA19, h⟩ := h
          refine fV_putI (k := 1) (i := 4) hF fK1 tyX0_ok nmX0 e11 hA19 (by decide) rfl fw_885 (Or.inl rfl) (Or.inl rfl) (by decide) (by decide) dX3_endJobs_60 ?_
          refine fV_iinc (v := 1) hF (fun y => [some (aR (some o)), some (aI y), some (aI x2), some (aR r9)]) dX3_endJobs_63 rfl (by decide) (by rw [hxn]; decide) rfl (fun _ => rfl) (fun v20 ev20 => ?_)
          have h := h v20 ev20
          refine fV_iinc (v := 1) hF (fun y => [some (aR (some o)), some (aI v20), some (aI y), some (aR r9)]) dX3_endJobs_66 rfl (by decide) (by rw [hxn]; decide) rfl (fun _ => rfl) (fun v21 ev21 => ?_)
          have h := h v21 ev21
          refine fV_goto (tgt := 4) hF dX3_endJobs_69 (by decide) ?_
          refine fV.sub (l' := [some (aR (some o)), some (aI v20), some (aI v21), none]) ⟨rfl, ⟨rfl, ⟨rfl, trivial⟩⟩⟩ ?_
          exact ih (wI S17 a10 4 (101 : Int32)) n18 v20 v21 h
set_option maxRecDepth 100000 in
set_option maxHeartbeats 4000000 in
theorem mc_X3_endJobs {l : Launch} (hfl : l.stackTraces = false) {G : fG} {S : fMS} {n : Nat} {o : Nat} {post : Int32 → fMS → Nat → Prop} (h : wp_X3_endJobs S n o post) : fCM l yX3_endJobs (.code yX3_endJobs cX3_endJobs 4 (some .int)) 5 G [(aR (some o))] S n (fPI post) := by
  refine fCM_of hfl (by decide) (by intro v hv; simp only [List.mem_cons, List.not_mem_nil, or_false] at hv; rcases hv with rfl <;> rfl) (Nat.le_of_ble_eq_true rfl) (fun F hF hxn hl hG hr hin hE => ?_)
  subst hl hG
  have hlv : 5 ≤ 5 := Nat.le_refl _
  show fV F S n 0 [some (aR (some o)), none, none, none] []
  unfold wp_X3_endJobs at h
  refine fV_iconst (v := 0) hF dX3_endJobs_0 (by decide) ?_
  refine fV_istore_n0 hF [some (aR (some o)), some (aI (0 : Int32)), none, none] dX3_endJobs_1 rfl (by rw [hxn]; decide) rfl rfl ?_
  refine fV_iconst (v := 0) hF dX3_endJobs_2 (by decide) ?_
  refine fV_istore_n0 hF [some (aR (some o)), some (aI (0 : Int32)), some (aI (0 : Int32)), none] dX3_endJobs_3 rfl (by rw [hxn]; decide) rfl rfl ?_
  obtain ⟨f1, h⟩ := h
  refine fV.sub (l' := [some (aR (some o)), some (aI (0 : Int32)), some (aI (0 : Int32)), none]) ⟨rfl, ⟨rfl, ⟨rfl, trivial⟩⟩⟩ ?_
  exact mB_X3_endJobs_4 hlv hF hxn hr hE  f1 S n (0 : Int32) (0 : Int32) h
set_option maxRecDepth 100000 in
set_option maxHeartbeats 4000000 in
theorem mB_X3_changeUse_27 {F : fX} {lv : Nat} (hlv : 4 ≤ lv) (hF : fOk F cX3_changeUse RX3 lv) (hxn : xn F = 4) (hr : (xM F).sig.returnType = none) {post : fMS → Nat → Prop} {o : Nat} (hE : fEnd F lv (fPV post)) : ∀ (f : Nat) (S : fMS) (n : Nat) (x1 : Int32) (x2 : Int32) (h : wB_X3_changeUse_27 post o f S n x1 x2), fV F S n 27 [some (aR (some o)), some (aI x1), some (aI x2), none] [] := by
  intro f
  induction f with
  | zero => intro _ _ _ _ h; exact h.elim
  | succ f ih =>
    intro S n x1 x2 h
    simp only [wB_X3_changeUse_27] at h
    refine fV_iload_n hF dX3_changeUse_27 rfl rfl ?_
    refine fV_aload_n hF dX3_changeUse_28 rfl rfl ?_
    obtain ⟨hA1, h⟩ := h
    refine fV_getR (k := 4) (i := 0) hF fK4 rfl hA1 (by decide) fw_192 (Or.inl rfl) rfl dX3_changeUse_29 ?_
    obtain ⟨a2, e3, hA4, h⟩ := h
    refine fV_callV (k := 6) (As := []) hF (mc_Jx4a65c_size_8abf5 hF.2.2.2.2.2.2.2.2.1 h) fK6 e3 hA4 (by omega) fw_233 fw_230 fw_231 fw_232 fw_4 ⟨rfl, by decide, by decide, by decide +kernel⟩ (na := 0) rfl (by decide) (Nat.le_of_ble_eq_true rfl) dX3_changeUse_32 rfl (fun rv S9 n9 hp => ?_)
    obtain ⟨v5, rfl, rfl, rfl, h⟩ := hp
    refine fV_icmp_ge (tgt := 93) hF dX3_changeUse_35 (by decide) (fun c6 => ?_) (fun c6 => ?_)
    · have h := h.1 c6
      exact fV_vret hF hE.s (by omega) hr dX3_changeUse_93 ⟨rfl, h⟩
    · have h := h.2 c6
      refine fV_aload_n hF dX3_changeUse_38 rfl rfl ?_
      refine fV_getR (k := 4) (i := 0) hF fK4 rfl hA1 (by decide) fw_192 (Or.inl rfl) rfl dX3_changeUse_39 ?_
      refine fV_iload_n hF dX3_changeUse_42 rfl rfl ?_
      refine fV_callV (k := 6) (As := [(aI x2)]) hF (mc_Jx4a65c_get_915e3 hF.2.2.2.2.2.2.2.2.1 h) fK6 e3 hA4 (by omega) fw_257 fw_254 fw_255 fw_256 fw_4 ⟨rfl, by decide, by decide, by decide +kernel⟩ (na := 1) rfl (by decide) (Nat.le_of_ble_eq_true rfl) dX3_changeUse_43 rfl (fun rv S9 n9 hp => ?_)
      obtain ⟨r7, rfl, rfl, rfl, h⟩ := hp
      obtain ⟨a8, e9, hA10, h⟩ := h
      refine fV_castK (k := 3) hF fK3 e9 hA10 fw_66 dX3_changeUse_46 ?_
      refine fV_astore_n0 hF [some (aR (some o)), some (aI x1), some (aI x2), some (aR r7)] dX3_changeUse_49 rfl (by rw [hxn]; decide) rfl rfl ?_
      refine fV_aload_n hF dX3_changeUse_50 rfl rfl ?_
      refine fV_callV (k := 3) (As := []) hF (mc_X2_isLeaf hF.2.2.2.2.2.2.2.2.1 h) fK3 e9 hA10 (by omega) fw_864 fw_861 fw_862 fw_863 fw_5 ⟨rfl, by decide, by decide, by decide +kernel⟩ (na := 0) rfl (by decide) (Nat.le_of_ble_eq_true rfl) dX3_changeUse_51 rfl (fun rv S9 n9 hp => ?_)
      obtain ⟨v11, rfl, rfl, rfl, h⟩ := hp
      refine fV_if_eq (tgt := 87) hF dX3_changeUse_54 (by decide) (fun c12 => ?_) (fun c12 => ?_)
      · have h := h.1 c12
        refine fV_iinc (v := 1) hF (fun y => [some (aR (some o)), some (aI x1), some (aI y), some (aR r7)]) dX3_changeUse_87 rfl (by decide) (by rw [hxn]; decide) rfl (fun _ => rfl) (fun v13 ev13 => ?_)
        have h := h v13 ev13
        refine fV_goto (tgt := 27) hF dX3_changeUse_90 (by decide) ?_
        refine fV.sub (l' := [some (aR (some o)), some (aI x1), some (aI v13), none]) ⟨rfl, ⟨rfl, ⟨rfl, trivial⟩⟩⟩ ?_
        exact ih S n x1 v13 h
      · have h := h.2 c12
        refine fV_aload_n hF dX3_changeUse_57 rfl rfl ?_
        refine fV_dup hF dX3_changeUse_58 rfl ?_
        refine fV_getJ (k := 3) (i := 7) hF fK3 e9 hA10 (by decide) fw_89 (Or.inl rfl) rfl dX3_changeUse_59 ?_
        refine fV_aload_n hF dX3_changeUse_62 rfl rfl ?_
        refine fV_getI (k := 3) (i := 6) hF fK3 e9 hA10 (by decide) fw_87 (Or.inl rfl) rfl dX3_changeUse_63 ?_
        refine fV_i2l hF dX3_changeUse_66 ?_
        refine fV_ladd hF dX3_changeUse_67 ?_
        refine fV_putJ (k := 3) (i := 7) hF fK3 tyX2_ok nmX2 e9 hA10 (by decide) rfl fw_89 (Or.inl rfl) (Or.inl rfl) rfl rfl dX3_changeUse_68 ?_
        refine fV_iload_n hF dX3_changeUse_71 rfl rfl ?_
        refine fV_if_eq (tgt := 87) hF dX3_changeUse_72 (by decide) (fun c14 => ?_) (fun c14 => ?_)
        · have h := h.1 c14
          refine fV_iinc (v := 1) hF (fun y => [some (aR (some o)), some (aI x1), some (aI y), some (aR r7)]) dX3_changeUse_87 rfl (by decide) (by rw [hxn]; decide) rfl (fun _ => rfl) (fun v15 ev15 => ?_)
          have h := h v15 ev15
          refine fV_goto (tgt := 27) hF dX3_changeUse_90 (by decide) ?_
          refine fV.sub (l' := [some (aR (some o)), some (aI x1), some (aI v15), none]) ⟨rfl, ⟨rfl, ⟨rfl, trivial⟩⟩⟩ ?_
          exact ih (wJ S a8 7 ((sJ S a8 7) + (Int32.toInt64 (sI S a8 6)))) n x1 v15 h
        · have h := h.2 c14
          refine fV_aload_n hF dX3_changeUse_75 rfl rfl ?_
          refine fV_dup hF dX3_changeUse_76 rfl ?_
          refine fV_getJ (k := 3) (i := 7) hF fK3 e9 hA10 (by decide) fw_89 (Or.inl rfl) rfl dX3_changeUse_77 ?_
          refine fV_ldc2 (v := 2) hF dX3_changeUse_80 fw_973 ?_
          refine fV_ldiv hF dX3_changeUse_83 (by decide) ?_
          refine fV_putJ (k := 3) (i := 7) hF fK3 tyX2_ok nmX2 e9 hA10 (by decide) rfl fw_89 (Or.inl rfl) (Or.inl rfl) rfl rfl dX3_changeUse_84 ?_
          refine fV_iinc (v := 1) hF (fun y => [some (aR (some o)), some (aI x1), some (aI y), some (aR r7)]) dX3_changeUse_87 rfl (by decide) (by rw [hxn]; decide) rfl (fun _ => rfl) (fun v16 ev16 => ?_)
          have h := h v16 ev16
          refine fV_goto (tgt := 27) hF dX3_changeUse_90 (by decide) ?_
          refine fV.sub (l' := [some (aR (some o)), some (aI x1), some (aI v16), none]) ⟨rfl, ⟨rfl, ⟨rfl, trivial⟩⟩⟩ ?_
          exact ih (wJ (wJ S a8 7 ((sJ S a8 7) + (Int32.toInt64 (sI S a8 6)))) a8 7 ((sJ (wJ S a8 7 ((sJ S a8 7) + (Int32.toInt64 (sI S a8 6)))) a8 7) / (2 : Int64))) n x1 v16 h
set_option maxRecDepth 100000 in
set_option maxHeartbeats 4000000 in
theorem mc_X3_changeUse {l : Launch} (hfl : l.stackTraces = false) {G : fG} {S : fMS} {n : Nat} {o : Nat} {post : fMS → Nat → Prop} (h : wp_X3_changeUse S n o post) : fCM l yX3_changeUse (.code yX3_changeUse cX3_changeUse 4 none) 4 G [(aR (some o))] S n (fPV post) := by
  refine fCM_of hfl (by decide) (by intro v hv; simp only [List.mem_cons, List.not_mem_nil, or_false] at hv; rcases hv with rfl <;> rfl) (Nat.le_of_ble_eq_true rfl) (fun F hF hxn hl hG hr hin hE => ?_)
  subst hl hG
  have hlv : 4 ≤ 4 := Nat.le_refl _
  show fV F S n 0 [some (aR (some o)), none, none, none] []
  unfold wp_X3_changeUse at h
  refine fV_aload_n hF dX3_changeUse_0 rfl rfl ?_
  obtain ⟨hA1, h⟩ := h
  refine fV_getI (k := 4) (i := 8) hF fK4 rfl hA1 (by decide) fw_200 (Or.inl rfl) rfl dX3_changeUse_1 ?_
  refine fV_if_le (tgt := 23) hF dX3_changeUse_4 (by decide) (fun c2 => ?_) (fun c2 => ?_)
  · have h := h.1 c2
    refine fV_iconst (v := 0) hF dX3_changeUse_23 (by decide) ?_
    refine fV_istore_n0 hF [some (aR (some o)), some (aI (0 : Int32)), none, none] dX3_changeUse_24 rfl (by rw [hxn]; decide) rfl rfl ?_
    refine fV_iconst (v := 0) hF dX3_changeUse_25 (by decide) ?_
    refine fV_istore_n0 hF [some (aR (some o)), some (aI (0 : Int32)), some (aI (0 : Int32)), none] dX3_changeUse_26 rfl (by rw [hxn]; decide) rfl rfl ?_
    obtain ⟨f1, h⟩ := h
    refine fV.sub (l' := [some (aR (some o)), some (aI (0 : Int32)), some (aI (0 : Int32)), none]) ⟨rfl, ⟨rfl, ⟨rfl, trivial⟩⟩⟩ ?_
    exact mB_X3_changeUse_27 hlv hF hxn hr hE  f1 S n (0 : Int32) (0 : Int32) h
  · have h := h.2 c2
    refine fV_aload_n hF dX3_changeUse_7 rfl rfl ?_
    refine fV_getI (k := 4) (i := 9) hF fK4 rfl hA1 (by decide) fw_201 (Or.inl rfl) rfl dX3_changeUse_8 ?_
    refine fV_aload_n hF dX3_changeUse_11 rfl rfl ?_
    refine fV_getI (k := 4) (i := 8) hF fK4 rfl hA1 (by decide) fw_200 (Or.inl rfl) rfl dX3_changeUse_12 ?_
    obtain ⟨hne3, h⟩ := h
    refine fV_irem hF dX3_changeUse_15 hne3 ?_
    refine fV_if_ne (tgt := 23) hF dX3_changeUse_16 (by decide) (fun c4 => ?_) (fun c4 => ?_)
    · have h := h.1 c4
      refine fV_iconst (v := 0) hF dX3_changeUse_23 (by decide) ?_
      refine fV_istore_n0 hF [some (aR (some o)), some (aI (0 : Int32)), none, none] dX3_changeUse_24 rfl (by rw [hxn]; decide) rfl rfl ?_
      refine fV_iconst (v := 0) hF dX3_changeUse_25 (by decide) ?_
      refine fV_istore_n0 hF [some (aR (some o)), some (aI (0 : Int32)), some (aI (0 : Int32)), none] dX3_changeUse_26 rfl (by rw [hxn]; decide) rfl rfl ?_
      obtain ⟨f1, h⟩ := h
      refine fV.sub (l' := [some (aR (some o)), some (aI (0 : Int32)), some (aI (0 : Int32)), none]) ⟨rfl, ⟨rfl, ⟨rfl, trivial⟩⟩⟩ ?_
      exact mB_X3_changeUse_27 hlv hF hxn hr hE  f1 S n (0 : Int32) (0 : Int32) h
    · have h := h.2 c4
      refine fV_iconst (v := 1) hF dX3_changeUse_19 (by decide) ?_
      refine fV_goto (tgt := 24) hF dX3_changeUse_20 (by decide) ?_
      refine fV_istore_n0 hF [some (aR (some o)), some (aI (1 : Int32)), none, none] dX3_changeUse_24 rfl (by rw [hxn]; decide) rfl rfl ?_
      refine fV_iconst (v := 0) hF dX3_changeUse_25 (by decide) ?_
      refine fV_istore_n0 hF [some (aR (some o)), some (aI (1 : Int32)), some (aI (0 : Int32)), none] dX3_changeUse_26 rfl (by rw [hxn]; decide) rfl rfl ?_
      obtain ⟨f1, h⟩ := h
      refine fV.sub (l' := [some (aR (some o)), some (aI (1 : Int32)), some (aI (0 : Int32)), none]) ⟨rfl, ⟨rfl, ⟨rfl, trivial⟩⟩⟩ ?_
      exact mB_X3_changeUse_27 hlv hF hxn hr hE  f1 S n (1 : Int32) (0 : Int32) h
set_option maxRecDepth 100000 in
set_option maxHeartbeats 4000000 in
theorem mB_X3_pass_11 {F : fX} {lv : Nat} (hlv : 11 ≤ lv) (hF : fOk F cX3_pass RX3 lv) (hxn : xn F = 4) (hr : (xM F).sig.returnType = (some .int)) (hex : ∀ x ∈ (xc F).exceptionTable.toList, False) {post : Int32 → fMS → Nat → Prop} {postX : String → fMS → Nat → Prop} {o : Nat} {p1 : Int32} (hE : fEndX F lv (fPI post) postX) : ∀ (f : Nat) (S : fMS) (n : Nat) (x2 : Int32) (x3 : Int32) (h : wB_X3_pass_11 post postX o p1 f S n x2 x3), fV F S n 11 [some (aR (some o)), some (aI p1), some (aI x2), some (aI x3)] [] := by
  intro f
  induction f with
  | zero => intro _ _ _ _ h; exact h.elim
  | succ f ih =>
    intro S n x2 x3 h
    simp only [wB_X3_pass_11] at h
    refine fV_iload_n hF dX3_pass_11 rfl rfl ?_
    refine fV_iload_n hF dX3_pass_12 rfl rfl ?_
    refine fV_icmp_ge (tgt := 47) hF dX3_pass_13 (by decide) (fun c1 => ?_) (fun c1 => ?_)
    · have h := h.1 c1
      refine fV_iload_n hF dX3_pass_47 rfl rfl ?_
      exact fV_iret hF hE.s (by omega) hr rfl dX3_pass_48 ⟨_, rfl, h⟩
    · have h := h.2 c1
      refine fV_aload_n hF dX3_pass_16 rfl rfl ?_
      refine fV_dup hF dX3_pass_17 rfl ?_
      obtain ⟨hA2, h⟩ := h
      refine fV_getI (k := 4) (i := 9) hF fK4 rfl hA2 (by decide) fw_201 (Or.inl rfl) rfl dX3_pass_18 ?_
      refine fV_iconst (v := 1) hF dX3_pass_21 (by decide) ?_
      refine fV_iadd hF dX3_pass_22 ?_
      refine fV_putI (k := 4) (i := 9) hF fK4 tyX3_ok nmX3 rfl hA2 (by decide) rfl fw_201 (Or.inl rfl) (Or.inl rfl) rfl rfl dX3_pass_23 ?_
      refine fV_iload_n hF dX3_pass_26 rfl rfl ?_
      refine fV_aload_n hF dX3_pass_27 rfl rfl ?_
      refine fV_callV (k := 4) (As := []) hF (mc_X3_endJobs hF.2.2.2.2.2.2.2.2.1 h) fK4 rfl hA2 (by omega) fw_968 fw_965 fw_967 fwp_36 fw_1 ⟨rfl, by decide, by decide, by decide +kernel⟩ (na := 0) rfl (by decide) (Nat.le_of_ble_eq_true rfl) dX3_pass_28 rfl (fun rv S4 n5 hp => ?_)
      obtain ⟨v3, rfl, h⟩ := hp
      refine fV_iadd hF dX3_pass_31 ?_
      refine fV_istore_n hF (fun y => [some (aR (some o)), some (aI p1), some (aI y), some (aI x3)]) dX3_pass_32 rfl (by rw [hxn]; decide) rfl (fun _ => rfl) (fun v6 ev6 => ?_)
      have h := h v6 ev6
      refine fV_aload_n hF dX3_pass_33 rfl rfl ?_
      obtain ⟨hA7, h⟩ := h
      refine fV_callV (k := 4) (As := []) hF (mc_X3_changeUse hF.2.2.2.2.2.2.2.2.1 h) fK4 rfl hA7 (by omega) fw_972 fw_969 fw_971 fwp_37 fw_1 ⟨rfl, by decide, by decide, by decide +kernel⟩ (na := 0) rfl (by decide) (Nat.le_of_ble_eq_true rfl) dX3_pass_34 rfl (fun rv S8 n9 hp => ?_)
      obtain ⟨rfl, h⟩ := hp
      refine fV_aload_n hF dX3_pass_37 rfl rfl ?_
      obtain ⟨hA10, h⟩ := h
      refine fV_callV (k := 4) (As := []) hF (mc_X3_serve hF.2.2.2.2.2.2.2.2.1 h) fK4 rfl hA10 (by omega) fw_773 fw_770 fw_772 fwp_27 fw_1 ⟨rfl, by decide, by decide, by decide +kernel⟩ (na := 0) rfl (by decide) (Nat.le_of_ble_eq_true rfl) dX3_pass_38 rfl (fun rv S11 n12 hp => ?_)
      obtain ⟨rfl, h⟩ := hp
      refine fV_iinc (v := 1) hF (fun y => [some (aR (some o)), some (aI p1), some (aI v6), some (aI y)]) dX3_pass_41 rfl (by decide) (by rw [hxn]; decide) rfl (fun _ => rfl) (fun v13 ev13 => ?_)
      have h := h v13 ev13
      refine fV_goto (tgt := 11) hF dX3_pass_44 (by decide) ?_
      refine fV.sub (l' := [some (aR (some o)), some (aI p1), some (aI v6), some (aI v13)]) ⟨rfl, ⟨rfl, ⟨rfl, ⟨rfl, trivial⟩⟩⟩⟩ ?_
      exact ih S11 n12 v6 v13 h
set_option maxRecDepth 100000 in
set_option maxHeartbeats 4000000 in
theorem mc_X3_pass {l : Launch} (hfl : l.stackTraces = false) {G : fG} {S : fMS} {n : Nat} {o : Nat} {p1 : Int32} {post : Int32 → fMS → Nat → Prop} {postX : String → fMS → Nat → Prop} (h : wp_X3_pass S n o p1 post postX) : fCX l yX3_pass (.code yX3_pass cX3_pass 4 (some .int)) 11 G [(aR (some o)), (aI p1)] S n (fPI post) postX := by
  refine fCX_of hfl (by decide) (by intro v hv; simp only [List.mem_cons, List.not_mem_nil, or_false] at hv; rcases hv with rfl | rfl <;> rfl) (Nat.le_of_ble_eq_true rfl) (fun F hF hxn hl hG hr hin hex hE => ?_)
  subst hl hG
  have hlv : 11 ≤ 11 := Nat.le_refl _
  show fV F S n 0 [some (aR (some o)), some (aI p1), none, none] []
  unfold wp_X3_pass at h
  refine fV_iload_n hF dX3_pass_0 rfl rfl ?_
  refine fV_iconst (v := 1) hF dX3_pass_1 (by decide) ?_
  refine fV_bipush (v := 20) hF dX3_pass_2 (by decide) ?_
  refine fV_callSX (As := [(aI p1), (aI (1 : Int32)), (aI (20 : Int32))]) hF (mc_X3_requireRange hF.2.2.2.2.2.2.2.2.1 h) hE hex (by omega) fw_750 fw_748 fw_749 fw_1 ⟨by decide, by decide, by decide +kernel⟩ (na := 3) rfl (by decide) (Nat.le_of_ble_eq_true rfl) dX3_pass_4 rfl (fun rv S9 n9 hp => ?_)
  obtain ⟨rfl, rfl, rfl, h⟩ := hp
  refine fV_iconst (v := 0) hF dX3_pass_7 (by decide) ?_
  refine fV_istore_n0 hF [some (aR (some o)), some (aI p1), some (aI (0 : Int32)), none] dX3_pass_8 rfl (by rw [hxn]; decide) rfl rfl ?_
  refine fV_iconst (v := 0) hF dX3_pass_9 (by decide) ?_
  refine fV_istore_n0 hF [some (aR (some o)), some (aI p1), some (aI (0 : Int32)), some (aI (0 : Int32))] dX3_pass_10 rfl (by rw [hxn]; decide) rfl rfl ?_
  obtain ⟨f1, h⟩ := h
  refine fV.sub (l' := [some (aR (some o)), some (aI p1), some (aI (0 : Int32)), some (aI (0 : Int32))]) ⟨rfl, ⟨rfl, ⟨rfl, ⟨rfl, trivial⟩⟩⟩⟩ ?_
  exact mB_X3_pass_11 hlv hF hxn hr hex hE  f1 S n (0 : Int32) (0 : Int32) h
set_option maxRecDepth 100000 in
set_option maxHeartbeats 4000000 in
theorem mc_X3_tick {l : Launch} (hfl : l.stackTraces = false) {G : fG} {S : fMS} {n : Nat} {o : Nat} {post : Int32 → Prop} (h : wp_X3_tick S o post) : fCM l yX3_tick (.code yX3_tick cX3_tick 1 (some .int)) 1 G [(aR (some o))] S n (fPI (fun x S' n' => S = S' ∧ n = n' ∧ post x)) := by
  refine fCM_of hfl (by decide) (by intro v hv; simp only [List.mem_cons, List.not_mem_nil, or_false] at hv; rcases hv with rfl <;> rfl) (Nat.le_of_ble_eq_true rfl) (fun F hF hxn hl hG hr hin hE => ?_)
  subst hl hG
  have hlv : 1 ≤ 1 := Nat.le_refl _
  show fV F S n 0 [some (aR (some o))] []
  unfold wp_X3_tick at h
  refine fV_aload_n hF dX3_tick_0 rfl rfl ?_
  obtain ⟨hA1, h⟩ := h
  refine fV_getI (k := 4) (i := 9) hF fK4 rfl hA1 (by decide) fw_201 (Or.inl rfl) rfl dX3_tick_1 ?_
  exact fV_iret hF hE.s (by omega) hr rfl dX3_tick_4 ⟨_, rfl, rfl, rfl, h⟩
set_option maxRecDepth 100000 in
set_option maxHeartbeats 4000000 in
theorem mc_X3_jobs {l : Launch} (hfl : l.stackTraces = false) {G : fG} {S : fMS} {n : Nat} {o : Nat} {post : Int32 → Prop} (h : wp_X3_jobs S o post) : fCM l yX3_jobs (.code yX3_jobs cX3_jobs 1 (some .int)) 2 G [(aR (some o))] S n (fPI (fun x S' n' => S = S' ∧ n = n' ∧ post x)) := by
  refine fCM_of hfl (by decide) (by intro v hv; simp only [List.mem_cons, List.not_mem_nil, or_false] at hv; rcases hv with rfl <;> rfl) (Nat.le_of_ble_eq_true rfl) (fun F hF hxn hl hG hr hin hE => ?_)
  subst hl hG
  have hlv : 2 ≤ 2 := Nat.le_refl _
  show fV F S n 0 [some (aR (some o))] []
  unfold wp_X3_jobs at h
  refine fV_aload_n hF dX3_jobs_0 rfl rfl ?_
  obtain ⟨hA1, h⟩ := h
  refine fV_getR (k := 4) (i := 2) hF fK4 rfl hA1 (by decide) fw_194 (Or.inl rfl) rfl dX3_jobs_1 ?_
  obtain ⟨a2, e3, hA4, h⟩ := h
  refine fV_callV (k := 6) (As := []) hF (mc_Jx4a65c_size_8abf5 hF.2.2.2.2.2.2.2.2.1 h) fK6 e3 hA4 (by omega) fw_233 fw_230 fw_231 fw_232 fw_4 ⟨rfl, by decide, by decide, by decide +kernel⟩ (na := 0) rfl (by decide) (Nat.le_of_ble_eq_true rfl) dX3_jobs_4 rfl (fun rv S9 n9 hp => ?_)
  obtain ⟨v5, rfl, rfl, rfl, h⟩ := hp
  exact fV_iret hF hE.s (by omega) hr rfl dX3_jobs_7 ⟨_, rfl, rfl, rfl, h⟩
set_option maxRecDepth 100000 in
set_option maxHeartbeats 4000000 in
theorem mc_X3_stateOf {l : Launch} (hfl : l.stackTraces = false) {G : fG} {S : fMS} {n : Nat} {o : Nat} {p1 : Int32} {post : Int32 → Prop} {postX : String → fMS → Nat → Prop} (h : wp_X3_stateOf S n o p1 post postX) : fCX l yX3_stateOf (.code yX3_stateOf cX3_stateOf 2 (some .char)) 5 G [(aR (some o)), (aI p1)] S n (fPI (fun x S' n' => S = S' ∧ n = n' ∧ post x)) postX := by
  refine fCX_of hfl (by decide) (by intro v hv; simp only [List.mem_cons, List.not_mem_nil, or_false] at hv; rcases hv with rfl | rfl <;> rfl) (Nat.le_of_ble_eq_true rfl) (fun F hF hxn hl hG hr hin hex hE => ?_)
  subst hl hG
  have hlv : 5 ≤ 5 := Nat.le_refl _
  show fV F S n 0 [some (aR (some o)), some (aI p1)] []
  unfold wp_X3_stateOf at h
  refine fV_aload_n hF dX3_stateOf_0 rfl rfl ?_
  refine fV_iload_n hF dX3_stateOf_1 rfl rfl ?_
  obtain ⟨hA1, h⟩ := h
  refine fV_callVX (k := 4) (As := [(aI p1)]) hF (mc_X3_jobAt hF.2.2.2.2.2.2.2.2.1 h) hE hex fK4 rfl hA1 (by omega) fw_924 fw_921 fw_923 fwp_33 fw_1 ⟨rfl, by decide, by decide, by decide +kernel⟩ (na := 1) rfl (by decide) (Nat.le_of_ble_eq_true rfl) dX3_stateOf_2 rfl (fun rv S9 n9 hp => ?_)
  obtain ⟨r2, rfl, rfl, rfl, h⟩ := hp
  obtain ⟨a3, e4, hA5, h⟩ := h
  refine fV_getI (k := 1) (i := 4) hF fK1 e4 hA5 (by decide) fw_885 (Or.inl rfl) rfl dX3_stateOf_5 ?_
  obtain ⟨hnr6, h⟩ := h
  exact fV_iret hF hE.s (by omega) hr hnr6 dX3_stateOf_8 ⟨_, rfl, rfl, rfl, h⟩
set_option maxRecDepth 100000 in
set_option maxHeartbeats 4000000 in
theorem mc_X3_toGo {l : Launch} (hfl : l.stackTraces = false) {G : fG} {S : fMS} {n : Nat} {o : Nat} {p1 : Int32} {post : Int32 → Prop} {postX : String → fMS → Nat → Prop} (h : wp_X3_toGo S n o p1 post postX) : fCX l yX3_toGo (.code yX3_toGo cX3_toGo 3 (some .int)) 6 G [(aR (some o)), (aI p1)] S n (fPI (fun x S' n' => S = S' ∧ n = n' ∧ post x)) postX := by
  refine fCX_of hfl (by decide) (by intro v hv; simp only [List.mem_cons, List.not_mem_nil, or_false] at hv; rcases hv with rfl | rfl <;> rfl) (Nat.le_of_ble_eq_true rfl) (fun F hF hxn hl hG hr hin hex hE => ?_)
  subst hl hG
  have hlv : 6 ≤ 6 := Nat.le_refl _
  show fV F S n 0 [some (aR (some o)), some (aI p1), none] []
  unfold wp_X3_toGo at h
  refine fV_aload_n hF dX3_toGo_0 rfl rfl ?_
  refine fV_iload_n hF dX3_toGo_1 rfl rfl ?_
  obtain ⟨hA1, h⟩ := h
  refine fV_callVX (k := 4) (As := [(aI p1)]) hF (mc_X3_aliveJobAt hF.2.2.2.2.2.2.2.2.1 h) hE hex fK4 rfl hA1 (by omega) fw_920 fw_917 fw_919 fwp_32 fw_1 ⟨rfl, by decide, by decide, by decide +kernel⟩ (na := 1) rfl (by decide) (Nat.le_of_ble_eq_true rfl) dX3_toGo_2 rfl (fun rv S9 n9 hp => ?_)
  obtain ⟨r2, rfl, rfl, rfl, h⟩ := hp
  refine fV_astore_n0 hF [some (aR (some o)), some (aI p1), some (aR r2)] dX3_toGo_5 rfl (by rw [hxn]; decide) rfl rfl ?_
  refine fV_aload_n hF dX3_toGo_6 rfl rfl ?_
  obtain ⟨a3, e4, hA5, h⟩ := h
  refine fV_getI (k := 1) (i := 4) hF fK1 e4 hA5 (by decide) fw_885 (Or.inl rfl) rfl dX3_toGo_7 ?_
  refine fV_bipush (v := 114) hF dX3_toGo_10 (by decide) ?_
  refine fV_icmp_ne (tgt := 22) hF dX3_toGo_12 (by decide) (fun c6 => ?_) (fun c6 => ?_)
  · have h := h.1 c6
    refine fV_aload_n hF dX3_toGo_22 rfl rfl ?_
    refine fV_getI (k := 1) (i := 3) hF fK1 e4 hA5 (by decide) fw_883 (Or.inl rfl) rfl dX3_toGo_23 ?_
    exact fV_iret hF hE.s (by omega) hr rfl dX3_toGo_26 ⟨_, rfl, rfl, rfl, h⟩
  · have h := h.2 c6
    refine fV_aload_n hF dX3_toGo_15 rfl rfl ?_
    refine fV_getI (k := 1) (i := 5) hF fK1 e4 hA5 (by decide) fw_887 (Or.inl rfl) rfl dX3_toGo_16 ?_
    refine fV_goto (tgt := 26) hF dX3_toGo_19 (by decide) ?_
    exact fV_iret hF hE.s (by omega) hr rfl dX3_toGo_26 ⟨_, rfl, rfl, rfl, h⟩
set_option maxRecDepth 100000 in
set_option maxHeartbeats 4000000 in
theorem mc_X3_stops {l : Launch} (hfl : l.stackTraces = false) {G : fG} {S : fMS} {n : Nat} {o : Nat} {p1 : Int32} {post : Int32 → Prop} {postX : String → fMS → Nat → Prop} (h : wp_X3_stops S n o p1 post postX) : fCX l yX3_stops (.code yX3_stops cX3_stops 2 (some .int)) 5 G [(aR (some o)), (aI p1)] S n (fPI (fun x S' n' => S = S' ∧ n = n' ∧ post x)) postX := by
  refine fCX_of hfl (by decide) (by intro v hv; simp only [List.mem_cons, List.not_mem_nil, or_false] at hv; rcases hv with rfl | rfl <;> rfl) (Nat.le_of_ble_eq_true rfl) (fun F hF hxn hl hG hr hin hex hE => ?_)
  subst hl hG
  have hlv : 5 ≤ 5 := Nat.le_refl _
  show fV F S n 0 [some (aR (some o)), some (aI p1)] []
  unfold wp_X3_stops at h
  refine fV_aload_n hF dX3_stops_0 rfl rfl ?_
  refine fV_iload_n hF dX3_stops_1 rfl rfl ?_
  obtain ⟨hA1, h⟩ := h
  refine fV_callVX (k := 4) (As := [(aI p1)]) hF (mc_X3_jobAt hF.2.2.2.2.2.2.2.2.1 h) hE hex fK4 rfl hA1 (by omega) fw_924 fw_921 fw_923 fwp_33 fw_1 ⟨rfl, by decide, by decide, by decide +kernel⟩ (na := 1) rfl (by decide) (Nat.le_of_ble_eq_true rfl) dX3_stops_2 rfl (fun rv S9 n9 hp => ?_)
  obtain ⟨r2, rfl, rfl, rfl, h⟩ := hp
  obtain ⟨a3, e4, hA5, h⟩ := h
  refine fV_getI (k := 1) (i := 6) hF fK1 e4 hA5 (by decide) fw_889 (Or.inl rfl) rfl dX3_stops_5 ?_
  exact fV_iret hF hE.s (by omega) hr rfl dX3_stops_8 ⟨_, rfl, rfl, rfl, h⟩
set_option maxRecDepth 100000 in
set_option maxHeartbeats 4000000 in
theorem mc_X3_leafAt {l : Launch} (hfl : l.stackTraces = false) {G : fG} {S : fMS} {n : Nat} {o : Nat} {p1 : Int32} {post : Option Nat → Prop} {postX : String → fMS → Nat → Prop} (h : wp_X3_leafAt S n o p1 post postX) : fCX l yX3_leafAt (.code yX3_leafAt cX3_leafAt 3 (some (.object "FairquotaBroker$Team"))) 5 G [(aR (some o)), (aI p1)] S n (fPR (fun x S' n' => S = S' ∧ n = n' ∧ post x)) postX := by
  refine fCX_of hfl (by decide) (by intro v hv; simp only [List.mem_cons, List.not_mem_nil, or_false] at hv; rcases hv with rfl | rfl <;> rfl) (Nat.le_of_ble_eq_true rfl) (fun F hF hxn hl hG hr hin hex hE => ?_)
  subst hl hG
  have hlv : 5 ≤ 5 := Nat.le_refl _
  show fV F S n 0 [some (aR (some o)), some (aI p1), none] []
  unfold wp_X3_leafAt at h
  refine fV_aload_n hF dX3_leafAt_0 rfl rfl ?_
  refine fV_iload_n hF dX3_leafAt_1 rfl rfl ?_
  obtain ⟨hA1, h⟩ := h
  refine fV_callVX (k := 4) (As := [(aI p1)]) hF (mc_X3_teamAt hF.2.2.2.2.2.2.2.2.1 h) hE hex fK4 rfl hA1 (by omega) fw_744 fw_741 fw_743 fwp_26 fw_1 ⟨rfl, by decide, by decide, by decide +kernel⟩ (na := 1) rfl (by decide) (Nat.le_of_ble_eq_true rfl) dX3_leafAt_2 rfl (fun rv S9 n9 hp => ?_)
  obtain ⟨r2, rfl, rfl, rfl, h⟩ := hp
  refine fV_astore_n0 hF [some (aR (some o)), some (aI p1), some (aR r2)] dX3_leafAt_5 rfl (by rw [hxn]; decide) rfl rfl ?_
  refine fV_aload_n hF dX3_leafAt_6 rfl rfl ?_
  refine fV_callSX (As := [(aR r2)]) hF (mc_X3_requireLeaf hF.2.2.2.2.2.2.2.2.1 h) hE hex (by omega) fw_860 fw_858 fw_859 fw_1 ⟨by decide, by decide, by decide +kernel⟩ (na := 1) rfl (by decide) (Nat.le_of_ble_eq_true rfl) dX3_leafAt_7 rfl (fun rv S9 n9 hp => ?_)
  obtain ⟨rfl, rfl, rfl, h⟩ := hp
  refine fV_aload_n hF dX3_leafAt_10 rfl rfl ?_
  exact fV_aret hF hE.s (by omega) hr (Or.inl ⟨_, rfl⟩) dX3_leafAt_11 ⟨_, rfl, rfl, rfl, h⟩
set_option maxRecDepth 100000 in
set_option maxHeartbeats 4000000 in
theorem mc_X3_firstOf {l : Launch} (hfl : l.stackTraces = false) {G : fG} {S : fMS} {n : Nat} {o : Nat} {p1 : Int32} {post : Int32 → Prop} {postX : String → fMS → Nat → Prop} (h : wp_X3_firstOf S n o p1 post postX) : fCX l yX3_firstOf (.code yX3_firstOf cX3_firstOf 3 (some .int)) 6 G [(aR (some o)), (aI p1)] S n (fPI (fun x S' n' => S = S' ∧ n = n' ∧ post x)) postX := by
  refine fCX_of hfl (by decide) (by intro v hv; simp only [List.mem_cons, List.not_mem_nil, or_false] at hv; rcases hv with rfl | rfl <;> rfl) (Nat.le_of_ble_eq_true rfl) (fun F hF hxn hl hG hr hin hex hE => ?_)
  subst hl hG
  have hlv : 6 ≤ 6 := Nat.le_refl _
  show fV F S n 0 [some (aR (some o)), some (aI p1), none] []
  unfold wp_X3_firstOf at h
  refine fV_aload_n hF dX3_firstOf_0 rfl rfl ?_
  refine fV_aload_n hF dX3_firstOf_1 rfl rfl ?_
  refine fV_iload_n hF dX3_firstOf_2 rfl rfl ?_
  obtain ⟨hA1, h⟩ := h
  refine fV_callVX (k := 4) (As := [(aI p1)]) hF (mc_X3_leafAt hF.2.2.2.2.2.2.2.2.1 h) hE hex fK4 rfl hA1 (by omega) fw_1005 fw_1002 fw_1004 fwp_38 fw_1 ⟨rfl, by decide, by decide, by decide +kernel⟩ (na := 1) rfl (by decide) (Nat.le_of_ble_eq_true rfl) dX3_firstOf_3 rfl (fun rv S9 n9 hp => ?_)
  obtain ⟨r2, rfl, rfl, rfl, h⟩ := hp
  refine fV_callV (k := 4) (As := [(aR r2)]) hF (mc_X3_firstJob hF.2.2.2.2.2.2.2.2.1 h) fK4 rfl hA1 (by omega) fw_347 fw_344 fw_346 fwp_17 fw_1 ⟨rfl, by decide, by decide, by decide +kernel⟩ (na := 1) rfl (by decide) (Nat.le_of_ble_eq_true rfl) dX3_firstOf_6 rfl (fun rv S9 n9 hp => ?_)
  obtain ⟨r3, rfl, rfl, rfl, h⟩ := hp
  refine fV_astore_n0 hF [some (aR (some o)), some (aI p1), some (aR r3)] dX3_firstOf_9 rfl (by rw [hxn]; decide) rfl rfl ?_
  refine fV_aload_n hF dX3_firstOf_10 rfl rfl ?_
  refine fV_ifnonnull (tgt := 24) hF dX3_firstOf_11 (by decide) (fun c4 => ?_) (fun c4 => ?_)
  · have h := h.1 c4
    refine fV_aload_n hF dX3_firstOf_24 rfl rfl ?_
    obtain ⟨a5, e6, hA7, h⟩ := h
    refine fV_getI (k := 1) (i := 0) hF fK1 e6 hA7 (by decide) fw_877 (Or.inl rfl) rfl dX3_firstOf_25 ?_
    exact fV_iret hF hE.s (by omega) hr rfl dX3_firstOf_28 ⟨_, rfl, rfl, rfl, h⟩
  · have h := h.2 c4
    exact fV_throwN (text := "no job waits") hF hE hex h.1 h.2 (by omega) (Nat.le_of_ble_eq_true rfl) rfl (by decide) dX3_firstOf_14 dX3_firstOf_17 dX3_firstOf_18 dX3_firstOf_20 dX3_firstOf_23
set_option maxRecDepth 100000 in
set_option maxHeartbeats 4000000 in
theorem mc_X3_inLine {l : Launch} (hfl : l.stackTraces = false) {G : fG} {S : fMS} {n : Nat} {o : Nat} {p1 : Int32} {post : Int32 → fMS → Nat → Prop} {postX : String → fMS → Nat → Prop} (h : wp_X3_inLine S n o p1 post postX) : fCX l yX3_inLine (.code yX3_inLine cX3_inLine 2 (some .int)) 7 G [(aR (some o)), (aI p1)] S n (fPI post) postX := by
  refine fCX_of hfl (by decide) (by intro v hv; simp only [List.mem_cons, List.not_mem_nil, or_false] at hv; rcases hv with rfl | rfl <;> rfl) (Nat.le_of_ble_eq_true rfl) (fun F hF hxn hl hG hr hin hex hE => ?_)
  subst hl hG
  have hlv : 7 ≤ 7 := Nat.le_refl _
  show fV F S n 0 [some (aR (some o)), some (aI p1)] []
  unfold wp_X3_inLine at h
  refine fV_aload_n hF dX3_inLine_0 rfl rfl ?_
  obtain ⟨hA1, h⟩ := h
  refine fV_callV (k := 4) (As := []) hF (mc_X3_formLine hF.2.2.2.2.2.2.2.2.1 h) fK4 rfl hA1 (by omega) fw_339 fw_336 fw_338 fwp_16 fw_1 ⟨rfl, by decide, by decide, by decide +kernel⟩ (na := 0) rfl (by decide) (Nat.le_of_ble_eq_true rfl) dX3_inLine_1 rfl (fun rv S2 n3 hp => ?_)
  obtain ⟨rfl, h⟩ := hp
  refine fV_iload_n hF dX3_inLine_4 rfl rfl ?_
  refine fV_if_lt (tgt := 19) hF dX3_inLine_5 (by decide) (fun c4 => ?_) (fun c4 => ?_)
  · have h := h.1 c4
    exact fV_throwN (text := "no such rank") hF hE hex h.1 h.2 (by omega) (Nat.le_of_ble_eq_true rfl) rfl (by decide) dX3_inLine_19 dX3_inLine_22 dX3_inLine_23 dX3_inLine_25 dX3_inLine_28
  · have h := h.2 c4
    refine fV_iload_n hF dX3_inLine_8 rfl rfl ?_
    refine fV_aload_n hF dX3_inLine_9 rfl rfl ?_
    obtain ⟨hA5, h⟩ := h
    refine fV_getR (k := 4) (i := 5) hF fK4 rfl hA5 (by decide) fw_197 (Or.inl rfl) rfl dX3_inLine_10 ?_
    obtain ⟨a6, e7, hA8, h⟩ := h
    refine fV_callV (k := 6) (As := []) hF (mc_Jx4a65c_size_8abf5 hF.2.2.2.2.2.2.2.2.1 h) fK6 e7 hA8 (by omega) fw_233 fw_230 fw_231 fw_232 fw_4 ⟨rfl, by decide, by decide, by decide +kernel⟩ (na := 0) rfl (by decide) (Nat.le_of_ble_eq_true rfl) dX3_inLine_13 rfl (fun rv S9 n9 hp => ?_)
    obtain ⟨v9, rfl, rfl, rfl, h⟩ := hp
    refine fV_icmp_lt (tgt := 29) hF dX3_inLine_16 (by decide) (fun c10 => ?_) (fun c10 => ?_)
    · have h := h.1 c10
      refine fV_aload_n hF dX3_inLine_29 rfl rfl ?_
      refine fV_getR (k := 4) (i := 5) hF fK4 rfl hA5 (by decide) fw_197 (Or.inl rfl) rfl dX3_inLine_30 ?_
      refine fV_iload_n hF dX3_inLine_33 rfl rfl ?_
      refine fV_callV (k := 6) (As := [(aI p1)]) hF (mc_Jx4a65c_get_915e3 hF.2.2.2.2.2.2.2.2.1 h) fK6 e7 hA8 (by omega) fw_257 fw_254 fw_255 fw_256 fw_4 ⟨rfl, by decide, by decide, by decide +kernel⟩ (na := 1) rfl (by decide) (Nat.le_of_ble_eq_true rfl) dX3_inLine_34 rfl (fun rv S9 n9 hp => ?_)
      obtain ⟨r11, rfl, rfl, rfl, h⟩ := hp
      obtain ⟨a12, e13, hA14, h⟩ := h
      refine fV_castK (k := 1) hF fK1 e13 hA14 fw_268 dX3_inLine_37 ?_
      refine fV_getR (k := 1) (i := 1) hF fK1 e13 hA14 (by decide) fw_879 (Or.inl rfl) rfl dX3_inLine_40 ?_
      obtain ⟨a15, e16, hA17, h⟩ := h
      refine fV_getI (k := 3) (i := 0) hF fK3 e16 hA17 (by decide) fw_75 (Or.inl rfl) rfl dX3_inLine_43 ?_
      exact fV_iret hF hE.s (by omega) hr rfl dX3_inLine_46 ⟨_, rfl, h⟩
    · have h := h.2 c10
      exact fV_throwN (text := "no such rank") hF hE hex h.1 h.2 (by omega) (Nat.le_of_ble_eq_true rfl) rfl (by decide) dX3_inLine_19 dX3_inLine_22 dX3_inLine_23 dX3_inLine_25 dX3_inLine_28
set_option maxRecDepth 100000 in
set_option maxHeartbeats 4000000 in
theorem mB_X3_reservationFor_3 {F : fX} {lv : Nat} (hlv : 4 ≤ lv) (hF : fOk F cX3_reservationFor RX3 lv) (hxn : xn F = 6) (hr : (xM F).sig.returnType = (some (.object "FairquotaBroker$Reservation"))) {S : fMS} {n : Nat} {post : Option Nat → Prop} {o : Nat} {p1 : Int32} {p2 : Int32} {p3 : Int32} (hE : fEnd F lv (fPR (fun x S' n' => S = S' ∧ n = n' ∧ post x))) : ∀ (f : Nat) (x4 : Int32) (h : wB_X3_reservationFor_3 S post o p1 p2 p3 f x4), fV F S n 3 [some (aR (some o)), some (aI p1), some (aI p2), some (aI p3), some (aI x4), none] [] := by
  intro f
  induction f with
  | zero => intro _ h; exact h.elim
  | succ f ih =>
    intro x4 h
    simp only [wB_X3_reservationFor_3] at h
    refine fV_iload hF dX3_reservationFor_3 rfl ?_
    refine fV_aload_n hF dX3_reservationFor_5 rfl rfl ?_
    obtain ⟨hA1, h⟩ := h
    refine fV_getR (k := 4) (i := 4) hF fK4 rfl hA1 (by decide) fw_196 (Or.inl rfl) rfl dX3_reservationFor_6 ?_
    obtain ⟨a2, e3, hA4, h⟩ := h
    refine fV_callV (k := 6) (As := []) hF (mc_Jx4a65c_size_8abf5 hF.2.2.2.2.2.2.2.2.1 h) fK6 e3 hA4 (by omega) fw_233 fw_230 fw_231 fw_232 fw_4 ⟨rfl, by decide, by decide, by decide +kernel⟩ (na := 0) rfl (by decide) (Nat.le_of_ble_eq_true rfl) dX3_reservationFor_9 rfl (fun rv S9 n9 hp => ?_)
    obtain ⟨v5, rfl, rfl, rfl, h⟩ := hp
    refine fV_icmp_ge (tgt := 68) hF dX3_reservationFor_12 (by decide) (fun c6 => ?_) (fun c6 => ?_)
    · have h := h.1 c6
      refine fV_null hF dX3_reservationFor_68 ?_
      exact fV_aret hF hE.s (by omega) hr (Or.inl ⟨_, rfl⟩) dX3_reservationFor_69 ⟨_, rfl, rfl, rfl, h⟩
    · have h := h.2 c6
      refine fV_aload_n hF dX3_reservationFor_15 rfl rfl ?_
      refine fV_getR (k := 4) (i := 4) hF fK4 rfl hA1 (by decide) fw_196 (Or.inl rfl) rfl dX3_reservationFor_16 ?_
      refine fV_iload hF dX3_reservationFor_19 rfl ?_
      refine fV_callV (k := 6) (As := [(aI x4)]) hF (mc_Jx4a65c_get_915e3 hF.2.2.2.2.2.2.2.2.1 h) fK6 e3 hA4 (by omega) fw_257 fw_254 fw_255 fw_256 fw_4 ⟨rfl, by decide, by decide, by decide +kernel⟩ (na := 1) rfl (by decide) (Nat.le_of_ble_eq_true rfl) dX3_reservationFor_21 rfl (fun rv S9 n9 hp => ?_)
      obtain ⟨r7, rfl, rfl, rfl, h⟩ := hp
      obtain ⟨a8, e9, hA10, h⟩ := h
      refine fV_castK (k := 2) hF fK2 e9 hA10 fw_302 dX3_reservationFor_24 ?_
      refine fV_astore0 hF [some (aR (some o)), some (aI p1), some (aI p2), some (aI p3), some (aI x4), some (aR r7)] dX3_reservationFor_27 (by rw [hxn]; decide) rfl rfl ?_
      refine fV_aload hF dX3_reservationFor_29 rfl ?_
      refine fV_getR (k := 2) (i := 0) hF fK2 e9 hA10 (by decide) fw_1033 (Or.inl rfl) rfl dX3_reservationFor_31 ?_
      obtain ⟨a11, e12, hA13, h⟩ := h
      refine fV_getI (k := 3) (i := 0) hF fK3 e12 hA13 (by decide) fw_75 (Or.inl rfl) rfl dX3_reservationFor_34 ?_
      refine fV_iload_n hF dX3_reservationFor_37 rfl rfl ?_
      refine fV_icmp_ne (tgt := 62) hF dX3_reservationFor_38 (by decide) (fun c14 => ?_) (fun c14 => ?_)
      · have h := h.1 c14
        refine fV_iinc (v := 1) hF (fun y => [some (aR (some o)), some (aI p1), some (aI p2), some (aI p3), some (aI y), some (aR r7)]) dX3_reservationFor_62 rfl (by decide) (by rw [hxn]; decide) rfl (fun _ => rfl) (fun v15 ev15 => ?_)
        have h := h v15 ev15
        refine fV_goto (tgt := 3) hF dX3_reservationFor_65 (by decide) ?_
        refine fV.sub (l' := [some (aR (some o)), some (aI p1), some (aI p2), some (aI p3), some (aI v15), none]) ⟨rfl, ⟨rfl, ⟨rfl, ⟨rfl, ⟨rfl, trivial⟩⟩⟩⟩⟩ ?_
        exact ih v15 h
      · have h := h.2 c14
        refine fV_aload hF dX3_reservationFor_41 rfl ?_
        refine fV_getI (k := 2) (i := 1) hF fK2 e9 hA10 (by decide) fw_1035 (Or.inl rfl) rfl dX3_reservationFor_43 ?_
        refine fV_iload_n hF dX3_reservationFor_46 rfl rfl ?_
        refine fV_icmp_ne (tgt := 62) hF dX3_reservationFor_47 (by decide) (fun c16 => ?_) (fun c16 => ?_)
        · have h := h.1 c16
          refine fV_iinc (v := 1) hF (fun y => [some (aR (some o)), some (aI p1), some (aI p2), some (aI p3), some (aI y), some (aR r7)]) dX3_reservationFor_62 rfl (by decide) (by rw [hxn]; decide) rfl (fun _ => rfl) (fun v17 ev17 => ?_)
          have h := h v17 ev17
          refine fV_goto (tgt := 3) hF dX3_reservationFor_65 (by decide) ?_
          refine fV.sub (l' := [some (aR (some o)), some (aI p1), some (aI p2), some (aI p3), some (aI v17), none]) ⟨rfl, ⟨rfl, ⟨rfl, ⟨rfl, ⟨rfl, trivial⟩⟩⟩⟩⟩ ?_
          exact ih v17 h
        · have h := h.2 c16
          refine fV_aload hF dX3_reservationFor_50 rfl ?_
          refine fV_getI (k := 2) (i := 2) hF fK2 e9 hA10 (by decide) fw_1037 (Or.inl rfl) rfl dX3_reservationFor_52 ?_
          refine fV_iload_n hF dX3_reservationFor_55 rfl rfl ?_
          refine fV_icmp_ne (tgt := 62) hF dX3_reservationFor_56 (by decide) (fun c18 => ?_) (fun c18 => ?_)
          · have h := h.1 c18
            refine fV_iinc (v := 1) hF (fun y => [some (aR (some o)), some (aI p1), some (aI p2), some (aI p3), some (aI y), some (aR r7)]) dX3_reservationFor_62 rfl (by decide) (by rw [hxn]; decide) rfl (fun _ => rfl) (fun v19 ev19 => ?_)
            have h := h v19 ev19
            refine fV_goto (tgt := 3) hF dX3_reservationFor_65 (by decide) ?_
            refine fV.sub (l' := [some (aR (some o)), some (aI p1), some (aI p2), some (aI p3), some (aI v19), none]) ⟨rfl, ⟨rfl, ⟨rfl, ⟨rfl, ⟨rfl, trivial⟩⟩⟩⟩⟩ ?_
            exact ih v19 h
          · have h := h.2 c18
            refine fV_aload hF dX3_reservationFor_59 rfl ?_
            exact fV_aret hF hE.s (by omega) hr (Or.inl ⟨_, rfl⟩) dX3_reservationFor_61 ⟨_, rfl, rfl, rfl, h⟩
set_option maxRecDepth 100000 in
set_option maxHeartbeats 4000000 in
theorem mc_X3_reservationFor {l : Launch} (hfl : l.stackTraces = false) {G : fG} {S : fMS} {n : Nat} {o : Nat} {p1 : Int32} {p2 : Int32} {p3 : Int32} {post : Option Nat → Prop} (h : wp_X3_reservationFor S o p1 p2 p3 post) : fCM l yX3_reservationFor (.code yX3_reservationFor cX3_reservationFor 6 (some (.object "FairquotaBroker$Reservation"))) 4 G [(aR (some o)), (aI p1), (aI p2), (aI p3)] S n (fPR (fun x S' n' => S = S' ∧ n = n' ∧ post x)) := by
  refine fCM_of hfl (by decide) (by intro v hv; simp only [List.mem_cons, List.not_mem_nil, or_false] at hv; rcases hv with rfl | rfl | rfl | rfl <;> rfl) (Nat.le_of_ble_eq_true rfl) (fun F hF hxn hl hG hr hin hE => ?_)
  subst hl hG
  have hlv : 4 ≤ 4 := Nat.le_refl _
  show fV F S n 0 [some (aR (some o)), some (aI p1), some (aI p2), some (aI p3), none, none] []
  unfold wp_X3_reservationFor at h
  refine fV_iconst (v := 0) hF dX3_reservationFor_0 (by decide) ?_
  refine fV_istore0 hF [some (aR (some o)), some (aI p1), some (aI p2), some (aI p3), some (aI (0 : Int32)), none] dX3_reservationFor_1 (by rw [hxn]; decide) rfl rfl ?_
  obtain ⟨f1, h⟩ := h
  refine fV.sub (l' := [some (aR (some o)), some (aI p1), some (aI p2), some (aI p3), some (aI (0 : Int32)), none]) ⟨rfl, ⟨rfl, ⟨rfl, ⟨rfl, ⟨rfl, trivial⟩⟩⟩⟩⟩ ?_
  exact mB_X3_reservationFor_3 hlv hF hxn hr hE  f1 (0 : Int32) h
set_option maxRecDepth 100000 in
set_option maxHeartbeats 4000000 in
theorem mB_X3_reserve_118 {F : fX} {lv : Nat} (hlv : 11 ≤ lv) (hF : fOk F cX3_reserve RX3 lv) (hxn : xn F = 7) (hr : (xM F).sig.returnType = (some .int)) (hex : ∀ x ∈ (xc F).exceptionTable.toList, False) {post : Int32 → fMS → Nat → Prop} {postX : String → fMS → Nat → Prop} {o : Nat} {p1 : Int32} {p2 : Int32} {p3 : Int32} {p4 : Int32} (hE : fEndX F lv (fPI post) postX) (S : fMS) (n : Nat) (x5 : Option Nat) (x6 : Option Nat) (h : wB_X3_reserve_118 post postX o p1 p2 p3 p4 S n x5 x6) : fV F S n 118 [some (aR (some o)), some (aI p1), some (aI p2), some (aI p3), some (aI p4), some (aR x5), some (aR x6)] [] := by
  unfold wB_X3_reserve_118 at h
  refine fV_aload hF dX3_reserve_118 rfl ?_
  refine fV_dup hF dX3_reserve_120 rfl ?_
  obtain ⟨a1, e2, hA3, h⟩ := h
  refine fV_getI (k := 2) (i := 3) hF fK2 e2 hA3 (by decide) fw_1039 (Or.inl rfl) rfl dX3_reserve_121 ?_
  refine fV_iload_n hF dX3_reserve_124 rfl rfl ?_
  refine fV_iadd hF dX3_reserve_125 ?_
  refine fV_putI (k := 2) (i := 3) hF fK2 tyX1_ok nmX1 e2 hA3 (by decide) rfl fw_1039 (Or.inl rfl) (Or.inl rfl) rfl rfl dX3_reserve_126 ?_
  refine fV_aload hF dX3_reserve_129 rfl ?_
  refine fV_iconst (v := 1) hF dX3_reserve_131 (by decide) ?_
  obtain ⟨a4, e5, hA6, h⟩ := h
  refine fV_putI (k := 3) (i := 5) hF fK3 tyX2_ok nmX2 e5 hA6 (by decide) rfl fw_85 (Or.inl rfl) (Or.inl rfl) (by decide) (by decide) dX3_reserve_132 ?_
  refine fV_aload_n hF dX3_reserve_135 rfl rfl ?_
  obtain ⟨hA7, h⟩ := h
  refine fV_callV (k := 4) (As := []) hF (mc_X3_serve hF.2.2.2.2.2.2.2.2.1 h) fK4 rfl hA7 (by omega) fw_773 fw_770 fw_772 fwp_27 fw_1 ⟨rfl, by decide, by decide, by decide +kernel⟩ (na := 0) rfl (by decide) (Nat.le_of_ble_eq_true rfl) dX3_reserve_136 rfl (fun rv S8 n9 hp => ?_)
  obtain ⟨rfl, h⟩ := hp
  refine fV_aload hF dX3_reserve_139 rfl ?_
  obtain ⟨hA10, h⟩ := h
  refine fV_getI (k := 2) (i := 3) hF fK2 e2 hA10 (by decide) fw_1039 (Or.inl rfl) rfl dX3_reserve_141 ?_
  exact fV_iret hF hE.s (by omega) hr rfl dX3_reserve_144 ⟨_, rfl, h⟩
set_option maxRecDepth 100000 in
set_option maxHeartbeats 4000000 in
theorem mB_X3_reserve_62 {F : fX} {lv : Nat} (hlv : 11 ≤ lv) (hF : fOk F cX3_reserve RX3 lv) (hxn : xn F = 7) (hr : (xM F).sig.returnType = (some .int)) (hex : ∀ x ∈ (xc F).exceptionTable.toList, False) {post : Int32 → fMS → Nat → Prop} {postX : String → fMS → Nat → Prop} {o : Nat} {p1 : Int32} {p2 : Int32} {p3 : Int32} {p4 : Int32} (hE : fEndX F lv (fPI post) postX) (S : fMS) (n : Nat) (x5 : Option Nat) (x6 : Option Nat) (h : wB_X3_reserve_62 post postX o p1 p2 p3 p4 S n x5 x6) : fV F S n 62 [some (aR (some o)), some (aI p1), some (aI p2), some (aI p3), some (aI p4), some (aR x5), some (aR x6)] [] := by
  unfold wB_X3_reserve_62 at h
  refine fV_aload hF dX3_reserve_62 rfl ?_
  refine fV_callSX (As := [(aR x5)]) hF (mc_X3_requireLeaf hF.2.2.2.2.2.2.2.2.1 h) hE hex (by omega) fw_860 fw_858 fw_859 fw_1 ⟨by decide, by decide, by decide +kernel⟩ (na := 1) rfl (by decide) (Nat.le_of_ble_eq_true rfl) dX3_reserve_64 rfl (fun rv S9 n9 hp => ?_)
  obtain ⟨rfl, rfl, rfl, h⟩ := hp
  refine fV_aload hF dX3_reserve_67 rfl ?_
  refine fV_ifnonnull (tgt := 118) hF dX3_reserve_69 (by decide) (fun c1 => ?_) (fun c1 => ?_)
  · have h := h.1 c1
    refine fV.sub (l' := [some (aR (some o)), some (aI p1), some (aI p2), some (aI p3), some (aI p4), some (aR x5), some (aR x6)]) ⟨rfl, ⟨rfl, ⟨rfl, ⟨rfl, ⟨rfl, ⟨rfl, ⟨rfl, trivial⟩⟩⟩⟩⟩⟩⟩ ?_
    exact mB_X3_reserve_118 hlv hF hxn hr hex hE  S n x5 x6 h
  · have h := h.2 c1
    refine fV_aload_n hF dX3_reserve_72 rfl rfl ?_
    obtain ⟨hA2, h⟩ := h
    refine fV_getR (k := 4) (i := 4) hF fK4 rfl hA2 (by decide) fw_196 (Or.inl rfl) rfl dX3_reserve_73 ?_
    obtain ⟨a3, e4, hA5, h⟩ := h
    refine fV_callV (k := 6) (As := []) hF (mc_Jx4a65c_size_8abf5 hF.2.2.2.2.2.2.2.2.1 h) fK6 e4 hA5 (by omega) fw_233 fw_230 fw_231 fw_232 fw_4 ⟨rfl, by decide, by decide, by decide +kernel⟩ (na := 0) rfl (by decide) (Nat.le_of_ble_eq_true rfl) dX3_reserve_76 rfl (fun rv S9 n9 hp => ?_)
    obtain ⟨v6, rfl, rfl, rfl, h⟩ := hp
    refine fV_bipush (v := 8) hF dX3_reserve_79 (by decide) ?_
    refine fV_icmp_lt (tgt := 94) hF dX3_reserve_81 (by decide) (fun c7 => ?_) (fun c7 => ?_)
    · have h := h.1 c7
      obtain ⟨hn8, h⟩ := h
      refine fV_new (k := 2) hF fK2 tyX1_ok fDef2 (by omega) fw_302 fw_1027 fw_30 hn8 dX3_reserve_94 (fun q9 hq10 hqe11 => ?_)
      have h := h q9 hq10 hqe11
      refine fV_dup hF dX3_reserve_97 rfl ?_
      refine fV_aload hF dX3_reserve_98 rfl ?_
      refine fV_iload_n hF dX3_reserve_100 rfl rfl ?_
      refine fV_iload hF dX3_reserve_101 rfl ?_
      refine fV_callI (As := [(aR x5), (aI p3), (aI p4)]) hF (mc_X1_init hF.2.2.2.2.2.2.2.2.1 h) rfl (by omega) fw_1030 fw_1028 fw_1029 fw_30 ⟨by decide, by decide, by decide +kernel⟩ (na := 3) rfl rfl (by decide) (Nat.le_of_ble_eq_true rfl) dX3_reserve_103 rfl (fun rv S12 n13 hp => ?_)
      obtain ⟨rfl, h⟩ := hp
      refine fV_astore0 hF [some (aR (some o)), some (aI p1), some (aI p2), some (aI p3), some (aI p4), some (aR x5), some (aR (some q9))] dX3_reserve_106 (by rw [hxn]; decide) rfl rfl ?_
      refine fV_aload_n hF dX3_reserve_108 rfl rfl ?_
      obtain ⟨hA14, h⟩ := h
      refine fV_getR (k := 4) (i := 4) hF fK4 rfl hA14 (by decide) fw_196 (Or.inl rfl) rfl dX3_reserve_109 ?_
      refine fV_aload hF dX3_reserve_112 rfl ?_
      obtain ⟨a15, e16, hA17, h⟩ := h
      refine fV_callV (k := 6) (As := [(aR (some q9))]) hF (mc_Jx4a65c_add_9ea2d hF.2.2.2.2.2.2.2.2.1 h) fK6 e16 hA17 (by omega) fw_133 fw_130 fw_131 fw_132 fw_4 ⟨rfl, by decide, by decide, by decide +kernel⟩ (na := 1) rfl (by decide) (Nat.le_of_ble_eq_true rfl) dX3_reserve_114 rfl (fun rv S19 n20 hp => ?_)
      obtain ⟨v18, rfl, h⟩ := hp
      refine fV_pop hF dX3_reserve_117 rfl ?_
      refine fV.sub (l' := [some (aR (some o)), some (aI p1), some (aI p2), some (aI p3), some (aI p4), some (aR x5), some (aR (some q9))]) ⟨rfl, ⟨rfl, ⟨rfl, ⟨rfl, ⟨rfl, ⟨rfl, ⟨rfl, trivial⟩⟩⟩⟩⟩⟩⟩ ?_
      exact mB_X3_reserve_118 hlv hF hxn hr hex hE  S19 n20 x5 (some q9) h
    · have h := h.2 c7
      exact fV_throw (text := "too many reservations") hF hE hex h.1 h.2 (by omega) (Nat.le_of_ble_eq_true rfl) rfl fw_754 fw_20 (by decide) vxw_77 (by decide) dX3_reserve_84 dX3_reserve_87 dX3_reserve_88 dX3_reserve_90 dX3_reserve_93
set_option maxRecDepth 100000 in
set_option maxHeartbeats 4000000 in
theorem mc_X3_reserve {l : Launch} (hfl : l.stackTraces = false) {G : fG} {S : fMS} {n : Nat} {o : Nat} {p1 : Int32} {p2 : Int32} {p3 : Int32} {p4 : Int32} {post : Int32 → fMS → Nat → Prop} {postX : String → fMS → Nat → Prop} (h : wp_X3_reserve S n o p1 p2 p3 p4 post postX) : fCX l yX3_reserve (.code yX3_reserve cX3_reserve 7 (some .int)) 11 G [(aR (some o)), (aI p1), (aI p2), (aI p3), (aI p4)] S n (fPI post) postX := by
  refine fCX_of hfl (by decide) (by intro v hv; simp only [List.mem_cons, List.not_mem_nil, or_false] at hv; rcases hv with rfl | rfl | rfl | rfl | rfl <;> rfl) (Nat.le_of_ble_eq_true rfl) (fun F hF hxn hl hG hr hin hex hE => ?_)
  subst hl hG
  have hlv : 11 ≤ 11 := Nat.le_refl _
  show fV F S n 0 [some (aR (some o)), some (aI p1), some (aI p2), some (aI p3), some (aI p4), none, none] []
  unfold wp_X3_reserve at h
  refine fV_aload_n hF dX3_reserve_0 rfl rfl ?_
  refine fV_iload_n hF dX3_reserve_1 rfl rfl ?_
  obtain ⟨hA1, h⟩ := h
  refine fV_callVX (k := 4) (As := [(aI p1)]) hF (mc_X3_teamAt hF.2.2.2.2.2.2.2.2.1 h) hE hex fK4 rfl hA1 (by omega) fw_744 fw_741 fw_743 fwp_26 fw_1 ⟨rfl, by decide, by decide, by decide +kernel⟩ (na := 1) rfl (by decide) (Nat.le_of_ble_eq_true rfl) dX3_reserve_2 rfl (fun rv S9 n9 hp => ?_)
  obtain ⟨r2, rfl, rfl, rfl, h⟩ := hp
  refine fV_astore0 hF [some (aR (some o)), some (aI p1), some (aI p2), some (aI p3), some (aI p4), some (aR r2), none] dX3_reserve_5 (by rw [hxn]; decide) rfl rfl ?_
  refine fV_iload_n hF dX3_reserve_7 rfl rfl ?_
  refine fV_iconst (v := 1) hF dX3_reserve_8 (by decide) ?_
  refine fV_bipush (v := 60) hF dX3_reserve_9 (by decide) ?_
  refine fV_callSX (As := [(aI p2), (aI (1 : Int32)), (aI (60 : Int32))]) hF (mc_X3_requireRange hF.2.2.2.2.2.2.2.2.1 h) hE hex (by omega) fw_750 fw_748 fw_749 fw_1 ⟨by decide, by decide, by decide +kernel⟩ (na := 3) rfl (by decide) (Nat.le_of_ble_eq_true rfl) dX3_reserve_11 rfl (fun rv S9 n9 hp => ?_)
  obtain ⟨rfl, rfl, rfl, h⟩ := hp
  refine fV_iload_n hF dX3_reserve_14 rfl rfl ?_
  refine fV_iconst (v := 0) hF dX3_reserve_15 (by decide) ?_
  refine fV_sipush (v := 9999) hF dX3_reserve_16 (by decide) ?_
  refine fV_callSX (As := [(aI p3), (aI (0 : Int32)), (aI (9999 : Int32))]) hF (mc_X3_requireRange hF.2.2.2.2.2.2.2.2.1 h) hE hex (by omega) fw_750 fw_748 fw_749 fw_1 ⟨by decide, by decide, by decide +kernel⟩ (na := 3) rfl (by decide) (Nat.le_of_ble_eq_true rfl) dX3_reserve_19 rfl (fun rv S9 n9 hp => ?_)
  obtain ⟨rfl, rfl, rfl, h⟩ := hp
  refine fV_iload hF dX3_reserve_22 rfl ?_
  refine fV_iload_n hF dX3_reserve_24 rfl rfl ?_
  refine fV_iconst (v := 1) hF dX3_reserve_25 (by decide) ?_
  refine fV_iadd hF dX3_reserve_26 ?_
  refine fV_sipush (v := 9999) hF dX3_reserve_27 (by decide) ?_
  refine fV_callSX (As := [(aI p4), (aI (p3 + (1 : Int32))), (aI (9999 : Int32))]) hF (mc_X3_requireRange hF.2.2.2.2.2.2.2.2.1 h) hE hex (by omega) fw_750 fw_748 fw_749 fw_1 ⟨by decide, by decide, by decide +kernel⟩ (na := 3) rfl (by decide) (Nat.le_of_ble_eq_true rfl) dX3_reserve_30 rfl (fun rv S9 n9 hp => ?_)
  obtain ⟨rfl, rfl, rfl, h⟩ := hp
  refine fV_aload_n hF dX3_reserve_33 rfl rfl ?_
  refine fV_iload_n hF dX3_reserve_34 rfl rfl ?_
  refine fV_iload_n hF dX3_reserve_35 rfl rfl ?_
  refine fV_iload hF dX3_reserve_36 rfl ?_
  refine fV_callV (k := 4) (As := [(aI p1), (aI p3), (aI p4)]) hF (mc_X3_reservationFor hF.2.2.2.2.2.2.2.2.1 h) fK4 rfl hA1 (by omega) fw_1025 fw_1022 fw_1024 fwp_39 fw_1 ⟨rfl, by decide, by decide, by decide +kernel⟩ (na := 3) rfl (by decide) (Nat.le_of_ble_eq_true rfl) dX3_reserve_38 rfl (fun rv S9 n9 hp => ?_)
  obtain ⟨r3, rfl, rfl, rfl, h⟩ := hp
  refine fV_astore0 hF [some (aR (some o)), some (aI p1), some (aI p2), some (aI p3), some (aI p4), some (aR r2), some (aR r3)] dX3_reserve_41 (by rw [hxn]; decide) rfl rfl ?_
  refine fV_aload hF dX3_reserve_43 rfl ?_
  refine fV_ifnull (tgt := 62) hF dX3_reserve_45 (by decide) (fun c4 => ?_) (fun c4 => ?_)
  · have h := h.1 c4
    refine fV.sub (l' := [some (aR (some o)), some (aI p1), some (aI p2), some (aI p3), some (aI p4), some (aR r2), some (aR r3)]) ⟨rfl, ⟨rfl, ⟨rfl, ⟨rfl, ⟨rfl, ⟨rfl, ⟨rfl, trivial⟩⟩⟩⟩⟩⟩⟩ ?_
    exact mB_X3_reserve_62 hlv hF hxn hr hex hE  S n r2 r3 h
  · have h := h.2 c4
    refine fV_aload hF dX3_reserve_48 rfl ?_
    obtain ⟨a5, e6, hA7, h⟩ := h
    refine fV_getI (k := 2) (i := 3) hF fK2 e6 hA7 (by decide) fw_1039 (Or.inl rfl) rfl dX3_reserve_50 ?_
    refine fV_iload_n hF dX3_reserve_53 rfl rfl ?_
    refine fV_iadd hF dX3_reserve_54 ?_
    refine fV_iconst (v := 1) hF dX3_reserve_55 (by decide) ?_
    refine fV_sipush (v := 200) hF dX3_reserve_56 (by decide) ?_
    refine fV_callSX (As := [(aI ((sI S a5 3) + p2)), (aI (1 : Int32)), (aI (200 : Int32))]) hF (mc_X3_requireRange hF.2.2.2.2.2.2.2.2.1 h) hE hex (by omega) fw_750 fw_748 fw_749 fw_1 ⟨by decide, by decide, by decide +kernel⟩ (na := 3) rfl (by decide) (Nat.le_of_ble_eq_true rfl) dX3_reserve_59 rfl (fun rv S9 n9 hp => ?_)
    obtain ⟨rfl, rfl, rfl, h⟩ := hp
    refine fV.sub (l' := [some (aR (some o)), some (aI p1), some (aI p2), some (aI p3), some (aI p4), some (aR r2), some (aR r3)]) ⟨rfl, ⟨rfl, ⟨rfl, ⟨rfl, ⟨rfl, ⟨rfl, ⟨rfl, trivial⟩⟩⟩⟩⟩⟩⟩ ?_
    exact mB_X3_reserve_62 hlv hF hxn hr hex hE  S n r2 r3 h
set_option maxRecDepth 100000 in
set_option maxHeartbeats 4000000 in
theorem mB_X3_forgetReservation_10 {F : fX} {lv : Nat} (hlv : 4 ≤ lv) (hF : fOk F cX3_forgetReservation RX3 lv) (hxn : xn F = 3) (hr : (xM F).sig.returnType = none) {post : fMS → Nat → Prop} {o : Nat} {p1 : Option Nat} (hE : fEnd F lv (fPV post)) : ∀ (f : Nat) (S : fMS) (n : Nat) (x2 : Int32) (h : wB_X3_forgetReservation_10 post o p1 f S n x2), fV F S n 10 [some (aR (some o)), some (aR p1), some (aI x2)] [] := by
  intro f
  induction f with
  | zero => intro _ _ _ h; exact h.elim
  | succ f ih =>
    intro S n x2 h
    simp only [wB_X3_forgetReservation_10] at h
    refine fV_iload_n hF dX3_forgetReservation_10 rfl rfl ?_
    refine fV_if_lt (tgt := 41) hF dX3_forgetReservation_11 (by decide) (fun c1 => ?_) (fun c1 => ?_)
    · have h := h.1 c1
      exact fV_vret hF hE.s (by omega) hr dX3_forgetReservation_41 ⟨rfl, h⟩
    · have h := h.2 c1
      refine fV_aload_n hF dX3_forgetReservation_14 rfl rfl ?_
      obtain ⟨hA2, h⟩ := h
      refine fV_getR (k := 4) (i := 4) hF fK4 rfl hA2 (by decide) fw_196 (Or.inl rfl) rfl dX3_forgetReservation_15 ?_
      refine fV_iload_n hF dX3_forgetReservation_18 rfl rfl ?_
      obtain ⟨a3, e4, hA5, h⟩ := h
      refine fV_callV (k := 6) (As := [(aI x2)]) hF (mc_Jx4a65c_get_915e3 hF.2.2.2.2.2.2.2.2.1 h) fK6 e4 hA5 (by omega) fw_257 fw_254 fw_255 fw_256 fw_4 ⟨rfl, by decide, by decide, by decide +kernel⟩ (na := 1) rfl (by decide) (Nat.le_of_ble_eq_true rfl) dX3_forgetReservation_19 rfl (fun rv S9 n9 hp => ?_)
      obtain ⟨r6, rfl, rfl, rfl, h⟩ := hp
      refine fV_aload_n hF dX3_forgetReservation_22 rfl rfl ?_
      refine fV_acmp_ne (tgt := 35) hF dX3_forgetReservation_23 (by decide) (fun c7 => ?_) (fun c7 => ?_)
      · have h := h.1 c7
        refine fV_iinc (v := -1) hF (fun y => [some (aR (some o)), some (aR p1), some (aI y)]) dX3_forgetReservation_35 rfl (by decide) (by rw [hxn]; decide) rfl (fun _ => rfl) (fun v8 ev8 => ?_)
        have h := h v8 ev8
        refine fV_goto (tgt := 10) hF dX3_forgetReservation_38 (by decide) ?_
        refine fV.sub (l' := [some (aR (some o)), some (aR p1), some (aI v8)]) ⟨rfl, ⟨rfl, ⟨rfl, trivial⟩⟩⟩ ?_
        exact ih S n v8 h
      · have h := h.2 c7
        refine fV_aload_n hF dX3_forgetReservation_26 rfl rfl ?_
        refine fV_getR (k := 4) (i := 4) hF fK4 rfl hA2 (by decide) fw_196 (Or.inl rfl) rfl dX3_forgetReservation_27 ?_
        refine fV_iload_n hF dX3_forgetReservation_30 rfl rfl ?_
        refine fV_callV (k := 6) (As := [(aI x2)]) hF (mc_Jx4a65c_remove_915e3 hF.2.2.2.2.2.2.2.2.1 h) fK6 e4 hA5 (by omega) fw_953 fw_950 fw_951 fw_952 fw_4 ⟨rfl, by decide, by decide, by decide +kernel⟩ (na := 1) rfl (by decide) (Nat.le_of_ble_eq_true rfl) dX3_forgetReservation_31 rfl (fun rv S10 n11 hp => ?_)
        obtain ⟨r9, rfl, h⟩ := hp
        refine fV_pop hF dX3_forgetReservation_34 rfl ?_
        refine fV_iinc (v := -1) hF (fun y => [some (aR (some o)), some (aR p1), some (aI y)]) dX3_forgetReservation_35 rfl (by decide) (by rw [hxn]; decide) rfl (fun _ => rfl) (fun v12 ev12 => ?_)
        have h := h v12 ev12
        refine fV_goto (tgt := 10) hF dX3_forgetReservation_38 (by decide) ?_
        refine fV.sub (l' := [some (aR (some o)), some (aR p1), some (aI v12)]) ⟨rfl, ⟨rfl, ⟨rfl, trivial⟩⟩⟩ ?_
        exact ih S10 n11 v12 h
set_option maxRecDepth 100000 in
set_option maxHeartbeats 4000000 in
theorem mc_X3_forgetReservation {l : Launch} (hfl : l.stackTraces = false) {G : fG} {S : fMS} {n : Nat} {o : Nat} {p1 : Option Nat} {post : fMS → Nat → Prop} (h : wp_X3_forgetReservation S n o p1 post) : fCM l yX3_forgetReservation (.code yX3_forgetReservation cX3_forgetReservation 3 none) 4 G [(aR (some o)), (aR p1)] S n (fPV post) := by
  refine fCM_of hfl (by decide) (by intro v hv; simp only [List.mem_cons, List.not_mem_nil, or_false] at hv; rcases hv with rfl | rfl <;> rfl) (Nat.le_of_ble_eq_true rfl) (fun F hF hxn hl hG hr hin hE => ?_)
  subst hl hG
  have hlv : 4 ≤ 4 := Nat.le_refl _
  show fV F S n 0 [some (aR (some o)), some (aR p1), none] []
  unfold wp_X3_forgetReservation at h
  refine fV_aload_n hF dX3_forgetReservation_0 rfl rfl ?_
  obtain ⟨hA1, h⟩ := h
  refine fV_getR (k := 4) (i := 4) hF fK4 rfl hA1 (by decide) fw_196 (Or.inl rfl) rfl dX3_forgetReservation_1 ?_
  obtain ⟨a2, e3, hA4, h⟩ := h
  refine fV_callV (k := 6) (As := []) hF (mc_Jx4a65c_size_8abf5 hF.2.2.2.2.2.2.2.2.1 h) fK6 e3 hA4 (by omega) fw_233 fw_230 fw_231 fw_232 fw_4 ⟨rfl, by decide, by decide, by decide +kernel⟩ (na := 0) rfl (by decide) (Nat.le_of_ble_eq_true rfl) dX3_forgetReservation_4 rfl (fun rv S9 n9 hp => ?_)
  obtain ⟨v5, rfl, rfl, rfl, h⟩ := hp
  refine fV_iconst (v := 1) hF dX3_forgetReservation_7 (by decide) ?_
  refine fV_isub hF dX3_forgetReservation_8 ?_
  refine fV_istore_n hF (fun y => [some (aR (some o)), some (aR p1), some (aI y)]) dX3_forgetReservation_9 rfl (by rw [hxn]; decide) rfl (fun _ => rfl) (fun v6 ev6 => ?_)
  have h := h v6 ev6
  obtain ⟨f1, h⟩ := h
  refine fV.sub (l' := [some (aR (some o)), some (aR p1), some (aI v6)]) ⟨rfl, ⟨rfl, ⟨rfl, trivial⟩⟩⟩ ?_
  exact mB_X3_forgetReservation_10 hlv hF hxn hr hE  f1 S n v6 h
set_option maxRecDepth 100000 in
set_option maxHeartbeats 4000000 in
theorem mc_X3_drop {l : Launch} (hfl : l.stackTraces = false) {G : fG} {S : fMS} {n : Nat} {o : Nat} {p1 : Int32} {p2 : Int32} {p3 : Int32} {post : Int32 → fMS → Nat → Prop} {postX : String → fMS → Nat → Prop} (h : wp_X3_drop S n o p1 p2 p3 post postX) : fCX l yX3_drop (.code yX3_drop cX3_drop 5 (some .int)) 11 G [(aR (some o)), (aI p1), (aI p2), (aI p3)] S n (fPI post) postX := by
  refine fCX_of hfl (by decide) (by intro v hv; simp only [List.mem_cons, List.not_mem_nil, or_false] at hv; rcases hv with rfl | rfl | rfl | rfl <;> rfl) (Nat.le_of_ble_eq_true rfl) (fun F hF hxn hl hG hr hin hex hE => ?_)
  subst hl hG
  have hlv : 11 ≤ 11 := Nat.le_refl _
  show fV F S n 0 [some (aR (some o)), some (aI p1), some (aI p2), some (aI p3), none] []
  unfold wp_X3_drop at h
  refine fV_aload_n hF dX3_drop_0 rfl rfl ?_
  refine fV_iload_n hF dX3_drop_1 rfl rfl ?_
  refine fV_iload_n hF dX3_drop_2 rfl rfl ?_
  refine fV_iload_n hF dX3_drop_3 rfl rfl ?_
  obtain ⟨hA1, h⟩ := h
  refine fV_callV (k := 4) (As := [(aI p1), (aI p2), (aI p3)]) hF (mc_X3_reservationFor hF.2.2.2.2.2.2.2.2.1 h) fK4 rfl hA1 (by omega) fw_1025 fw_1022 fw_1024 fwp_39 fw_1 ⟨rfl, by decide, by decide, by decide +kernel⟩ (na := 3) rfl (by decide) (Nat.le_of_ble_eq_true rfl) dX3_drop_4 rfl (fun rv S9 n9 hp => ?_)
  obtain ⟨r2, rfl, rfl, rfl, h⟩ := hp
  refine fV_astore0 hF [some (aR (some o)), some (aI p1), some (aI p2), some (aI p3), some (aR r2)] dX3_drop_7 (by rw [hxn]; decide) rfl rfl ?_
  refine fV_aload hF dX3_drop_9 rfl ?_
  refine fV_ifnonnull (tgt := 24) hF dX3_drop_11 (by decide) (fun c3 => ?_) (fun c3 => ?_)
  · have h := h.1 c3
    refine fV_aload_n hF dX3_drop_24 rfl rfl ?_
    refine fV_aload hF dX3_drop_25 rfl ?_
    refine fV_callV (k := 4) (As := [(aR r2)]) hF (mc_X3_forgetReservation hF.2.2.2.2.2.2.2.2.1 h) fK4 rfl hA1 (by omega) fw_1060 fw_1057 fw_1059 fwp_40 fw_1 ⟨rfl, by decide, by decide, by decide +kernel⟩ (na := 1) rfl (by decide) (Nat.le_of_ble_eq_true rfl) dX3_drop_27 rfl (fun rv S4 n5 hp => ?_)
    obtain ⟨rfl, h⟩ := hp
    refine fV_aload_n hF dX3_drop_30 rfl rfl ?_
    obtain ⟨hA6, h⟩ := h
    refine fV_callV (k := 4) (As := []) hF (mc_X3_serve hF.2.2.2.2.2.2.2.2.1 h) fK4 rfl hA6 (by omega) fw_773 fw_770 fw_772 fwp_27 fw_1 ⟨rfl, by decide, by decide, by decide +kernel⟩ (na := 0) rfl (by decide) (Nat.le_of_ble_eq_true rfl) dX3_drop_31 rfl (fun rv S7 n8 hp => ?_)
    obtain ⟨rfl, h⟩ := hp
    refine fV_aload hF dX3_drop_34 rfl ?_
    obtain ⟨a9, e10, hA11, h⟩ := h
    refine fV_getI (k := 2) (i := 3) hF fK2 e10 hA11 (by decide) fw_1039 (Or.inl rfl) rfl dX3_drop_36 ?_
    exact fV_iret hF hE.s (by omega) hr rfl dX3_drop_39 ⟨_, rfl, h⟩
  · have h := h.2 c3
    exact fV_throwN (text := "no such reservation") hF hE hex h.1 h.2 (by omega) (Nat.le_of_ble_eq_true rfl) rfl (by decide) dX3_drop_14 dX3_drop_17 dX3_drop_18 dX3_drop_20 dX3_drop_23
set_option maxRecDepth 100000 in
set_option maxHeartbeats 4000000 in
theorem mc_X3_reserved {l : Launch} (hfl : l.stackTraces = false) {G : fG} {S : fMS} {n : Nat} {o : Nat} {p1 : Int32} {post : Int32 → fMS → Nat → Prop} {postX : String → fMS → Nat → Prop} (h : wp_X3_reserved S n o p1 post postX) : fCX l yX3_reserved (.code yX3_reserved cX3_reserved 3 (some .int)) 6 G [(aR (some o)), (aI p1)] S n (fPI post) postX := by
  refine fCX_of hfl (by decide) (by intro v hv; simp only [List.mem_cons, List.not_mem_nil, or_false] at hv; rcases hv with rfl | rfl <;> rfl) (Nat.le_of_ble_eq_true rfl) (fun F hF hxn hl hG hr hin hex hE => ?_)
  subst hl hG
  have hlv : 6 ≤ 6 := Nat.le_refl _
  show fV F S n 0 [some (aR (some o)), some (aI p1), none] []
  unfold wp_X3_reserved at h
  refine fV_aload_n hF dX3_reserved_0 rfl rfl ?_
  refine fV_iload_n hF dX3_reserved_1 rfl rfl ?_
  obtain ⟨hA1, h⟩ := h
  refine fV_callVX (k := 4) (As := [(aI p1)]) hF (mc_X3_leafAt hF.2.2.2.2.2.2.2.2.1 h) hE hex fK4 rfl hA1 (by omega) fw_1005 fw_1002 fw_1004 fwp_38 fw_1 ⟨rfl, by decide, by decide, by decide +kernel⟩ (na := 1) rfl (by decide) (Nat.le_of_ble_eq_true rfl) dX3_reserved_2 rfl (fun rv S9 n9 hp => ?_)
  obtain ⟨r2, rfl, rfl, rfl, h⟩ := hp
  refine fV_astore_n0 hF [some (aR (some o)), some (aI p1), some (aR r2)] dX3_reserved_5 rfl (by rw [hxn]; decide) rfl rfl ?_
  refine fV_aload_n hF dX3_reserved_6 rfl rfl ?_
  refine fV_callV (k := 4) (As := []) hF (mc_X3_reckonHeldUnits hF.2.2.2.2.2.2.2.2.1 h) fK4 rfl hA1 (by omega) fw_301 fw_298 fw_300 fwp_9 fw_1 ⟨rfl, by decide, by decide, by decide +kernel⟩ (na := 0) rfl (by decide) (Nat.le_of_ble_eq_true rfl) dX3_reserved_7 rfl (fun rv S3 n4 hp => ?_)
  obtain ⟨rfl, h⟩ := hp
  refine fV_aload_n hF dX3_reserved_10 rfl rfl ?_
  obtain ⟨a5, e6, hA7, h⟩ := h
  refine fV_getI (k := 3) (i := 11) hF fK3 e6 hA7 (by decide) fw_97 (Or.inl rfl) rfl dX3_reserved_11 ?_
  exact fV_iret hF hE.s (by omega) hr rfl dX3_reserved_14 ⟨_, rfl, h⟩
set_option maxRecDepth 100000 in
set_option maxHeartbeats 4000000 in
theorem mc_X3_running {l : Launch} (hfl : l.stackTraces = false) {G : fG} {S : fMS} {n : Nat} {o : Nat} {p1 : Int32} {post : Int32 → Prop} {postX : String → fMS → Nat → Prop} (h : wp_X3_running S n o p1 post postX) : fCX l yX3_running (.code yX3_running cX3_running 2 (some .int)) 5 G [(aR (some o)), (aI p1)] S n (fPI (fun x S' n' => S = S' ∧ n = n' ∧ post x)) postX := by
  refine fCX_of hfl (by decide) (by intro v hv; simp only [List.mem_cons, List.not_mem_nil, or_false] at hv; rcases hv with rfl | rfl <;> rfl) (Nat.le_of_ble_eq_true rfl) (fun F hF hxn hl hG hr hin hex hE => ?_)
  subst hl hG
  have hlv : 5 ≤ 5 := Nat.le_refl _
  show fV F S n 0 [some (aR (some o)), some (aI p1)] []
  unfold wp_X3_running at h
  refine fV_aload_n hF dX3_running_0 rfl rfl ?_
  refine fV_iload_n hF dX3_running_1 rfl rfl ?_
  obtain ⟨hA1, h⟩ := h
  refine fV_callVX (k := 4) (As := [(aI p1)]) hF (mc_X3_teamAt hF.2.2.2.2.2.2.2.2.1 h) hE hex fK4 rfl hA1 (by omega) fw_744 fw_741 fw_743 fwp_26 fw_1 ⟨rfl, by decide, by decide, by decide +kernel⟩ (na := 1) rfl (by decide) (Nat.le_of_ble_eq_true rfl) dX3_running_2 rfl (fun rv S9 n9 hp => ?_)
  obtain ⟨r2, rfl, rfl, rfl, h⟩ := hp
  obtain ⟨a3, e4, hA5, h⟩ := h
  refine fV_getI (k := 3) (i := 6) hF fK3 e4 hA5 (by decide) fw_87 (Or.inl rfl) rfl dX3_running_5 ?_
  exact fV_iret hF hE.s (by omega) hr rfl dX3_running_8 ⟨_, rfl, rfl, rfl, h⟩
set_option maxRecDepth 100000 in
set_option maxHeartbeats 4000000 in
theorem mc_X3_demand {l : Launch} (hfl : l.stackTraces = false) {G : fG} {S : fMS} {n : Nat} {o : Nat} {p1 : Int32} {post : Int32 → fMS → Nat → Prop} {postX : String → fMS → Nat → Prop} (h : wp_X3_demand S n o p1 post postX) : fCX l yX3_demand (.code yX3_demand cX3_demand 3 (some .int)) 5 G [(aR (some o)), (aI p1)] S n (fPI post) postX := by
  refine fCX_of hfl (by decide) (by intro v hv; simp only [List.mem_cons, List.not_mem_nil, or_false] at hv; rcases hv with rfl | rfl <;> rfl) (Nat.le_of_ble_eq_true rfl) (fun F hF hxn hl hG hr hin hex hE => ?_)
  subst hl hG
  have hlv : 5 ≤ 5 := Nat.le_refl _
  show fV F S n 0 [some (aR (some o)), some (aI p1), none] []
  unfold wp_X3_demand at h
  refine fV_aload_n hF dX3_demand_0 rfl rfl ?_
  refine fV_iload_n hF dX3_demand_1 rfl rfl ?_
  obtain ⟨hA1, h⟩ := h
  refine fV_callVX (k := 4) (As := [(aI p1)]) hF (mc_X3_teamAt hF.2.2.2.2.2.2.2.2.1 h) hE hex fK4 rfl hA1 (by omega) fw_744 fw_741 fw_743 fwp_26 fw_1 ⟨rfl, by decide, by decide, by decide +kernel⟩ (na := 1) rfl (by decide) (Nat.le_of_ble_eq_true rfl) dX3_demand_2 rfl (fun rv S9 n9 hp => ?_)
  obtain ⟨r2, rfl, rfl, rfl, h⟩ := hp
  refine fV_astore_n0 hF [some (aR (some o)), some (aI p1), some (aR r2)] dX3_demand_5 rfl (by rw [hxn]; decide) rfl rfl ?_
  refine fV_aload_n hF dX3_demand_6 rfl rfl ?_
  refine fV_callV (k := 4) (As := []) hF (mc_X3_reckonDemands hF.2.2.2.2.2.2.2.2.1 h) fK4 rfl hA1 (by omega) fw_253 fw_250 fw_252 fwp_4 fw_1 ⟨rfl, by decide, by decide, by decide +kernel⟩ (na := 0) rfl (by decide) (Nat.le_of_ble_eq_true rfl) dX3_demand_7 rfl (fun rv S3 n4 hp => ?_)
  obtain ⟨rfl, h⟩ := hp
  refine fV_aload_n hF dX3_demand_10 rfl rfl ?_
  obtain ⟨a5, e6, hA7, h⟩ := h
  refine fV_getI (k := 3) (i := 8) hF fK3 e6 hA7 (by decide) fw_91 (Or.inl rfl) rfl dX3_demand_11 ?_
  exact fV_iret hF hE.s (by omega) hr rfl dX3_demand_14 ⟨_, rfl, h⟩
set_option maxRecDepth 100000 in
set_option maxHeartbeats 4000000 in
theorem mc_X3_share {l : Launch} (hfl : l.stackTraces = false) {G : fG} {S : fMS} {n : Nat} {o : Nat} {p1 : Int32} {post : Int32 → fMS → Nat → Prop} {postX : String → fMS → Nat → Prop} (h : wp_X3_share S n o p1 post postX) : fCX l yX3_share (.code yX3_share cX3_share 3 (some .int)) 8 G [(aR (some o)), (aI p1)] S n (fPI post) postX := by
  refine fCX_of hfl (by decide) (by intro v hv; simp only [List.mem_cons, List.not_mem_nil, or_false] at hv; rcases hv with rfl | rfl <;> rfl) (Nat.le_of_ble_eq_true rfl) (fun F hF hxn hl hG hr hin hex hE => ?_)
  subst hl hG
  have hlv : 8 ≤ 8 := Nat.le_refl _
  show fV F S n 0 [some (aR (some o)), some (aI p1), none] []
  unfold wp_X3_share at h
  refine fV_aload_n hF dX3_share_0 rfl rfl ?_
  refine fV_iload_n hF dX3_share_1 rfl rfl ?_
  obtain ⟨hA1, h⟩ := h
  refine fV_callVX (k := 4) (As := [(aI p1)]) hF (mc_X3_teamAt hF.2.2.2.2.2.2.2.2.1 h) hE hex fK4 rfl hA1 (by omega) fw_744 fw_741 fw_743 fwp_26 fw_1 ⟨rfl, by decide, by decide, by decide +kernel⟩ (na := 1) rfl (by decide) (Nat.le_of_ble_eq_true rfl) dX3_share_2 rfl (fun rv S9 n9 hp => ?_)
  obtain ⟨r2, rfl, rfl, rfl, h⟩ := hp
  refine fV_astore_n0 hF [some (aR (some o)), some (aI p1), some (aR r2)] dX3_share_5 rfl (by rw [hxn]; decide) rfl rfl ?_
  refine fV_aload_n hF dX3_share_6 rfl rfl ?_
  refine fV_callV (k := 4) (As := []) hF (mc_X3_reckonDemands hF.2.2.2.2.2.2.2.2.1 h) fK4 rfl hA1 (by omega) fw_253 fw_250 fw_252 fwp_4 fw_1 ⟨rfl, by decide, by decide, by decide +kernel⟩ (na := 0) rfl (by decide) (Nat.le_of_ble_eq_true rfl) dX3_share_7 rfl (fun rv S3 n4 hp => ?_)
  obtain ⟨rfl, h⟩ := hp
  refine fV_aload_n hF dX3_share_10 rfl rfl ?_
  obtain ⟨hA5, h⟩ := h
  refine fV_callV (k := 4) (As := []) hF (mc_X3_dealShares hF.2.2.2.2.2.2.2.2.1 h) fK4 rfl hA5 (by omega) fw_277 fw_274 fw_276 fwp_5 fw_1 ⟨rfl, by decide, by decide, by decide +kernel⟩ (na := 0) rfl (by decide) (Nat.le_of_ble_eq_true rfl) dX3_share_11 rfl (fun rv S6 n7 hp => ?_)
  obtain ⟨rfl, h⟩ := hp
  refine fV_aload_n hF dX3_share_14 rfl rfl ?_
  obtain ⟨a8, e9, hA10, h⟩ := h
  refine fV_getI (k := 3) (i := 9) hF fK3 e9 hA10 (by decide) fw_93 (Or.inl rfl) rfl dX3_share_15 ?_
  exact fV_iret hF hE.s (by omega) hr rfl dX3_share_18 ⟨_, rfl, h⟩
set_option maxRecDepth 100000 in
set_option maxHeartbeats 4000000 in
theorem mB_X3_fillShares_13 {F : fX} {lv : Nat} (hlv : 7 ≤ lv) (hF : fOk F cX3_fillShares RX3 lv) (hxn : xn F = 2) (hr : (xM F).sig.returnType = none) {post : fMS → Nat → Prop} {o : Nat} (hE : fEnd F lv (fPV post)) : ∀ (f : Nat) (S : fMS) (n : Nat) (x1 : Int32) (h : wB_X3_fillShares_13 post o f S n x1), fV F S n 13 [some (aR (some o)), some (aI x1)] [] := by
  intro f
  induction f with
  | zero => intro _ _ _ h; exact h.elim
  | succ f ih =>
    intro S n x1 h
    simp only [wB_X3_fillShares_13] at h
    refine fV_iload_n hF dX3_fillShares_13 rfl rfl ?_
    refine fV_aload_n hF dX3_fillShares_14 rfl rfl ?_
    obtain ⟨hA1, h⟩ := h
    refine fV_getR (k := 4) (i := 0) hF fK4 rfl hA1 (by decide) fw_192 (Or.inl rfl) rfl dX3_fillShares_15 ?_
    obtain ⟨a2, e3, hA4, h⟩ := h
    refine fV_callV (k := 6) (As := []) hF (mc_Jx4a65c_size_8abf5 hF.2.2.2.2.2.2.2.2.1 h) fK6 e3 hA4 (by omega) fw_233 fw_230 fw_231 fw_232 fw_4 ⟨rfl, by decide, by decide, by decide +kernel⟩ (na := 0) rfl (by decide) (Nat.le_of_ble_eq_true rfl) dX3_fillShares_18 rfl (fun rv S9 n9 hp => ?_)
    obtain ⟨v5, rfl, rfl, rfl, h⟩ := hp
    refine fV_icmp_ge (tgt := 44) hF dX3_fillShares_21 (by decide) (fun c6 => ?_) (fun c6 => ?_)
    · have h := h.1 c6
      exact fV_vret hF hE.s (by omega) hr dX3_fillShares_44 ⟨rfl, h⟩
    · have h := h.2 c6
      refine fV_aload_n hF dX3_fillShares_24 rfl rfl ?_
      refine fV_getR (k := 4) (i := 0) hF fK4 rfl hA1 (by decide) fw_192 (Or.inl rfl) rfl dX3_fillShares_25 ?_
      refine fV_iload_n hF dX3_fillShares_28 rfl rfl ?_
      refine fV_callV (k := 6) (As := [(aI x1)]) hF (mc_Jx4a65c_get_915e3 hF.2.2.2.2.2.2.2.2.1 h) fK6 e3 hA4 (by omega) fw_257 fw_254 fw_255 fw_256 fw_4 ⟨rfl, by decide, by decide, by decide +kernel⟩ (na := 1) rfl (by decide) (Nat.le_of_ble_eq_true rfl) dX3_fillShares_29 rfl (fun rv S9 n9 hp => ?_)
      obtain ⟨r7, rfl, rfl, rfl, h⟩ := hp
      obtain ⟨a8, e9, hA10, h⟩ := h
      refine fV_castK (k := 3) hF fK3 e9 hA10 fw_66 dX3_fillShares_32 ?_
      refine fV_callV (k := 3) (As := []) hF (mc_X2_fillChildren hF.2.2.2.2.2.2.2.2.1 h) fK3 e9 hA10 (by omega) fw_311 fw_308 fw_309 fw_310 fw_5 ⟨rfl, by decide, by decide, by decide +kernel⟩ (na := 0) rfl (by decide) (Nat.le_of_ble_eq_true rfl) dX3_fillShares_35 rfl (fun rv S11 n12 hp => ?_)
      obtain ⟨rfl, h⟩ := hp
      refine fV_iinc (v := 1) hF (fun y => [some (aR (some o)), some (aI y)]) dX3_fillShares_38 rfl (by decide) (by rw [hxn]; decide) rfl (fun _ => rfl) (fun v13 ev13 => ?_)
      have h := h v13 ev13
      refine fV_goto (tgt := 13) hF dX3_fillShares_41 (by decide) ?_
      refine fV.sub (l' := [some (aR (some o)), some (aI v13)]) ⟨rfl, ⟨rfl, trivial⟩⟩ ?_
      exact ih S11 n12 v13 h
set_option maxRecDepth 100000 in
set_option maxHeartbeats 4000000 in
theorem mc_X3_fillShares {l : Launch} (hfl : l.stackTraces = false) {G : fG} {S : fMS} {n : Nat} {o : Nat} {post : fMS → Nat → Prop} (h : wp_X3_fillShares S n o post) : fCM l yX3_fillShares (.code yX3_fillShares cX3_fillShares 2 none) 7 G [(aR (some o))] S n (fPV post) := by
  refine fCM_of hfl (by decide) (by intro v hv; simp only [List.mem_cons, List.not_mem_nil, or_false] at hv; rcases hv with rfl <;> rfl) (Nat.le_of_ble_eq_true rfl) (fun F hF hxn hl hG hr hin hE => ?_)
  subst hl hG
  have hlv : 7 ≤ 7 := Nat.le_refl _
  show fV F S n 0 [some (aR (some o)), none] []
  unfold wp_X3_fillShares at h
  refine fV_aload_n hF dX3_fillShares_0 rfl rfl ?_
  obtain ⟨hA1, h⟩ := h
  refine fV_getR (k := 4) (i := 1) hF fK4 rfl hA1 (by decide) fw_193 (Or.inl rfl) rfl dX3_fillShares_1 ?_
  refine fV_aload_n hF dX3_fillShares_4 rfl rfl ?_
  refine fV_callV (k := 4) (As := []) hF (mc_X3_rootShare hF.2.2.2.2.2.2.2.2.1 h) fK4 rfl hA1 (by omega) fw_281 fw_278 fw_280 fwp_6 fw_1 ⟨rfl, by decide, by decide, by decide +kernel⟩ (na := 0) rfl (by decide) (Nat.le_of_ble_eq_true rfl) dX3_fillShares_5 rfl (fun rv S9 n9 hp => ?_)
  obtain ⟨v2, rfl, rfl, rfl, h⟩ := hp
  obtain ⟨a3, e4, hA5, h⟩ := h
  refine fV_putI (k := 3) (i := 10) hF fK3 tyX2_ok nmX2 e4 hA5 (by decide) rfl fw_95 (Or.inl rfl) (Or.inl rfl) rfl rfl dX3_fillShares_8 ?_
  refine fV_iconst (v := 0) hF dX3_fillShares_11 (by decide) ?_
  refine fV_istore_n0 hF [some (aR (some o)), some (aI (0 : Int32))] dX3_fillShares_12 rfl (by rw [hxn]; decide) rfl rfl ?_
  obtain ⟨f1, h⟩ := h
  refine fV.sub (l' := [some (aR (some o)), some (aI (0 : Int32))]) ⟨rfl, ⟨rfl, trivial⟩⟩ ?_
  exact mB_X3_fillShares_13 hlv hF hxn hr hE  f1 (wI S a3 10 v2) n (0 : Int32) h
set_option maxRecDepth 100000 in
set_option maxHeartbeats 4000000 in
theorem mc_X3_shareByLevels {l : Launch} (hfl : l.stackTraces = false) {G : fG} {S : fMS} {n : Nat} {o : Nat} {p1 : Int32} {post : Int32 → fMS → Nat → Prop} {postX : String → fMS → Nat → Prop} (h : wp_X3_shareByLevels S n o p1 post postX) : fCX l yX3_shareByLevels (.code yX3_shareByLevels cX3_shareByLevels 3 (some .int)) 8 G [(aR (some o)), (aI p1)] S n (fPI post) postX := by
  refine fCX_of hfl (by decide) (by intro v hv; simp only [List.mem_cons, List.not_mem_nil, or_false] at hv; rcases hv with rfl | rfl <;> rfl) (Nat.le_of_ble_eq_true rfl) (fun F hF hxn hl hG hr hin hex hE => ?_)
  subst hl hG
  have hlv : 8 ≤ 8 := Nat.le_refl _
  show fV F S n 0 [some (aR (some o)), some (aI p1), none] []
  unfold wp_X3_shareByLevels at h
  refine fV_aload_n hF dX3_shareByLevels_0 rfl rfl ?_
  refine fV_iload_n hF dX3_shareByLevels_1 rfl rfl ?_
  obtain ⟨hA1, h⟩ := h
  refine fV_callVX (k := 4) (As := [(aI p1)]) hF (mc_X3_teamAt hF.2.2.2.2.2.2.2.2.1 h) hE hex fK4 rfl hA1 (by omega) fw_744 fw_741 fw_743 fwp_26 fw_1 ⟨rfl, by decide, by decide, by decide +kernel⟩ (na := 1) rfl (by decide) (Nat.le_of_ble_eq_true rfl) dX3_shareByLevels_2 rfl (fun rv S9 n9 hp => ?_)
  obtain ⟨r2, rfl, rfl, rfl, h⟩ := hp
  refine fV_astore_n0 hF [some (aR (some o)), some (aI p1), some (aR r2)] dX3_shareByLevels_5 rfl (by rw [hxn]; decide) rfl rfl ?_
  refine fV_aload_n hF dX3_shareByLevels_6 rfl rfl ?_
  refine fV_callV (k := 4) (As := []) hF (mc_X3_reckonDemands hF.2.2.2.2.2.2.2.2.1 h) fK4 rfl hA1 (by omega) fw_253 fw_250 fw_252 fwp_4 fw_1 ⟨rfl, by decide, by decide, by decide +kernel⟩ (na := 0) rfl (by decide) (Nat.le_of_ble_eq_true rfl) dX3_shareByLevels_7 rfl (fun rv S3 n4 hp => ?_)
  obtain ⟨rfl, h⟩ := hp
  refine fV_aload_n hF dX3_shareByLevels_10 rfl rfl ?_
  obtain ⟨hA5, h⟩ := h
  refine fV_callV (k := 4) (As := []) hF (mc_X3_fillShares hF.2.2.2.2.2.2.2.2.1 h) fK4 rfl hA5 (by omega) fw_307 fw_304 fw_306 fwp_10 fw_1 ⟨rfl, by decide, by decide, by decide +kernel⟩ (na := 0) rfl (by decide) (Nat.le_of_ble_eq_true rfl) dX3_shareByLevels_11 rfl (fun rv S6 n7 hp => ?_)
  obtain ⟨rfl, h⟩ := hp
  refine fV_aload_n hF dX3_shareByLevels_14 rfl rfl ?_
  obtain ⟨a8, e9, hA10, h⟩ := h
  refine fV_getI (k := 3) (i := 10) hF fK3 e9 hA10 (by decide) fw_95 (Or.inl rfl) rfl dX3_shareByLevels_15 ?_
  exact fV_iret hF hE.s (by omega) hr rfl dX3_shareByLevels_18 ⟨_, rfl, h⟩
set_option maxRecDepth 100000 in
set_option maxHeartbeats 4000000 in
theorem mc_X3_due {l : Launch} (hfl : l.stackTraces = false) {G : fG} {S : fMS} {n : Nat} {o : Nat} {p1 : Int32} {post : Int32 → fMS → Nat → Prop} {postX : String → fMS → Nat → Prop} (h : wp_X3_due S n o p1 post postX) : fCX l yX3_due (.code yX3_due cX3_due 3 (some .int)) 9 G [(aR (some o)), (aI p1)] S n (fPI post) postX := by
  refine fCX_of hfl (by decide) (by intro v hv; simp only [List.mem_cons, List.not_mem_nil, or_false] at hv; rcases hv with rfl | rfl <;> rfl) (Nat.le_of_ble_eq_true rfl) (fun F hF hxn hl hG hr hin hex hE => ?_)
  subst hl hG
  have hlv : 9 ≤ 9 := Nat.le_refl _
  show fV F S n 0 [some (aR (some o)), some (aI p1), none] []
  unfold wp_X3_due at h
  refine fV_aload_n hF dX3_due_0 rfl rfl ?_
  refine fV_iload_n hF dX3_due_1 rfl rfl ?_
  obtain ⟨hA1, h⟩ := h
  refine fV_callVX (k := 4) (As := [(aI p1)]) hF (mc_X3_leafAt hF.2.2.2.2.2.2.2.2.1 h) hE hex fK4 rfl hA1 (by omega) fw_1005 fw_1002 fw_1004 fwp_38 fw_1 ⟨rfl, by decide, by decide, by decide +kernel⟩ (na := 1) rfl (by decide) (Nat.le_of_ble_eq_true rfl) dX3_due_2 rfl (fun rv S9 n9 hp => ?_)
  obtain ⟨r2, rfl, rfl, rfl, h⟩ := hp
  refine fV_astore_n0 hF [some (aR (some o)), some (aI p1), some (aR r2)] dX3_due_5 rfl (by rw [hxn]; decide) rfl rfl ?_
  refine fV_aload_n hF dX3_due_6 rfl rfl ?_
  refine fV_callV (k := 4) (As := []) hF (mc_X3_reckonDues hF.2.2.2.2.2.2.2.2.1 h) fK4 rfl hA1 (by omega) fw_249 fw_246 fw_248 fwp_3 fw_1 ⟨rfl, by decide, by decide, by decide +kernel⟩ (na := 0) rfl (by decide) (Nat.le_of_ble_eq_true rfl) dX3_due_7 rfl (fun rv S3 n4 hp => ?_)
  obtain ⟨rfl, h⟩ := hp
  refine fV_aload_n hF dX3_due_10 rfl rfl ?_
  obtain ⟨a5, e6, hA7, h⟩ := h
  refine fV_getI (k := 3) (i := 12) hF fK3 e6 hA7 (by decide) fw_99 (Or.inl rfl) rfl dX3_due_11 ?_
  exact fV_iret hF hE.s (by omega) hr rfl dX3_due_14 ⟨_, rfl, h⟩
set_option maxRecDepth 100000 in
set_option maxHeartbeats 4000000 in
theorem mc_X3_freeFor {l : Launch} (hfl : l.stackTraces = false) {G : fG} {S : fMS} {n : Nat} {o : Nat} {p1 : Int32} {post : Int32 → fMS → Nat → Prop} {postX : String → fMS → Nat → Prop} (h : wp_X3_freeFor S n o p1 post postX) : fCX l yX3_freeFor (.code yX3_freeFor cX3_freeFor 3 (some .int)) 6 G [(aR (some o)), (aI p1)] S n (fPI post) postX := by
  refine fCX_of hfl (by decide) (by intro v hv; simp only [List.mem_cons, List.not_mem_nil, or_false] at hv; rcases hv with rfl | rfl <;> rfl) (Nat.le_of_ble_eq_true rfl) (fun F hF hxn hl hG hr hin hex hE => ?_)
  subst hl hG
  have hlv : 6 ≤ 6 := Nat.le_refl _
  show fV F S n 0 [some (aR (some o)), some (aI p1), none] []
  unfold wp_X3_freeFor at h
  refine fV_aload_n hF dX3_freeFor_0 rfl rfl ?_
  refine fV_iload_n hF dX3_freeFor_1 rfl rfl ?_
  obtain ⟨hA1, h⟩ := h
  refine fV_callVX (k := 4) (As := [(aI p1)]) hF (mc_X3_leafAt hF.2.2.2.2.2.2.2.2.1 h) hE hex fK4 rfl hA1 (by omega) fw_1005 fw_1002 fw_1004 fwp_38 fw_1 ⟨rfl, by decide, by decide, by decide +kernel⟩ (na := 1) rfl (by decide) (Nat.le_of_ble_eq_true rfl) dX3_freeFor_2 rfl (fun rv S9 n9 hp => ?_)
  obtain ⟨r2, rfl, rfl, rfl, h⟩ := hp
  refine fV_astore_n0 hF [some (aR (some o)), some (aI p1), some (aR r2)] dX3_freeFor_5 rfl (by rw [hxn]; decide) rfl rfl ?_
  refine fV_aload_n hF dX3_freeFor_6 rfl rfl ?_
  refine fV_callV (k := 4) (As := []) hF (mc_X3_reckonHeldUnits hF.2.2.2.2.2.2.2.2.1 h) fK4 rfl hA1 (by omega) fw_301 fw_298 fw_300 fwp_9 fw_1 ⟨rfl, by decide, by decide, by decide +kernel⟩ (na := 0) rfl (by decide) (Nat.le_of_ble_eq_true rfl) dX3_freeFor_7 rfl (fun rv S3 n4 hp => ?_)
  obtain ⟨rfl, h⟩ := hp
  refine fV_aload_n hF dX3_freeFor_10 rfl rfl ?_
  refine fV_aload_n hF dX3_freeFor_11 rfl rfl ?_
  obtain ⟨hA5, h⟩ := h
  refine fV_callV (k := 4) (As := [(aR r2)]) hF (mc_X3_freeUnits hF.2.2.2.2.2.2.2.2.1 h) fK4 rfl hA5 (by omega) fw_695 fw_692 fw_694 fwp_23 fw_1 ⟨rfl, by decide, by decide, by decide +kernel⟩ (na := 1) rfl (by decide) (Nat.le_of_ble_eq_true rfl) dX3_freeFor_12 rfl (fun rv S9 n9 hp => ?_)
  obtain ⟨v6, rfl, rfl, rfl, h⟩ := hp
  exact fV_iret hF hE.s (by omega) hr rfl dX3_freeFor_15 ⟨_, rfl, h⟩
set_option maxRecDepth 100000 in
set_option maxHeartbeats 4000000 in
theorem mc_X3_use {l : Launch} (hfl : l.stackTraces = false) {G : fG} {S : fMS} {n : Nat} {o : Nat} {p1 : Int32} {post : Int64 → Prop} {postX : String → fMS → Nat → Prop} (h : wp_X3_use S n o p1 post postX) : fCX l yX3_use (.code yX3_use cX3_use 2 (some .long)) 6 G [(aR (some o)), (aI p1)] S n (fPJ (fun x S' n' => S = S' ∧ n = n' ∧ post x)) postX := by
  refine fCX_of hfl (by decide) (by intro v hv; simp only [List.mem_cons, List.not_mem_nil, or_false] at hv; rcases hv with rfl | rfl <;> rfl) (Nat.le_of_ble_eq_true rfl) (fun F hF hxn hl hG hr hin hex hE => ?_)
  subst hl hG
  have hlv : 6 ≤ 6 := Nat.le_refl _
  show fV F S n 0 [some (aR (some o)), some (aI p1)] []
  unfold wp_X3_use at h
  refine fV_aload_n hF dX3_use_0 rfl rfl ?_
  refine fV_iload_n hF dX3_use_1 rfl rfl ?_
  obtain ⟨hA1, h⟩ := h
  refine fV_callVX (k := 4) (As := [(aI p1)]) hF (mc_X3_leafAt hF.2.2.2.2.2.2.2.2.1 h) hE hex fK4 rfl hA1 (by omega) fw_1005 fw_1002 fw_1004 fwp_38 fw_1 ⟨rfl, by decide, by decide, by decide +kernel⟩ (na := 1) rfl (by decide) (Nat.le_of_ble_eq_true rfl) dX3_use_2 rfl (fun rv S9 n9 hp => ?_)
  obtain ⟨r2, rfl, rfl, rfl, h⟩ := hp
  obtain ⟨a3, e4, hA5, h⟩ := h
  refine fV_getJ (k := 3) (i := 7) hF fK3 e4 hA5 (by decide) fw_89 (Or.inl rfl) rfl dX3_use_5 ?_
  exact fV_lret hF hE.s (by omega) hr dX3_use_8 ⟨_, rfl, rfl, rfl, h⟩
set_option maxRecDepth 100000 in
set_option maxHeartbeats 4000000 in
theorem mc_X3_usedShare {l : Launch} (hfl : l.stackTraces = false) {G : fG} {S : fMS} {n : Nat} {o : Nat} {post : UInt32 → Prop} {postX : String → fMS → Nat → Prop} (h : wp_X3_usedShare S n o post postX) : fCX l yX3_usedShare (.code yX3_usedShare cX3_usedShare 1 (some .float)) 1 G [(aR (some o))] S n (fPF (fun x S' n' => S = S' ∧ n = n' ∧ post x)) postX := by
  refine fCX_of hfl (by decide) (by intro v hv; simp only [List.mem_cons, List.not_mem_nil, or_false] at hv; rcases hv with rfl <;> rfl) (Nat.le_of_ble_eq_true rfl) (fun F hF hxn hl hG hr hin hex hE => ?_)
  subst hl hG
  have hlv : 1 ≤ 1 := Nat.le_refl _
  show fV F S n 0 [some (aR (some o))] []
  unfold wp_X3_usedShare at h
  refine fV_aload_n hF dX3_usedShare_0 rfl rfl ?_
  obtain ⟨hA1, h⟩ := h
  refine fV_getI (k := 4) (i := 7) hF fK4 rfl hA1 (by decide) fw_199 (Or.inl rfl) rfl dX3_usedShare_1 ?_
  refine fV_if_ne (tgt := 17) hF dX3_usedShare_4 (by decide) (fun c2 => ?_) (fun c2 => ?_)
  · have h := h.1 c2
    refine fV_aload_n hF dX3_usedShare_17 rfl rfl ?_
    refine fV_getR (k := 4) (i := 1) hF fK4 rfl hA1 (by decide) fw_193 (Or.inl rfl) rfl dX3_usedShare_18 ?_
    obtain ⟨a3, e4, hA5, h⟩ := h
    refine fV_getI (k := 3) (i := 6) hF fK3 e4 hA5 (by decide) fw_87 (Or.inl rfl) rfl dX3_usedShare_21 ?_
    refine fV_i2f hF dX3_usedShare_24 ?_
    refine fV_aload_n hF dX3_usedShare_25 rfl rfl ?_
    refine fV_getI (k := 4) (i := 7) hF fK4 rfl hA1 (by decide) fw_199 (Or.inl rfl) rfl dX3_usedShare_26 ?_
    refine fV_i2f hF dX3_usedShare_29 ?_
    obtain ⟨hne6, h⟩ := h
    refine fV_fdiv hF dX3_usedShare_30 hne6 ?_
    exact fV_fret hF hE.s (by omega) hr dX3_usedShare_31 ⟨_, rfl, rfl, rfl, h⟩
  · have h := h.2 c2
    exact fV_throw (text := "the capacity is 0") hF hE hex h.1 h.2 (by omega) (Nat.le_of_ble_eq_true rfl) rfl fw_1138 fw_31 (by decide) vxw_238 (by decide) dX3_usedShare_7 dX3_usedShare_10 dX3_usedShare_11 dX3_usedShare_13 dX3_usedShare_16
set_option maxRecDepth 100000 in
set_option maxHeartbeats 4000000 in
theorem mB_X3_meanStops_6 {F : fX} {lv : Nat} (hlv : 4 ≤ lv) (hF : fOk F cX3_meanStops RX3 lv) (hxn : xn F = 5) (hr : (xM F).sig.returnType = (some .double)) (hex : ∀ x ∈ (xc F).exceptionTable.toList, False) {S : fMS} {n : Nat} {post : UInt64 → Prop} {postX : String → fMS → Nat → Prop} {o : Nat} (hE : fEndX F lv (fPD (fun x S' n' => S = S' ∧ n = n' ∧ post x)) postX) : ∀ (f : Nat) (x1 : Int32) (x2 : Int32) (x3 : Int32) (h : wB_X3_meanStops_6 S n post postX o f x1 x2 x3), fV F S n 6 [some (aR (some o)), some (aI x1), some (aI x2), some (aI x3), none] [] := by
  intro f
  induction f with
  | zero => intro _ _ _ h; exact h.elim
  | succ f ih =>
    intro x1 x2 x3 h
    simp only [wB_X3_meanStops_6] at h
    refine fV_iload_n hF dX3_meanStops_6 rfl rfl ?_
    refine fV_aload_n hF dX3_meanStops_7 rfl rfl ?_
    obtain ⟨hA1, h⟩ := h
    refine fV_getR (k := 4) (i := 2) hF fK4 rfl hA1 (by decide) fw_194 (Or.inl rfl) rfl dX3_meanStops_8 ?_
    obtain ⟨a2, e3, hA4, h⟩ := h
    refine fV_callV (k := 6) (As := []) hF (mc_Jx4a65c_size_8abf5 hF.2.2.2.2.2.2.2.2.1 h) fK6 e3 hA4 (by omega) fw_233 fw_230 fw_231 fw_232 fw_4 ⟨rfl, by decide, by decide, by decide +kernel⟩ (na := 0) rfl (by decide) (Nat.le_of_ble_eq_true rfl) dX3_meanStops_11 rfl (fun rv S9 n9 hp => ?_)
    obtain ⟨v5, rfl, rfl, rfl, h⟩ := hp
    refine fV_icmp_ge (tgt := 57) hF dX3_meanStops_14 (by decide) (fun c6 => ?_) (fun c6 => ?_)
    · have h := h.1 c6
      refine fV_iload_n hF dX3_meanStops_57 rfl rfl ?_
      refine fV_if_ne (tgt := 71) hF dX3_meanStops_58 (by decide) (fun c7 => ?_) (fun c7 => ?_)
      · have h := h.1 c7
        refine fV_iload_n hF dX3_meanStops_71 rfl rfl ?_
        refine fV_i2d hF dX3_meanStops_72 ?_
        refine fV_iload_n hF dX3_meanStops_73 rfl rfl ?_
        refine fV_i2d hF dX3_meanStops_74 ?_
        obtain ⟨hne8, h⟩ := h
        refine fV_ddiv hF dX3_meanStops_75 hne8 ?_
        exact fV_dret hF hE.s (by omega) hr dX3_meanStops_76 ⟨_, rfl, rfl, rfl, h⟩
      · have h := h.2 c7
        exact fV_throw (text := "no job has ended") hF hE hex h.1 h.2 (by omega) (Nat.le_of_ble_eq_true rfl) rfl fw_1138 fw_31 (by decide) vxw_238 (by decide) dX3_meanStops_61 dX3_meanStops_64 dX3_meanStops_65 dX3_meanStops_67 dX3_meanStops_70
    · have h := h.2 c6
      refine fV_aload_n hF dX3_meanStops_17 rfl rfl ?_
      refine fV_getR (k := 4) (i := 2) hF fK4 rfl hA1 (by decide) fw_194 (Or.inl rfl) rfl dX3_meanStops_18 ?_
      refine fV_iload_n hF dX3_meanStops_21 rfl rfl ?_
      refine fV_callV (k := 6) (As := [(aI x3)]) hF (mc_Jx4a65c_get_915e3 hF.2.2.2.2.2.2.2.2.1 h) fK6 e3 hA4 (by omega) fw_257 fw_254 fw_255 fw_256 fw_4 ⟨rfl, by decide, by decide, by decide +kernel⟩ (na := 1) rfl (by decide) (Nat.le_of_ble_eq_true rfl) dX3_meanStops_22 rfl (fun rv S9 n9 hp => ?_)
      obtain ⟨r9, rfl, rfl, rfl, h⟩ := hp
      obtain ⟨a10, e11, hA12, h⟩ := h
      refine fV_castK (k := 1) hF fK1 e11 hA12 fw_268 dX3_meanStops_25 ?_
      refine fV_astore0 hF [some (aR (some o)), some (aI x1), some (aI x2), some (aI x3), some (aR r9)] dX3_meanStops_28 (by rw [hxn]; decide) rfl rfl ?_
      refine fV_aload hF dX3_meanStops_30 rfl ?_
      refine fV_getI (k := 1) (i := 4) hF fK1 e11 hA12 (by decide) fw_885 (Or.inl rfl) rfl dX3_meanStops_32 ?_
      refine fV_bipush (v := 101) hF dX3_meanStops_35 (by decide) ?_
      refine fV_icmp_ne (tgt := 51) hF dX3_meanStops_37 (by decide) (fun c13 => ?_) (fun c13 => ?_)
      · have h := h.1 c13
        refine fV_iinc (v := 1) hF (fun y => [some (aR (some o)), some (aI x1), some (aI x2), some (aI y), some (aR r9)]) dX3_meanStops_51 rfl (by decide) (by rw [hxn]; decide) rfl (fun _ => rfl) (fun v14 ev14 => ?_)
        have h := h v14 ev14
        refine fV_goto (tgt := 6) hF dX3_meanStops_54 (by decide) ?_
        refine fV.sub (l' := [some (aR (some o)), some (aI x1), some (aI x2), some (aI v14), none]) ⟨rfl, ⟨rfl, ⟨rfl, ⟨rfl, trivial⟩⟩⟩⟩ ?_
        exact ih x1 x2 v14 h
      · have h := h.2 c13
        refine fV_iinc (v := 1) hF (fun y => [some (aR (some o)), some (aI y), some (aI x2), some (aI x3), some (aR r9)]) dX3_meanStops_40 rfl (by decide) (by rw [hxn]; decide) rfl (fun _ => rfl) (fun v15 ev15 => ?_)
        have h := h v15 ev15
        refine fV_iload_n hF dX3_meanStops_43 rfl rfl ?_
        refine fV_aload hF dX3_meanStops_44 rfl ?_
        refine fV_getI (k := 1) (i := 6) hF fK1 e11 hA12 (by decide) fw_889 (Or.inl rfl) rfl dX3_meanStops_46 ?_
        refine fV_iadd hF dX3_meanStops_49 ?_
        refine fV_istore_n hF (fun y => [some (aR (some o)), some (aI v15), some (aI y), some (aI x3), some (aR r9)]) dX3_meanStops_50 rfl (by rw [hxn]; decide) rfl (fun _ => rfl) (fun v16 ev16 => ?_)
        have h := h v16 ev16
        refine fV_iinc (v := 1) hF (fun y => [some (aR (some o)), some (aI v15), some (aI v16), some (aI y), some (aR r9)]) dX3_meanStops_51 rfl (by decide) (by rw [hxn]; decide) rfl (fun _ => rfl) (fun v17 ev17 => ?_)
        have h := h v17 ev17
        refine fV_goto (tgt := 6) hF dX3_meanStops_54 (by decide) ?_
        refine fV.sub (l' := [some (aR (some o)), some (aI v15), some (aI v16), some (aI v17), none]) ⟨rfl, ⟨rfl, ⟨rfl, ⟨rfl, trivial⟩⟩⟩⟩ ?_
        exact ih v15 v16 v17 h
set_option maxRecDepth 100000 in
set_option maxHeartbeats 4000000 in
theorem mc_X3_meanStops {l : Launch} (hfl : l.stackTraces = false) {G : fG} {S : fMS} {n : Nat} {o : Nat} {post : UInt64 → Prop} {postX : String → fMS → Nat → Prop} (h : wp_X3_meanStops S n o post postX) : fCX l yX3_meanStops (.code yX3_meanStops cX3_meanStops 5 (some .double)) 4 G [(aR (some o))] S n (fPD (fun x S' n' => S = S' ∧ n = n' ∧ post x)) postX := by
  refine fCX_of hfl (by decide) (by intro v hv; simp only [List.mem_cons, List.not_mem_nil, or_false] at hv; rcases hv with rfl <;> rfl) (Nat.le_of_ble_eq_true rfl) (fun F hF hxn hl hG hr hin hex hE => ?_)
  subst hl hG
  have hlv : 4 ≤ 4 := Nat.le_refl _
  show fV F S n 0 [some (aR (some o)), none, none, none, none] []
  unfold wp_X3_meanStops at h
  refine fV_iconst (v := 0) hF dX3_meanStops_0 (by decide) ?_
  refine fV_istore_n0 hF [some (aR (some o)), some (aI (0 : Int32)), none, none, none] dX3_meanStops_1 rfl (by rw [hxn]; decide) rfl rfl ?_
  refine fV_iconst (v := 0) hF dX3_meanStops_2 (by decide) ?_
  refine fV_istore_n0 hF [some (aR (some o)), some (aI (0 : Int32)), some (aI (0 : Int32)), none, none] dX3_meanStops_3 rfl (by rw [hxn]; decide) rfl rfl ?_
  refine fV_iconst (v := 0) hF dX3_meanStops_4 (by decide) ?_
  refine fV_istore_n0 hF [some (aR (some o)), some (aI (0 : Int32)), some (aI (0 : Int32)), some (aI (0 : Int32)), none] dX3_meanStops_5 rfl (by rw [hxn]; decide) rfl rfl ?_
  obtain ⟨f1, h⟩ := h
  refine fV.sub (l' := [some (aR (some o)), some (aI (0 : Int32)), some (aI (0 : Int32)), some (aI (0 : Int32)), none]) ⟨rfl, ⟨rfl, ⟨rfl, ⟨rfl, trivial⟩⟩⟩⟩ ?_
  exact mB_X3_meanStops_6 hlv hF hxn hr hex hE  f1 (0 : Int32) (0 : Int32) (0 : Int32) h
set_option maxRecDepth 100000 in
set_option maxHeartbeats 4000000 in
theorem mB_X3_sharesAreFair_2 {F : fX} {lv : Nat} (hlv : 5 ≤ lv) (hF : fOk F cX3_sharesAreFair RX3 lv) (hxn : xn F = 3) (hr : (xM F).sig.returnType = (some .boolean)) {S : fMS} {n : Nat} {post : Int32 → Prop} {o : Nat} (hE : fEnd F lv (fPI (fun x S' n' => S = S' ∧ n = n' ∧ post x))) : ∀ (f : Nat) (x1 : Int32) (h : wB_X3_sharesAreFair_2 S post o f x1), fV F S n 2 [some (aR (some o)), some (aI x1), none] [] := by
  intro f
  induction f with
  | zero => intro _ h; exact h.elim
  | succ f ih =>
    intro x1 h
    simp only [wB_X3_sharesAreFair_2] at h
    refine fV_iload_n hF dX3_sharesAreFair_2 rfl rfl ?_
    refine fV_aload_n hF dX3_sharesAreFair_3 rfl rfl ?_
    obtain ⟨hA1, h⟩ := h
    refine fV_getR (k := 4) (i := 0) hF fK4 rfl hA1 (by decide) fw_192 (Or.inl rfl) rfl dX3_sharesAreFair_4 ?_
    obtain ⟨a2, e3, hA4, h⟩ := h
    refine fV_callV (k := 6) (As := []) hF (mc_Jx4a65c_size_8abf5 hF.2.2.2.2.2.2.2.2.1 h) fK6 e3 hA4 (by omega) fw_233 fw_230 fw_231 fw_232 fw_4 ⟨rfl, by decide, by decide, by decide +kernel⟩ (na := 0) rfl (by decide) (Nat.le_of_ble_eq_true rfl) dX3_sharesAreFair_7 rfl (fun rv S9 n9 hp => ?_)
    obtain ⟨v5, rfl, rfl, rfl, h⟩ := hp
    refine fV_icmp_ge (tgt := 55) hF dX3_sharesAreFair_10 (by decide) (fun c6 => ?_) (fun c6 => ?_)
    · have h := h.1 c6
      refine fV_iconst (v := 1) hF dX3_sharesAreFair_55 (by decide) ?_
      exact fV_iret hF hE.s (by omega) hr (by decide) dX3_sharesAreFair_56 ⟨_, rfl, rfl, rfl, h⟩
    · have h := h.2 c6
      refine fV_aload_n hF dX3_sharesAreFair_13 rfl rfl ?_
      refine fV_getR (k := 4) (i := 0) hF fK4 rfl hA1 (by decide) fw_192 (Or.inl rfl) rfl dX3_sharesAreFair_14 ?_
      refine fV_iload_n hF dX3_sharesAreFair_17 rfl rfl ?_
      refine fV_callV (k := 6) (As := [(aI x1)]) hF (mc_Jx4a65c_get_915e3 hF.2.2.2.2.2.2.2.2.1 h) fK6 e3 hA4 (by omega) fw_257 fw_254 fw_255 fw_256 fw_4 ⟨rfl, by decide, by decide, by decide +kernel⟩ (na := 1) rfl (by decide) (Nat.le_of_ble_eq_true rfl) dX3_sharesAreFair_18 rfl (fun rv S9 n9 hp => ?_)
      obtain ⟨r7, rfl, rfl, rfl, h⟩ := hp
      obtain ⟨a8, e9, hA10, h⟩ := h
      refine fV_castK (k := 3) hF fK3 e9 hA10 fw_66 dX3_sharesAreFair_21 ?_
      refine fV_astore_n0 hF [some (aR (some o)), some (aI x1), some (aR r7)] dX3_sharesAreFair_24 rfl (by rw [hxn]; decide) rfl rfl ?_
      refine fV_aload_n hF dX3_sharesAreFair_25 rfl rfl ?_
      refine fV_getI (k := 3) (i := 9) hF fK3 e9 hA10 (by decide) fw_93 (Or.inl rfl) rfl dX3_sharesAreFair_26 ?_
      refine fV_aload_n hF dX3_sharesAreFair_29 rfl rfl ?_
      refine fV_getI (k := 3) (i := 10) hF fK3 e9 hA10 (by decide) fw_95 (Or.inl rfl) rfl dX3_sharesAreFair_30 ?_
      refine fV_icmp_ne (tgt := 47) hF dX3_sharesAreFair_33 (by decide) (fun c11 => ?_) (fun c11 => ?_)
      · have h := h.1 c11
        refine fV_iconst (v := 0) hF dX3_sharesAreFair_47 (by decide) ?_
        exact fV_iret hF hE.s (by omega) hr (by decide) dX3_sharesAreFair_48 ⟨_, rfl, rfl, rfl, h⟩
      · have h := h.2 c11
        refine fV_aload_n hF dX3_sharesAreFair_36 rfl rfl ?_
        refine fV_callV (k := 3) (As := []) hF (mc_X2_sharesOfChildren hF.2.2.2.2.2.2.2.2.1 h) fK3 e9 hA10 (by omega) fw_331 fw_328 fw_329 fw_330 fw_5 ⟨rfl, by decide, by decide, by decide +kernel⟩ (na := 0) rfl (by decide) (Nat.le_of_ble_eq_true rfl) dX3_sharesAreFair_37 rfl (fun rv S9 n9 hp => ?_)
        obtain ⟨v12, rfl, rfl, rfl, h⟩ := hp
        refine fV_aload_n hF dX3_sharesAreFair_40 rfl rfl ?_
        refine fV_getI (k := 3) (i := 9) hF fK3 e9 hA10 (by decide) fw_93 (Or.inl rfl) rfl dX3_sharesAreFair_41 ?_
        refine fV_icmp_le (tgt := 49) hF dX3_sharesAreFair_44 (by decide) (fun c13 => ?_) (fun c13 => ?_)
        · have h := h.1 c13
          refine fV_iinc (v := 1) hF (fun y => [some (aR (some o)), some (aI y), some (aR r7)]) dX3_sharesAreFair_49 rfl (by decide) (by rw [hxn]; decide) rfl (fun _ => rfl) (fun v14 ev14 => ?_)
          have h := h v14 ev14
          refine fV_goto (tgt := 2) hF dX3_sharesAreFair_52 (by decide) ?_
          refine fV.sub (l' := [some (aR (some o)), some (aI v14), none]) ⟨rfl, ⟨rfl, trivial⟩⟩ ?_
          exact ih v14 h
        · have h := h.2 c13
          refine fV_iconst (v := 0) hF dX3_sharesAreFair_47 (by decide) ?_
          exact fV_iret hF hE.s (by omega) hr (by decide) dX3_sharesAreFair_48 ⟨_, rfl, rfl, rfl, h⟩
set_option maxRecDepth 100000 in
set_option maxHeartbeats 4000000 in
theorem mc_X3_sharesAreFair {l : Launch} (hfl : l.stackTraces = false) {G : fG} {S : fMS} {n : Nat} {o : Nat} {post : Int32 → Prop} (h : wp_X3_sharesAreFair S o post) : fCM l yX3_sharesAreFair (.code yX3_sharesAreFair cX3_sharesAreFair 3 (some .boolean)) 5 G [(aR (some o))] S n (fPI (fun x S' n' => S = S' ∧ n = n' ∧ post x)) := by
  refine fCM_of hfl (by decide) (by intro v hv; simp only [List.mem_cons, List.not_mem_nil, or_false] at hv; rcases hv with rfl <;> rfl) (Nat.le_of_ble_eq_true rfl) (fun F hF hxn hl hG hr hin hE => ?_)
  subst hl hG
  have hlv : 5 ≤ 5 := Nat.le_refl _
  show fV F S n 0 [some (aR (some o)), none, none] []
  unfold wp_X3_sharesAreFair at h
  refine fV_iconst (v := 0) hF dX3_sharesAreFair_0 (by decide) ?_
  refine fV_istore_n0 hF [some (aR (some o)), some (aI (0 : Int32)), none] dX3_sharesAreFair_1 rfl (by rw [hxn]; decide) rfl rfl ?_
  obtain ⟨f1, h⟩ := h
  refine fV.sub (l' := [some (aR (some o)), some (aI (0 : Int32)), none]) ⟨rfl, ⟨rfl, trivial⟩⟩ ?_
  exact mB_X3_sharesAreFair_2 hlv hF hxn hr hE  f1 (0 : Int32) h
set_option maxRecDepth 100000 in
set_option maxHeartbeats 4000000 in
theorem mB_X3_someFirstJobCanBeServed_6 {F : fX} {lv : Nat} (hlv : 9 ≤ lv) (hF : fOk F cX3_someFirstJobCanBeServed RX3 lv) (hxn : xn F = 2) (hr : (xM F).sig.returnType = (some .boolean)) {post : Int32 → fMS → Nat → Prop} {o : Nat} (hE : fEnd F lv (fPI post)) : ∀ (f : Nat) (S : fMS) (n : Nat) (x1 : Int32) (h : wB_X3_someFirstJobCanBeServed_6 post o f S n x1), fV F S n 6 [some (aR (some o)), some (aI x1)] [] := by
  intro f
  induction f with
  | zero => intro _ _ _ h; exact h.elim
  | succ f ih =>
    intro S n x1 h
    simp only [wB_X3_someFirstJobCanBeServed_6] at h
    refine fV_iload_n hF dX3_someFirstJobCanBeServed_6 rfl rfl ?_
    refine fV_aload_n hF dX3_someFirstJobCanBeServed_7 rfl rfl ?_
    obtain ⟨hA1, h⟩ := h
    refine fV_getR (k := 4) (i := 5) hF fK4 rfl hA1 (by decide) fw_197 (Or.inl rfl) rfl dX3_someFirstJobCanBeServed_8 ?_
    obtain ⟨a2, e3, hA4, h⟩ := h
    refine fV_callV (k := 6) (As := []) hF (mc_Jx4a65c_size_8abf5 hF.2.2.2.2.2.2.2.2.1 h) fK6 e3 hA4 (by omega) fw_233 fw_230 fw_231 fw_232 fw_4 ⟨rfl, by decide, by decide, by decide +kernel⟩ (na := 0) rfl (by decide) (Nat.le_of_ble_eq_true rfl) dX3_someFirstJobCanBeServed_11 rfl (fun rv S9 n9 hp => ?_)
    obtain ⟨v5, rfl, rfl, rfl, h⟩ := hp
    refine fV_icmp_ge (tgt := 43) hF dX3_someFirstJobCanBeServed_14 (by decide) (fun c6 => ?_) (fun c6 => ?_)
    · have h := h.1 c6
      refine fV_iconst (v := 0) hF dX3_someFirstJobCanBeServed_43 (by decide) ?_
      exact fV_iret hF hE.s (by omega) hr (by decide) dX3_someFirstJobCanBeServed_44 ⟨_, rfl, h⟩
    · have h := h.2 c6
      refine fV_aload_n hF dX3_someFirstJobCanBeServed_17 rfl rfl ?_
      refine fV_aload_n hF dX3_someFirstJobCanBeServed_18 rfl rfl ?_
      refine fV_getR (k := 4) (i := 5) hF fK4 rfl hA1 (by decide) fw_197 (Or.inl rfl) rfl dX3_someFirstJobCanBeServed_19 ?_
      refine fV_iload_n hF dX3_someFirstJobCanBeServed_22 rfl rfl ?_
      refine fV_callV (k := 6) (As := [(aI x1)]) hF (mc_Jx4a65c_get_915e3 hF.2.2.2.2.2.2.2.2.1 h) fK6 e3 hA4 (by omega) fw_257 fw_254 fw_255 fw_256 fw_4 ⟨rfl, by decide, by decide, by decide +kernel⟩ (na := 1) rfl (by decide) (Nat.le_of_ble_eq_true rfl) dX3_someFirstJobCanBeServed_23 rfl (fun rv S9 n9 hp => ?_)
      obtain ⟨r7, rfl, rfl, rfl, h⟩ := hp
      obtain ⟨a8, e9, hA10, h⟩ := h
      refine fV_castK (k := 1) hF fK1 e9 hA10 fw_268 dX3_someFirstJobCanBeServed_26 ?_
      refine fV_callV (k := 4) (As := [(aR r7)]) hF (mc_X3_canStartOrReclaim hF.2.2.2.2.2.2.2.2.1 h) fK4 rfl hA1 (by omega) fw_687 fw_684 fw_686 fwp_22 fw_1 ⟨rfl, by decide, by decide, by decide +kernel⟩ (na := 1) rfl (by decide) (Nat.le_of_ble_eq_true rfl) dX3_someFirstJobCanBeServed_29 rfl (fun rv S12 n13 hp => ?_)
      obtain ⟨v11, rfl, h⟩ := hp
      refine fV_if_eq (tgt := 37) hF dX3_someFirstJobCanBeServed_32 (by decide) (fun c14 => ?_) (fun c14 => ?_)
      · have h := h.1 c14
        refine fV_iinc (v := 1) hF (fun y => [some (aR (some o)), some (aI y)]) dX3_someFirstJobCanBeServed_37 rfl (by decide) (by rw [hxn]; decide) rfl (fun _ => rfl) (fun v15 ev15 => ?_)
        have h := h v15 ev15
        refine fV_goto (tgt := 6) hF dX3_someFirstJobCanBeServed_40 (by decide) ?_
        refine fV.sub (l' := [some (aR (some o)), some (aI v15)]) ⟨rfl, ⟨rfl, trivial⟩⟩ ?_
        exact ih S12 n13 v15 h
      · have h := h.2 c14
        refine fV_iconst (v := 1) hF dX3_someFirstJobCanBeServed_35 (by decide) ?_
        exact fV_iret hF hE.s (by omega) hr (by decide) dX3_someFirstJobCanBeServed_36 ⟨_, rfl, h⟩
set_option maxRecDepth 100000 in
set_option maxHeartbeats 4000000 in
theorem mc_X3_someFirstJobCanBeServed {l : Launch} (hfl : l.stackTraces = false) {G : fG} {S : fMS} {n : Nat} {o : Nat} {post : Int32 → fMS → Nat → Prop} (h : wp_X3_someFirstJobCanBeServed S n o post) : fCM l yX3_someFirstJobCanBeServed (.code yX3_someFirstJobCanBeServed cX3_someFirstJobCanBeServed 2 (some .boolean)) 9 G [(aR (some o))] S n (fPI post) := by
  refine fCM_of hfl (by decide) (by intro v hv; simp only [List.mem_cons, List.not_mem_nil, or_false] at hv; rcases hv with rfl <;> rfl) (Nat.le_of_ble_eq_true rfl) (fun F hF hxn hl hG hr hin hE => ?_)
  subst hl hG
  have hlv : 9 ≤ 9 := Nat.le_refl _
  show fV F S n 0 [some (aR (some o)), none] []
  unfold wp_X3_someFirstJobCanBeServed at h
  refine fV_aload_n hF dX3_someFirstJobCanBeServed_0 rfl rfl ?_
  obtain ⟨hA1, h⟩ := h
  refine fV_callV (k := 4) (As := []) hF (mc_X3_formLine hF.2.2.2.2.2.2.2.2.1 h) fK4 rfl hA1 (by omega) fw_339 fw_336 fw_338 fwp_16 fw_1 ⟨rfl, by decide, by decide, by decide +kernel⟩ (na := 0) rfl (by decide) (Nat.le_of_ble_eq_true rfl) dX3_someFirstJobCanBeServed_1 rfl (fun rv S2 n3 hp => ?_)
  obtain ⟨rfl, h⟩ := hp
  refine fV_iconst (v := 0) hF dX3_someFirstJobCanBeServed_4 (by decide) ?_
  refine fV_istore_n0 hF [some (aR (some o)), some (aI (0 : Int32))] dX3_someFirstJobCanBeServed_5 rfl (by rw [hxn]; decide) rfl rfl ?_
  obtain ⟨f1, h⟩ := h
  refine fV.sub (l' := [some (aR (some o)), some (aI (0 : Int32))]) ⟨rfl, ⟨rfl, trivial⟩⟩ ?_
  exact mB_X3_someFirstJobCanBeServed_6 hlv hF hxn hr hE  f1 S2 n3 (0 : Int32) h
set_option maxRecDepth 100000 in
set_option maxHeartbeats 4000000 in
theorem mc_X3_isFair {l : Launch} (hfl : l.stackTraces = false) {G : fG} {S : fMS} {n : Nat} {o : Nat} {post : Int32 → fMS → Nat → Prop} (h : wp_X3_isFair S n o post) : fCM l yX3_isFair (.code yX3_isFair cX3_isFair 1 (some .boolean)) 10 G [(aR (some o))] S n (fPI post) := by
  refine fCM_of hfl (by decide) (by intro v hv; simp only [List.mem_cons, List.not_mem_nil, or_false] at hv; rcases hv with rfl <;> rfl) (Nat.le_of_ble_eq_true rfl) (fun F hF hxn hl hG hr hin hE => ?_)
  subst hl hG
  have hlv : 10 ≤ 10 := Nat.le_refl _
  show fV F S n 0 [some (aR (some o))] []
  unfold wp_X3_isFair at h
  refine fV_aload_n hF dX3_isFair_0 rfl rfl ?_
  obtain ⟨hA1, h⟩ := h
  refine fV_callV (k := 4) (As := []) hF (mc_X3_reckonDues hF.2.2.2.2.2.2.2.2.1 h) fK4 rfl hA1 (by omega) fw_249 fw_246 fw_248 fwp_3 fw_1 ⟨rfl, by decide, by decide, by decide +kernel⟩ (na := 0) rfl (by decide) (Nat.le_of_ble_eq_true rfl) dX3_isFair_1 rfl (fun rv S2 n3 hp => ?_)
  obtain ⟨rfl, h⟩ := hp
  refine fV_aload_n hF dX3_isFair_4 rfl rfl ?_
  obtain ⟨hA4, h⟩ := h
  refine fV_callV (k := 4) (As := []) hF (mc_X3_fillShares hF.2.2.2.2.2.2.2.2.1 h) fK4 rfl hA4 (by omega) fw_307 fw_304 fw_306 fwp_10 fw_1 ⟨rfl, by decide, by decide, by decide +kernel⟩ (na := 0) rfl (by decide) (Nat.le_of_ble_eq_true rfl) dX3_isFair_5 rfl (fun rv S5 n6 hp => ?_)
  obtain ⟨rfl, h⟩ := hp
  refine fV_aload_n hF dX3_isFair_8 rfl rfl ?_
  obtain ⟨hA7, h⟩ := h
  refine fV_getR (k := 4) (i := 1) hF fK4 rfl hA7 (by decide) fw_193 (Or.inl rfl) rfl dX3_isFair_9 ?_
  obtain ⟨a8, e9, hA10, h⟩ := h
  refine fV_getI (k := 3) (i := 6) hF fK3 e9 hA10 (by decide) fw_87 (Or.inl rfl) rfl dX3_isFair_12 ?_
  refine fV_aload_n hF dX3_isFair_15 rfl rfl ?_
  refine fV_getI (k := 4) (i := 7) hF fK4 rfl hA7 (by decide) fw_199 (Or.inl rfl) rfl dX3_isFair_16 ?_
  refine fV_icmp_gt (tgt := 40) hF dX3_isFair_19 (by decide) (fun c11 => ?_) (fun c11 => ?_)
  · have h := h.1 c11
    refine fV_iconst (v := 0) hF dX3_isFair_40 (by decide) ?_
    exact fV_iret hF hE.s (by omega) hr (by decide) dX3_isFair_41 ⟨_, rfl, h⟩
  · have h := h.2 c11
    refine fV_aload_n hF dX3_isFair_22 rfl rfl ?_
    refine fV_callV (k := 4) (As := []) hF (mc_X3_sharesAreFair hF.2.2.2.2.2.2.2.2.1 h) fK4 rfl hA7 (by omega) fw_327 fw_324 fw_326 fwp_14 fw_1 ⟨rfl, by decide, by decide, by decide +kernel⟩ (na := 0) rfl (by decide) (Nat.le_of_ble_eq_true rfl) dX3_isFair_23 rfl (fun rv S9 n9 hp => ?_)
    obtain ⟨v12, rfl, rfl, rfl, h⟩ := hp
    refine fV_if_eq (tgt := 40) hF dX3_isFair_26 (by decide) (fun c13 => ?_) (fun c13 => ?_)
    · have h := h.1 c13
      refine fV_iconst (v := 0) hF dX3_isFair_40 (by decide) ?_
      exact fV_iret hF hE.s (by omega) hr (by decide) dX3_isFair_41 ⟨_, rfl, h⟩
    · have h := h.2 c13
      refine fV_aload_n hF dX3_isFair_29 rfl rfl ?_
      refine fV_callV (k := 4) (As := []) hF (mc_X3_someFirstJobCanBeServed hF.2.2.2.2.2.2.2.2.1 h) fK4 rfl hA7 (by omega) fw_335 fw_332 fw_334 fwp_15 fw_1 ⟨rfl, by decide, by decide, by decide +kernel⟩ (na := 0) rfl (by decide) (Nat.le_of_ble_eq_true rfl) dX3_isFair_30 rfl (fun rv S15 n16 hp => ?_)
      obtain ⟨v14, rfl, h⟩ := hp
      refine fV_if_ne (tgt := 40) hF dX3_isFair_33 (by decide) (fun c17 => ?_) (fun c17 => ?_)
      · have h := h.1 c17
        refine fV_iconst (v := 0) hF dX3_isFair_40 (by decide) ?_
        exact fV_iret hF hE.s (by omega) hr (by decide) dX3_isFair_41 ⟨_, rfl, h⟩
      · have h := h.2 c17
        refine fV_iconst (v := 1) hF dX3_isFair_36 (by decide) ?_
        refine fV_goto (tgt := 41) hF dX3_isFair_37 (by decide) ?_
        exact fV_iret hF hE.s (by omega) hr (by decide) dX3_isFair_41 ⟨_, rfl, h⟩
