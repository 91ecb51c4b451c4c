set_option maxRecDepth 100000 in
set_option maxHeartbeats 4000000 in
theorem mc_L_addTeam {l : Launch} (hfl : l.stackTraces = false) {G : fG} {S : fMS} {n : Nat} {p0 : Option Nat} {p1 : Int32} {p2 : Int32} {p3 : Option Nat} {post : Int32 → fMS → Nat → Prop} (h : wp_L_addTeam S n p0 p1 p2 p3 post) : fCX l yL_addTeam (.codeWith yL_addTeam cL_addTeam 5 (some .int) [(0, 10, 13, 13), (0, 10, 17, 15), (0, 10, 21, 17)]) 12 G [(aR p0), (aI p1), (aI p2), (aR p3)] S n (fPI post) (fun _ _ _ => False) := by
  refine fCXH_of hfl (by decide) (by intro v hv; simp only [List.mem_cons, List.not_mem_nil, or_false] at hv; rcases hv with rfl | rfl | rfl | rfl <;> rfl) (Nat.le_of_ble_eq_true rfl) (fun F hF hxn hl hG hr hin htab hE => ?_)
  subst hl hG
  have hlv : 12 ≤ 12 := Nat.le_refl _
  show fV F S n 0 [some (aR p0), some (aI p1), some (aI p2), some (aR p3), none] []
  unfold wp_L_addTeam at h
  refine fV_aload_n hF dL_addTeam_0 rfl rfl ?_
  refine fV_iconst (v := 0) hF dL_addTeam_1 (by decide) ?_
  refine fV_aload_n hF dL_addTeam_2 rfl rfl ?_
  refine fV_iload_n hF dL_addTeam_3 rfl rfl ?_
  refine fV_iload_n hF dL_addTeam_4 rfl rfl ?_
  obtain ⟨a1, e2, hA3, h⟩ := h
  refine fV_callVXh (k := 4) (As := [(aI p1), (aI p2)]) hF (mc_X3_addTeam hF.2.2.2.2.2.2.2.2.1 h) fK4 e2 hA3 (by omega) fw_740 fw_737 fw_738 fw_739 fw_1 ⟨rfl, by decide, by decide, by decide +kernel⟩ (na := 2) rfl (by decide) (Nat.le_of_ble_eq_true rfl) dL_addTeam_5 rfl (fun X11 S12 n13 q14 hx => ?_) (fun rv S5 n6 hp => ?_)
  · rcases hx with ⟨rfl, h⟩ | ⟨rfl, h⟩ | ⟨rfl, h⟩
    · have h := h q14
      refine fVX_catch (S := S12) hF htab 0 rfl (by intro z hz; exact absurd hz (by simp)) ⟨by decide, by decide⟩ (by decide) fw_719 fw_c366 ?_
      refine fV_astore0 hF [some (aR p0), some (aI p1), some (aI p2), some (aR p3), some (aR (some q14))] dL_addTeam_13 (by rw [hxn]; decide) rfl rfl ?_
      refine fV_iconst (v := 1) hF dL_addTeam_15 (by decide) ?_
      exact fV_iret hF hE.s (by omega) hr rfl dL_addTeam_16 ⟨_, rfl, h⟩
    · have h := h q14
      refine fVX_catch (S := S12) hF htab 1 rfl (by intro z hz; simp only [List.take, List.mem_cons, List.not_mem_nil, or_false] at hz; subst hz; exact ⟨by decide, "java/lang/IndexOutOfBoundsException", fw_719, by decide⟩) ⟨by decide, by decide⟩ (by decide) fw_735 fw_c615 ?_
      refine fV_astore0 hF [some (aR p0), some (aI p1), some (aI p2), some (aR p3), some (aR (some q14))] dL_addTeam_17 (by rw [hxn]; decide) rfl rfl ?_
      refine fV_iconst (v := 2) hF dL_addTeam_19 (by decide) ?_
      exact fV_iret hF hE.s (by omega) hr rfl dL_addTeam_20 ⟨_, rfl, h⟩
    · have h := h q14
      refine fVX_catch (S := S12) hF htab 2 rfl (by intro z hz; simp only [List.take, List.mem_cons, List.not_mem_nil, or_false] at hz; rcases hz with rfl | rfl <;> first | exact ⟨by decide, "java/lang/IndexOutOfBoundsException", fw_719, by decide⟩ | exact ⟨by decide, "java/lang/IllegalArgumentException", fw_735, by decide⟩) ⟨by decide, by decide⟩ (by decide) fw_736 fw_c756 ?_
      refine fV_astore0 hF [some (aR p0), some (aI p1), some (aI p2), some (aR p3), some (aR (some q14))] dL_addTeam_21 (by rw [hxn]; decide) rfl rfl ?_
      refine fV_iconst (v := 3) hF dL_addTeam_23 (by decide) ?_
      exact fV_iret hF hE.s (by omega) hr rfl dL_addTeam_24 ⟨_, rfl, h⟩
  · obtain ⟨v4, rfl, h⟩ := hp
    refine fV_i2l hF dL_addTeam_8 ?_
    obtain ⟨a7, e8, hA9, h⟩ := h
    obtain ⟨hix10, h⟩ := h
    refine fV_last hF e8 hA9 hix10 dL_addTeam_9 ?_
    refine fV_goto (tgt := 25) hF dL_addTeam_10 (by decide) ?_
    refine fV_iconst (v := 0) hF dL_addTeam_25 (by decide) ?_
    exact fV_iret hF hE.s (by omega) hr rfl dL_addTeam_26 ⟨_, rfl, h⟩
set_option maxRecDepth 100000 in
set_option maxHeartbeats 4000000 in
theorem mc_L_setWeight {l : Launch} (hfl : l.stackTraces = false) {G : fG} {S : fMS} {n : Nat} {p0 : Option Nat} {p1 : Int32} {p2 : Int32} {p3 : Option Nat} {post : Int32 → fMS → Nat → Prop} (h : wp_L_setWeight S n p0 p1 p2 p3 post) : fCX l yL_setWeight (.codeWith yL_setWeight cL_setWeight 5 (some .int) [(0, 10, 13, 13), (0, 10, 17, 22), (0, 10, 21, 15)]) 12 G [(aR p0), (aI p1), (aI p2), (aR p3)] S n (fPI post) (fun _ _ _ => False) := by
  refine fCXH_of hfl (by decide) (by intro v hv; simp only [List.mem_cons, List.not_mem_nil, or_false] at hv; rcases hv with rfl | rfl | rfl | rfl <;> rfl) (Nat.le_of_ble_eq_true rfl) (fun F hF hxn hl hG hr hin htab hE => ?_)
  subst hl hG
  have hlv : 12 ≤ 12 := Nat.le_refl _
  show fV F S n 0 [some (aR p0), some (aI p1), some (aI p2), some (aR p3), none] []
  unfold wp_L_setWeight at h
  refine fV_aload_n hF dL_setWeight_0 rfl rfl ?_
  refine fV_iconst (v := 0) hF dL_setWeight_1 (by decide) ?_
  refine fV_aload_n hF dL_setWeight_2 rfl rfl ?_
  refine fV_iload_n hF dL_setWeight_3 rfl rfl ?_
  refine fV_iload_n hF dL_setWeight_4 rfl rfl ?_
  obtain ⟨a1, e2, hA3, h⟩ := h
  refine fV_callVXh (k := 4) (As := [(aI p1), (aI p2)]) hF (mc_X3_setWeight hF.2.2.2.2.2.2.2.2.1 h) fK4 e2 hA3 (by omega) fw_794 fw_791 fw_792 fw_793 fw_1 ⟨rfl, by decide, by decide, by decide +kernel⟩ (na := 2) rfl (by decide) (Nat.le_of_ble_eq_true rfl) dL_setWeight_5 rfl (fun X11 S12 n13 q14 hx => ?_) (fun rv S5 n6 hp => ?_)
  · rcases hx with ⟨rfl, h⟩ | ⟨rfl, h⟩ | ⟨rfl, h⟩
    · have h := h q14
      refine fVX_catch (S := S12) hF htab 0 rfl (by intro z hz; exact absurd hz (by simp)) ⟨by decide, by decide⟩ (by decide) fw_719 fw_c366 ?_
      refine fV_astore0 hF [some (aR p0), some (aI p1), some (aI p2), some (aR p3), some (aR (some q14))] dL_setWeight_13 (by rw [hxn]; decide) rfl rfl ?_
      refine fV_iconst (v := 1) hF dL_setWeight_15 (by decide) ?_
      exact fV_iret hF hE.s (by omega) hr rfl dL_setWeight_16 ⟨_, rfl, h⟩
    · have h := h q14
      refine fVX_catch (S := S12) hF htab 1 rfl (by intro z hz; simp only [List.take, List.mem_cons, List.not_mem_nil, or_false] at hz; subst hz; exact ⟨by decide, "java/lang/IndexOutOfBoundsException", fw_719, by decide⟩) ⟨by decide, by decide⟩ (by decide) fw_790 fw_c801 ?_
      refine fV_astore0 hF [some (aR p0), some (aI p1), some (aI p2), some (aR p3), some (aR (some q14))] dL_setWeight_17 (by rw [hxn]; decide) rfl rfl ?_
      refine fV_iconst (v := 2) hF dL_setWeight_19 (by decide) ?_
      exact fV_iret hF hE.s (by omega) hr rfl dL_setWeight_20 ⟨_, rfl, h⟩
    · have h := h q14
      refine fVX_catch (S := S12) hF htab 2 rfl (by intro z hz; simp only [List.take, List.mem_cons, List.not_mem_nil, or_false] at hz; rcases hz with rfl | rfl <;> first | exact ⟨by decide, "java/lang/IndexOutOfBoundsException", fw_719, by decide⟩ | exact ⟨by decide, "java/lang/UnsupportedOperationException", fw_790, by decide⟩) ⟨by decide, by decide⟩ (by decide) fw_735 fw_c615 ?_
      refine fV_astore0 hF [some (aR p0), some (aI p1), some (aI p2), some (aR p3), some (aR (some q14))] dL_setWeight_21 (by rw [hxn]; decide) rfl rfl ?_
      refine fV_iconst (v := 3) hF dL_setWeight_23 (by decide) ?_
      exact fV_iret hF hE.s (by omega) hr rfl dL_setWeight_24 ⟨_, rfl, h⟩
  · obtain ⟨v4, rfl, h⟩ := hp
    refine fV_i2l hF dL_setWeight_8 ?_
    obtain ⟨a7, e8, hA9, h⟩ := h
    obtain ⟨hix10, h⟩ := h
    refine fV_last hF e8 hA9 hix10 dL_setWeight_9 ?_
    refine fV_goto (tgt := 25) hF dL_setWeight_10 (by decide) ?_
    refine fV_iconst (v := 0) hF dL_setWeight_25 (by decide) ?_
    exact fV_iret hF hE.s (by omega) hr rfl dL_setWeight_26 ⟨_, rfl, h⟩
set_option maxRecDepth 100000 in
set_option maxHeartbeats 4000000 in
theorem mc_L_setLimit {l : Launch} (hfl : l.stackTraces = false) {G : fG} {S : fMS} {n : Nat} {p0 : Option Nat} {p1 : Int32} {p2 : Int32} {p3 : Option Nat} {post : Int32 → fMS → Nat → Prop} (h : wp_L_setLimit S n p0 p1 p2 p3 post) : fCX l yL_setLimit (.codeWith yL_setLimit cL_setLimit 5 (some .int) [(0, 10, 13, 13), (0, 10, 17, 22), (0, 10, 21, 15)]) 12 G [(aR p0), (aI p1), (aI p2), (aR p3)] S n (fPI post) (fun _ _ _ => False) := by
  refine fCXH_of hfl (by decide) (by intro v hv; simp only [List.mem_cons, List.not_mem_nil, or_false] at hv; rcases hv with rfl | rfl | rfl | rfl <;> rfl) (Nat.le_of_ble_eq_true rfl) (fun F hF hxn hl hG hr hin htab hE => ?_)
  subst hl hG
  have hlv : 12 ≤ 12 := Nat.le_refl _
  show fV F S n 0 [some (aR p0), some (aI p1), some (aI p2), some (aR p3), none] []
  unfold wp_L_setLimit at h
  refine fV_aload_n hF dL_setLimit_0 rfl rfl ?_
  refine fV_iconst (v := 0) hF dL_setLimit_1 (by decide) ?_
  refine fV_aload_n hF dL_setLimit_2 rfl rfl ?_
  refine fV_iload_n hF dL_setLimit_3 rfl rfl ?_
  refine fV_iload_n hF dL_setLimit_4 rfl rfl ?_
  obtain ⟨a1, e2, hA3, h⟩ := h
  refine fV_callVXh (k := 4) (As := [(aI p1), (aI p2)]) hF (mc_X3_setLimit hF.2.2.2.2.2.2.2.2.1 h) fK4 e2 hA3 (by omega) fw_821 fw_818 fw_819 fw_820 fw_1 ⟨rfl, by decide, by decide, by decide +kernel⟩ (na := 2) rfl (by decide) (Nat.le_of_ble_eq_true rfl) dL_setLimit_5 rfl (fun X11 S12 n13 q14 hx => ?_) (fun rv S5 n6 hp => ?_)
  · rcases hx with ⟨rfl, h⟩ | ⟨rfl, h⟩ | ⟨rfl, h⟩
    · have h := h q14
      refine fVX_catch (S := S12) hF htab 0 rfl (by intro z hz; exact absurd hz (by simp)) ⟨by decide, by decide⟩ (by decide) fw_719 fw_c366 ?_
      refine fV_astore0 hF [some (aR p0), some (aI p1), some (aI p2), some (aR p3), some (aR (some q14))] dL_setLimit_13 (by rw [hxn]; decide) rfl rfl ?_
      refine fV_iconst (v := 1) hF dL_setLimit_15 (by decide) ?_
      exact fV_iret hF hE.s (by omega) hr rfl dL_setLimit_16 ⟨_, rfl, h⟩
    · have h := h q14
      refine fVX_catch (S := S12) hF htab 1 rfl (by intro z hz; simp only [List.take, List.mem_cons, List.not_mem_nil, or_false] at hz; subst hz; exact ⟨by decide, "java/lang/IndexOutOfBoundsException", fw_719, by decide⟩) ⟨by decide, by decide⟩ (by decide) fw_790 fw_c801 ?_
      refine fV_astore0 hF [some (aR p0), some (aI p1), some (aI p2), some (aR p3), some (aR (some q14))] dL_setLimit_17 (by rw [hxn]; decide) rfl rfl ?_
      refine fV_iconst (v := 2) hF dL_setLimit_19 (by decide) ?_
      exact fV_iret hF hE.s (by omega) hr rfl dL_setLimit_20 ⟨_, rfl, h⟩
    · have h := h q14
      refine fVX_catch (S := S12) hF htab 2 rfl (by intro z hz; simp only [List.take, List.mem_cons, List.not_mem_nil, or_false] at hz; rcases hz with rfl | rfl <;> first | exact ⟨by decide, "java/lang/IndexOutOfBoundsException", fw_719, by decide⟩ | exact ⟨by decide, "java/lang/UnsupportedOperationException", fw_790, by decide⟩) ⟨by decide, by decide⟩ (by decide) fw_735 fw_c615 ?_
      refine fV_astore0 hF [some (aR p0), some (aI p1), some (aI p2), some (aR p3), some (aR (some q14))] dL_setLimit_21 (by rw [hxn]; decide) rfl rfl ?_
      refine fV_iconst (v := 3) hF dL_setLimit_23 (by decide) ?_
      exact fV_iret hF hE.s (by omega) hr rfl dL_setLimit_24 ⟨_, rfl, h⟩
  · obtain ⟨v4, rfl, h⟩ := hp
    refine fV_i2l hF dL_setLimit_8 ?_
    obtain ⟨a7, e8, hA9, h⟩ := h
    obtain ⟨hix10, h⟩ := h
    refine fV_last hF e8 hA9 hix10 dL_setLimit_9 ?_
    refine fV_goto (tgt := 25) hF dL_setLimit_10 (by decide) ?_
    refine fV_iconst (v := 0) hF dL_setLimit_25 (by decide) ?_
    exact fV_iret hF hE.s (by omega) hr rfl dL_setLimit_26 ⟨_, rfl, h⟩
set_option maxRecDepth 100000 in
set_option maxHeartbeats 4000000 in
theorem mc_L_setCapacity {l : Launch} (hfl : l.stackTraces = false) {G : fG} {S : fMS} {n : Nat} {p0 : Option Nat} {p1 : Int32} {p2 : Option Nat} {post : Int32 → fMS → Nat → Prop} (h : wp_L_setCapacity S n p0 p1 p2 post) : fCX l yL_setCapacity (.codeWith yL_setCapacity cL_setCapacity 4 (some .int) [(0, 9, 12, 15), (0, 9, 15, 17)]) 12 G [(aR p0), (aI p1), (aR p2)] S n (fPI post) (fun _ _ _ => False) := by
  refine fCXH_of hfl (by decide) (by intro v hv; simp only [List.mem_cons, List.not_mem_nil, or_false] at hv; rcases hv with rfl | rfl | rfl <;> rfl) (Nat.le_of_ble_eq_true rfl) (fun F hF hxn hl hG hr hin htab hE => ?_)
  subst hl hG
  have hlv : 12 ≤ 12 := Nat.le_refl _
  show fV F S n 0 [some (aR p0), some (aI p1), some (aR p2), none] []
  unfold wp_L_setCapacity at h
  refine fV_aload_n hF dL_setCapacity_0 rfl rfl ?_
  refine fV_iconst (v := 0) hF dL_setCapacity_1 (by decide) ?_
  refine fV_aload_n hF dL_setCapacity_2 rfl rfl ?_
  refine fV_iload_n hF dL_setCapacity_3 rfl rfl ?_
  obtain ⟨a1, e2, hA3, h⟩ := h
  refine fV_callVXh (k := 4) (As := [(aI p1)]) hF (mc_X3_setCapacity hF.2.2.2.2.2.2.2.2.1 h) fK4 e2 hA3 (by omega) fw_828 fw_825 fw_826 fw_827 fw_1 ⟨rfl, by decide, by decide, by decide +kernel⟩ (na := 1) rfl (by decide) (Nat.le_of_ble_eq_true rfl) dL_setCapacity_4 rfl (fun X11 S12 n13 q14 hx => ?_) (fun rv S5 n6 hp => ?_)
  · rcases hx with ⟨rfl, h⟩ | ⟨rfl, h⟩
    · have h := h q14
      refine fVX_catch (S := S12) hF htab 0 rfl (by intro z hz; exact absurd hz (by simp)) ⟨by decide, by decide⟩ (by decide) fw_735 fw_c615 ?_
      refine fV_astore_n0 hF [some (aR p0), some (aI p1), some (aR p2), some (aR (some q14))] dL_setCapacity_12 rfl (by rw [hxn]; decide) rfl rfl ?_
      refine fV_iconst (v := 1) hF dL_setCapacity_13 (by decide) ?_
      exact fV_iret hF hE.s (by omega) hr rfl dL_setCapacity_14 ⟨_, rfl, h⟩
    · have h := h q14
      refine fVX_catch (S := S12) hF htab 1 rfl (by intro z hz; simp only [List.take, List.mem_cons, List.not_mem_nil, or_false] at hz; subst hz; exact ⟨by decide, "java/lang/IllegalArgumentException", fw_735, by decide⟩) ⟨by decide, by decide⟩ (by decide) fw_736 fw_c756 ?_
      refine fV_astore_n0 hF [some (aR p0), some (aI p1), some (aR p2), some (aR (some q14))] dL_setCapacity_15 rfl (by rw [hxn]; decide) rfl rfl ?_
      refine fV_iconst (v := 2) hF dL_setCapacity_16 (by decide) ?_
      exact fV_iret hF hE.s (by omega) hr rfl dL_setCapacity_17 ⟨_, rfl, h⟩
  · obtain ⟨v4, rfl, h⟩ := hp
    refine fV_i2l hF dL_setCapacity_7 ?_
    obtain ⟨a7, e8, hA9, h⟩ := h
    obtain ⟨hix10, h⟩ := h
    refine fV_last hF e8 hA9 hix10 dL_setCapacity_8 ?_
    refine fV_goto (tgt := 18) hF dL_setCapacity_9 (by decide) ?_
    refine fV_iconst (v := 0) hF dL_setCapacity_18 (by decide) ?_
    exact fV_iret hF hE.s (by omega) hr rfl dL_setCapacity_19 ⟨_, rfl, h⟩
set_option maxRecDepth 100000 in
set_option maxHeartbeats 4000000 in
theorem mc_L_setHalfTime {l : Launch} (hfl : l.stackTraces = false) {G : fG} {S : fMS} {n : Nat} {p0 : Option Nat} {p1 : Int32} {p2 : Option Nat} {post : Int32 → fMS → Nat → Prop} (h : wp_L_setHalfTime S n p0 p1 p2 post) : fCX l yL_setHalfTime (.codeWith yL_setHalfTime cL_setHalfTime 4 (some .int) [(0, 9, 12, 15)]) 12 G [(aR p0), (aI p1), (aR p2)] S n (fPI post) (fun _ _ _ => False) := by
  refine fCXH_of hfl (by decide) (by intro v hv; simp only [List.mem_cons, List.not_mem_nil, or_false] at hv; rcases hv with rfl | rfl | rfl <;> rfl) (Nat.le_of_ble_eq_true rfl) (fun F hF hxn hl hG hr hin htab hE => ?_)
  subst hl hG
  have hlv : 12 ≤ 12 := Nat.le_refl _
  show fV F S n 0 [some (aR p0), some (aI p1), some (aR p2), none] []
  unfold wp_L_setHalfTime at h
  refine fV_aload_n hF dL_setHalfTime_0 rfl rfl ?_
  refine fV_iconst (v := 0) hF dL_setHalfTime_1 (by decide) ?_
  refine fV_aload_n hF dL_setHalfTime_2 rfl rfl ?_
  refine fV_iload_n hF dL_setHalfTime_3 rfl rfl ?_
  obtain ⟨a1, e2, hA3, h⟩ := h
  refine fV_callVXh (k := 4) (As := [(aI p1)]) hF (mc_X3_setHalfTime hF.2.2.2.2.2.2.2.2.1 h) fK4 e2 hA3 (by omega) fw_836 fw_833 fw_834 fw_835 fw_1 ⟨rfl, by decide, by decide, by decide +kernel⟩ (na := 1) rfl (by decide) (Nat.le_of_ble_eq_true rfl) dL_setHalfTime_4 rfl (fun X11 S12 n13 q14 hx => ?_) (fun rv S5 n6 hp => ?_)
  · rcases hx with ⟨rfl, h⟩
    · have h := h q14
      refine fVX_catch (S := S12) hF htab 0 rfl (by intro z hz; exact absurd hz (by simp)) ⟨by decide, by decide⟩ (by decide) fw_735 fw_c615 ?_
      refine fV_astore_n0 hF [some (aR p0), some (aI p1), some (aR p2), some (aR (some q14))] dL_setHalfTime_12 rfl (by rw [hxn]; decide) rfl rfl ?_
      refine fV_iconst (v := 1) hF dL_setHalfTime_13 (by decide) ?_
      exact fV_iret hF hE.s (by omega) hr rfl dL_setHalfTime_14 ⟨_, rfl, h⟩
  · obtain ⟨v4, rfl, h⟩ := hp
    refine fV_i2l hF dL_setHalfTime_7 ?_
    obtain ⟨a7, e8, hA9, h⟩ := h
    obtain ⟨hix10, h⟩ := h
    refine fV_last hF e8 hA9 hix10 dL_setHalfTime_8 ?_
    refine fV_goto (tgt := 15) hF dL_setHalfTime_9 (by decide) ?_
    refine fV_iconst (v := 0) hF dL_setHalfTime_15 (by decide) ?_
    exact fV_iret hF hE.s (by omega) hr rfl dL_setHalfTime_16 ⟨_, rfl, h⟩
set_option maxRecDepth 100000 in
set_option maxHeartbeats 4000000 in
theorem mc_L_parentOf {l : Launch} (hfl : l.stackTraces = false) {G : fG} {S : fMS} {n : Nat} {p0 : Option Nat} {p1 : Int32} {p2 : Option Nat} {post : Int32 → fMS → Nat → Prop} (h : wp_L_parentOf S n p0 p1 p2 post) : fCX l yL_parentOf (.codeWith yL_parentOf cL_parentOf 4 (some .int) [(0, 9, 12, 13), (0, 9, 15, 22)]) 7 G [(aR p0), (aI p1), (aR p2)] S n (fPI post) (fun _ _ _ => False) := by
  refine fCXH_of hfl (by decide) (by intro v hv; simp only [List.mem_cons, List.not_mem_nil, or_false] at hv; rcases hv with rfl | rfl | rfl <;> rfl) (Nat.le_of_ble_eq_true rfl) (fun F hF hxn hl hG hr hin htab hE => ?_)
  subst hl hG
  have hlv : 7 ≤ 7 := Nat.le_refl _
  show fV F S n 0 [some (aR p0), some (aI p1), some (aR p2), none] []
  unfold wp_L_parentOf at h
  refine fV_aload_n hF dL_parentOf_0 rfl rfl ?_
  refine fV_iconst (v := 0) hF dL_parentOf_1 (by decide) ?_
  refine fV_aload_n hF dL_parentOf_2 rfl rfl ?_
  refine fV_iload_n hF dL_parentOf_3 rfl rfl ?_
  obtain ⟨a1, e2, hA3, h⟩ := h
  refine fV_callVXh (k := 4) (As := [(aI p1)]) hF (mc_X3_parentOf hF.2.2.2.2.2.2.2.2.1 h) fK4 e2 hA3 (by omega) fw_843 fw_840 fw_841 fw_842 fw_1 ⟨rfl, by decide, by decide, by decide +kernel⟩ (na := 1) rfl (by decide) (Nat.le_of_ble_eq_true rfl) dL_parentOf_4 rfl (fun X9 S10 n11 q12 hx => ?_) (fun rv S9 n9 hp => ?_)
  · rcases hx with ⟨rfl, h⟩ | ⟨rfl, h⟩
    · have h := h q12
      refine fVX_catch (S := S10) hF htab 0 rfl (by intro z hz; exact absurd hz (by simp)) ⟨by decide, by decide⟩ (by decide) fw_719 fw_c366 ?_
      refine fV_astore_n0 hF [some (aR p0), some (aI p1), some (aR p2), some (aR (some q12))] dL_parentOf_12 rfl (by rw [hxn]; decide) rfl rfl ?_
      refine fV_iconst (v := 1) hF dL_parentOf_13 (by decide) ?_
      exact fV_iret hF hE.s (by omega) hr rfl dL_parentOf_14 ⟨_, rfl, h⟩
    · have h := h q12
      refine fVX_catch (S := S10) hF htab 1 rfl (by intro z hz; simp only [List.take, List.mem_cons, List.not_mem_nil, or_false] at hz; subst hz; exact ⟨by decide, "java/lang/IndexOutOfBoundsException", fw_719, by decide⟩) ⟨by decide, by decide⟩ (by decide) fw_790 fw_c801 ?_
      refine fV_astore_n0 hF [some (aR p0), some (aI p1), some (aR p2), some (aR (some q12))] dL_parentOf_15 rfl (by rw [hxn]; decide) rfl rfl ?_
      refine fV_iconst (v := 2) hF dL_parentOf_16 (by decide) ?_
      exact fV_iret hF hE.s (by omega) hr rfl dL_parentOf_17 ⟨_, rfl, h⟩
  · obtain ⟨v4, rfl, rfl, rfl, h⟩ := hp
    refine fV_i2l hF dL_parentOf_7 ?_
    obtain ⟨a5, e6, hA7, h⟩ := h
    obtain ⟨hix8, h⟩ := h
    refine fV_last hF e6 hA7 hix8 dL_parentOf_8 ?_
    refine fV_goto (tgt := 18) hF dL_parentOf_9 (by decide) ?_
    refine fV_iconst (v := 0) hF dL_parentOf_18 (by decide) ?_
    exact fV_iret hF hE.s (by omega) hr rfl dL_parentOf_19 ⟨_, rfl, h⟩
set_option maxRecDepth 100000 in
set_option maxHeartbeats 4000000 in
theorem mc_L_children {l : Launch} (hfl : l.stackTraces = false) {G : fG} {S : fMS} {n : Nat} {p0 : Option Nat} {p1 : Int32} {p2 : Option Nat} {post : Int32 → fMS → Nat → Prop} (h : wp_L_children S n p0 p1 p2 post) : fCX l yL_children (.codeWith yL_children cL_children 4 (some .int) [(0, 9, 12, 13)]) 6 G [(aR p0), (aI p1), (aR p2)] S n (fPI post) (fun _ _ _ => False) := by
  refine fCXH_of hfl (by decide) (by intro v hv; simp only [List.mem_cons, List.not_mem_nil, or_false] at hv; rcases hv with rfl | rfl | rfl <;> rfl) (Nat.le_of_ble_eq_true rfl) (fun F hF hxn hl hG hr hin htab hE => ?_)
  subst hl hG
  have hlv : 6 ≤ 6 := Nat.le_refl _
  show fV F S n 0 [some (aR p0), some (aI p1), some (aR p2), none] []
  unfold wp_L_children at h
  refine fV_aload_n hF dL_children_0 rfl rfl ?_
  refine fV_iconst (v := 0) hF dL_children_1 (by decide) ?_
  refine fV_aload_n hF dL_children_2 rfl rfl ?_
  refine fV_iload_n hF dL_children_3 rfl rfl ?_
  obtain ⟨a1, e2, hA3, h⟩ := h
  refine fV_callVXh (k := 4) (As := [(aI p1)]) hF (mc_X3_children hF.2.2.2.2.2.2.2.2.1 h) fK4 e2 hA3 (by omega) fw_850 fw_847 fw_848 fw_849 fw_1 ⟨rfl, by decide, by decide, by decide +kernel⟩ (na := 1) rfl (by decide) (Nat.le_of_ble_eq_true rfl) dL_children_4 rfl (fun X9 S10 n11 q12 hx => ?_) (fun rv S9 n9 hp => ?_)
  · rcases hx with ⟨rfl, h⟩
    · have h := h q12
      refine fVX_catch (S := S10) hF htab 0 rfl (by intro z hz; exact absurd hz (by simp)) ⟨by decide, by decide⟩ (by decide) fw_719 fw_c366 ?_
      refine fV_astore_n0 hF [some (aR p0), some (aI p1), some (aR p2), some (aR (some q12))] dL_children_12 rfl (by rw [hxn]; decide) rfl rfl ?_
      refine fV_iconst (v := 1) hF dL_children_13 (by decide) ?_
      exact fV_iret hF hE.s (by omega) hr rfl dL_children_14 ⟨_, rfl, h⟩
  · obtain ⟨v4, rfl, rfl, rfl, h⟩ := hp
    refine fV_i2l hF dL_children_7 ?_
    obtain ⟨a5, e6, hA7, h⟩ := h
    obtain ⟨hix8, h⟩ := h
    refine fV_last hF e6 hA7 hix8 dL_children_8 ?_
    refine fV_goto (tgt := 15) hF dL_children_9 (by decide) ?_
    refine fV_iconst (v := 0) hF dL_children_15 (by decide) ?_
    exact fV_iret hF hE.s (by omega) hr rfl dL_children_16 ⟨_, rfl, h⟩
set_option maxRecDepth 100000 in
set_option maxHeartbeats 4000000 in
theorem mc_L_submit {l : Launch} (hfl : l.stackTraces = false) {G : fG} {S : fMS} {n : Nat} {p0 : Option Nat} {p1 : Int32} {p2 : Int32} {p3 : Int32} {p4 : Option Nat} {post : Int32 → fMS → Nat → Prop} (h : wp_L_submit S n p0 p1 p2 p3 p4 post) : fCX l yL_submit (.codeWith yL_submit cL_submit 6 (some .int) [(0, 12, 15, 13), (0, 12, 19, 15), (0, 12, 23, 22), (0, 12, 27, 17)]) 12 G [(aR p0), (aI p1), (aI p2), (aI p3), (aR p4)] S n (fPI post) (fun _ _ _ => False) := by
  refine fCXH_of hfl (by decide) (by intro v hv; simp only [List.mem_cons, List.not_mem_nil, or_false] at hv; rcases hv with rfl | rfl | rfl | rfl | rfl <;> rfl) (Nat.le_of_ble_eq_true rfl) (fun F hF hxn hl hG hr hin htab hE => ?_)
  subst hl hG
  have hlv : 12 ≤ 12 := Nat.le_refl _
  show fV F S n 0 [some (aR p0), some (aI p1), some (aI p2), some (aI p3), some (aR p4), none] []
  unfold wp_L_submit at h
  refine fV_aload hF dL_submit_0 rfl ?_
  refine fV_iconst (v := 0) hF dL_submit_2 (by decide) ?_
  refine fV_aload_n hF dL_submit_3 rfl rfl ?_
  refine fV_iload_n hF dL_submit_4 rfl rfl ?_
  refine fV_iload_n hF dL_submit_5 rfl rfl ?_
  refine fV_iload_n hF dL_submit_6 rfl rfl ?_
  obtain ⟨a1, e2, hA3, h⟩ := h
  refine fV_callVXh (k := 4) (As := [(aI p1), (aI p2), (aI p3)]) hF (mc_X3_submit hF.2.2.2.2.2.2.2.2.1 h) fK4 e2 hA3 (by omega) fw_857 fw_854 fw_855 fw_856 fw_1 ⟨rfl, by decide, by decide, by decide +kernel⟩ (na := 3) rfl (by decide) (Nat.le_of_ble_eq_true rfl) dL_submit_7 rfl (fun X11 S12 n13 q14 hx => ?_) (fun rv S5 n6 hp => ?_)
  · rcases hx with ⟨rfl, h⟩ | ⟨rfl, h⟩ | ⟨rfl, h⟩ | ⟨rfl, h⟩
    · have h := h q14
      refine fVX_catch (S := S12) hF htab 0 rfl (by intro z hz; exact absurd hz (by simp)) ⟨by decide, by decide⟩ (by decide) fw_719 fw_c366 ?_
      refine fV_astore0 hF [some (aR p0), some (aI p1), some (aI p2), some (aI p3), some (aR p4), some (aR (some q14))] dL_submit_15 (by rw [hxn]; decide) rfl rfl ?_
      refine fV_iconst (v := 1) hF dL_submit_17 (by decide) ?_
      exact fV_iret hF hE.s (by omega) hr rfl dL_submit_18 ⟨_, rfl, h⟩
    · have h := h q14
      refine fVX_catch (S := S12) hF htab 1 rfl (by intro z hz; simp only [List.take, List.mem_cons, List.not_mem_nil, or_false] at hz; subst hz; exact ⟨by decide, "java/lang/IndexOutOfBoundsException", fw_719, by decide⟩) ⟨by decide, by decide⟩ (by decide) fw_735 fw_c615 ?_
      refine fV_astore0 hF [some (aR p0), some (aI p1), some (aI p2), some (aI p3), some (aR p4), some (aR (some q14))] dL_submit_19 (by rw [hxn]; decide) rfl rfl ?_
      refine fV_iconst (v := 2) hF dL_submit_21 (by decide) ?_
      exact fV_iret hF hE.s (by omega) hr rfl dL_submit_22 ⟨_, rfl, h⟩
    · have h := h q14
      refine fVX_catch (S := S12) hF htab 2 rfl (by intro z hz; simp only [List.take, List.mem_cons, List.not_mem_nil, or_false] at hz; rcases hz with rfl | rfl <;> first | exact ⟨by decide, "java/lang/IndexOutOfBoundsException", fw_719, by decide⟩ | exact ⟨by decide, "java/lang/IllegalArgumentException", fw_735, by decide⟩) ⟨by decide, by decide⟩ (by decide) fw_790 fw_c801 ?_
      refine fV_astore0 hF [some (aR p0), some (aI p1), some (aI p2), some (aI p3), some (aR p4), some (aR (some q14))] dL_submit_23 (by rw [hxn]; decide) rfl rfl ?_
      refine fV_iconst (v := 3) hF dL_submit_25 (by decide) ?_
      exact fV_iret hF hE.s (by omega) hr rfl dL_submit_26 ⟨_, rfl, h⟩
    · have h := h q14
      refine fVX_catch (S := S12) hF htab 3 rfl (by intro z hz; simp only [List.take, List.mem_cons, List.not_mem_nil, or_false] at hz; rcases hz with rfl | rfl | rfl <;> first | exact ⟨by decide, "java/lang/IndexOutOfBoundsException", fw_719, by decide⟩ | exact ⟨by decide, "java/lang/IllegalArgumentException", fw_735, by decide⟩ | exact ⟨by decide, "java/lang/UnsupportedOperationException", fw_790, by decide⟩) ⟨by decide, by decide⟩ (by decide) fw_736 fw_c756 ?_
      refine fV_astore0 hF [some (aR p0), some (aI p1), some (aI p2), some (aI p3), some (aR p4), some (aR (some q14))] dL_submit_27 (by rw [hxn]; decide) rfl rfl ?_
      refine fV_iconst (v := 4) hF dL_submit_29 (by decide) ?_
      exact fV_iret hF hE.s (by omega) hr rfl dL_submit_30 ⟨_, rfl, h⟩
  · obtain ⟨v4, rfl, h⟩ := hp
    refine fV_i2l hF dL_submit_10 ?_
    obtain ⟨a7, e8, hA9, h⟩ := h
    obtain ⟨hix10, h⟩ := h
    refine fV_last hF e8 hA9 hix10 dL_submit_11 ?_
    refine fV_goto (tgt := 31) hF dL_submit_12 (by decide) ?_
    refine fV_iconst (v := 0) hF dL_submit_31 (by decide) ?_
    exact fV_iret hF hE.s (by omega) hr rfl dL_submit_32 ⟨_, rfl, h⟩
set_option maxRecDepth 100000 in
set_option maxHeartbeats 4000000 in
theorem mc_L_cancel {l : Launch} (hfl : l.stackTraces = false) {G : fG} {S : fMS} {n : Nat} {p0 : Option Nat} {p1 : Int32} {p2 : Option Nat} {post : Int32 → fMS → Nat → Prop} (h : wp_L_cancel S n p0 p1 p2 post) : fCX l yL_cancel (.codeWith yL_cancel cL_cancel 4 (some .int) [(0, 9, 12, 47), (0, 9, 15, 17)]) 12 G [(aR p0), (aI p1), (aR p2)] S n (fPI post) (fun _ _ _ => False) := by
  refine fCXH_of hfl (by decide) (by intro v hv; simp only [List.mem_cons, List.not_mem_nil, or_false] at hv; rcases hv with rfl | rfl | rfl <;> rfl) (Nat.le_of_ble_eq_true rfl) (fun F hF hxn hl hG hr hin htab hE => ?_)
  subst hl hG
  have hlv : 12 ≤ 12 := Nat.le_refl _
  show fV F S n 0 [some (aR p0), some (aI p1), some (aR p2), none] []
  unfold wp_L_cancel at h
  refine fV_aload_n hF dL_cancel_0 rfl rfl ?_
  refine fV_iconst (v := 0) hF dL_cancel_1 (by decide) ?_
  refine fV_aload_n hF dL_cancel_2 rfl rfl ?_
  refine fV_iload_n hF dL_cancel_3 rfl rfl ?_
  obtain ⟨a1, e2, hA3, h⟩ := h
  refine fV_callVXh (k := 4) (As := [(aI p1)]) hF (mc_X3_cancel hF.2.2.2.2.2.2.2.2.1 h) fK4 e2 hA3 (by omega) fw_916 fw_913 fw_914 fw_915 fw_1 ⟨rfl, by decide, by decide, by decide +kernel⟩ (na := 1) rfl (by decide) (Nat.le_of_ble_eq_true rfl) dL_cancel_4 rfl (fun X11 S12 n13 q14 hx => ?_) (fun rv S5 n6 hp => ?_)
  · rcases hx with ⟨rfl, h⟩ | ⟨rfl, h⟩
    · have h := h q14
      refine fVX_catch (S := S12) hF htab 0 rfl (by intro z hz; exact absurd hz (by simp)) ⟨by decide, by decide⟩ (by decide) fw_912 fw_c927 ?_
      refine fV_astore_n0 hF [some (aR p0), some (aI p1), some (aR p2), some (aR (some q14))] dL_cancel_12 rfl (by rw [hxn]; decide) rfl rfl ?_
      refine fV_iconst (v := 1) hF dL_cancel_13 (by decide) ?_
      exact fV_iret hF hE.s (by omega) hr rfl dL_cancel_14 ⟨_, rfl, h⟩
    · have h := h q14
      refine fVX_catch (S := S12) hF htab 1 rfl (by intro z hz; simp only [List.take, List.mem_cons, List.not_mem_nil, or_false] at hz; subst hz; exact ⟨by decide, "java/util/NoSuchElementException", fw_912, by decide⟩) ⟨by decide, by decide⟩ (by decide) fw_736 fw_c756 ?_
      refine fV_astore_n0 hF [some (aR p0), some (aI p1), some (aR p2), some (aR (some q14))] dL_cancel_15 rfl (by rw [hxn]; decide) rfl rfl ?_
      refine fV_iconst (v := 2) hF dL_cancel_16 (by decide) ?_
      exact fV_iret hF hE.s (by omega) hr rfl dL_cancel_17 ⟨_, rfl, h⟩
  · obtain ⟨v4, rfl, h⟩ := hp
    refine fV_i2l hF dL_cancel_7 ?_
    obtain ⟨a7, e8, hA9, h⟩ := h
    obtain ⟨hix10, h⟩ := h
    refine fV_last hF e8 hA9 hix10 dL_cancel_8 ?_
    refine fV_goto (tgt := 18) hF dL_cancel_9 (by decide) ?_
    refine fV_iconst (v := 0) hF dL_cancel_18 (by decide) ?_
    exact fV_iret hF hE.s (by omega) hr rfl dL_cancel_19 ⟨_, rfl, h⟩
set_option maxRecDepth 100000 in
set_option maxHeartbeats 4000000 in
theorem mc_L_pass {l : Launch} (hfl : l.stackTraces = false) {G : fG} {S : fMS} {n : Nat} {p0 : Option Nat} {p1 : Int32} {p2 : Option Nat} {post : Int32 → fMS → Nat → Prop} (h : wp_L_pass S n p0 p1 p2 post) : fCX l yL_pass (.codeWith yL_pass cL_pass 4 (some .int) [(0, 9, 12, 15)]) 12 G [(aR p0), (aI p1), (aR p2)] S n (fPI post) (fun _ _ _ => False) := by
  refine fCXH_of hfl (by decide) (by intro v hv; simp only [List.mem_cons, List.not_mem_nil, or_false] at hv; rcases hv with rfl | rfl | rfl <;> rfl) (Nat.le_of_ble_eq_true rfl) (fun F hF hxn hl hG hr hin htab hE => ?_)
  subst hl hG
  have hlv : 12 ≤ 12 := Nat.le_refl _
  show fV F S n 0 [some (aR p0), some (aI p1), some (aR p2), none] []
  unfold wp_L_pass at h
  refine fV_aload_n hF dL_pass_0 rfl rfl ?_
  refine fV_iconst (v := 0) hF dL_pass_1 (by decide) ?_
  refine fV_aload_n hF dL_pass_2 rfl rfl ?_
  refine fV_iload_n hF dL_pass_3 rfl rfl ?_
  obtain ⟨a1, e2, hA3, h⟩ := h
  refine fV_callVXh (k := 4) (As := [(aI p1)]) hF (mc_X3_pass hF.2.2.2.2.2.2.2.2.1 h) fK4 e2 hA3 (by omega) fw_964 fw_961 fw_962 fw_963 fw_1 ⟨rfl, by decide, by decide, by decide +kernel⟩ (na := 1) rfl (by decide) (Nat.le_of_ble_eq_true rfl) dL_pass_4 rfl (fun X11 S12 n13 q14 hx => ?_) (fun rv S5 n6 hp => ?_)
  · rcases hx with ⟨rfl, h⟩
    · have h := h q14
      refine fVX_catch (S := S12) hF htab 0 rfl (by intro z hz; exact absurd hz (by simp)) ⟨by decide, by decide⟩ (by decide) fw_735 fw_c615 ?_
      refine fV_astore_n0 hF [some (aR p0), some (aI p1), some (aR p2), some (aR (some q14))] dL_pass_12 rfl (by rw [hxn]; decide) rfl rfl ?_
      refine fV_iconst (v := 1) hF dL_pass_13 (by decide) ?_
      exact fV_iret hF hE.s (by omega) hr rfl dL_pass_14 ⟨_, rfl, h⟩
  · obtain ⟨v4, rfl, h⟩ := hp
    refine fV_i2l hF dL_pass_7 ?_
    obtain ⟨a7, e8, hA9, h⟩ := h
    obtain ⟨hix10, h⟩ := h
    refine fV_last hF e8 hA9 hix10 dL_pass_8 ?_
    refine fV_goto (tgt := 15) hF dL_pass_9 (by decide) ?_
    refine fV_iconst (v := 0) hF dL_pass_15 (by decide) ?_
    exact fV_iret hF hE.s (by omega) hr rfl dL_pass_16 ⟨_, rfl, h⟩
set_option maxRecDepth 100000 in
set_option maxHeartbeats 4000000 in
theorem mc_L_stateOf {l : Launch} (hfl : l.stackTraces = false) {G : fG} {S : fMS} {n : Nat} {p0 : Option Nat} {p1 : Int32} {p2 : Option Nat} {post : Int32 → fMS → Nat → Prop} (h : wp_L_stateOf S n p0 p1 p2 post) : fCX l yL_stateOf (.codeWith yL_stateOf cL_stateOf 4 (some .int) [(0, 9, 12, 47)]) 6 G [(aR p0), (aI p1), (aR p2)] S n (fPI post) (fun _ _ _ => False) := by
  refine fCXH_of hfl (by decide) (by intro v hv; simp only [List.mem_cons, List.not_mem_nil, or_false] at hv; rcases hv with rfl | rfl | rfl <;> rfl) (Nat.le_of_ble_eq_true rfl) (fun F hF hxn hl hG hr hin htab hE => ?_)
  subst hl hG
  have hlv : 6 ≤ 6 := Nat.le_refl _
  show fV F S n 0 [some (aR p0), some (aI p1), some (aR p2), none] []
  unfold wp_L_stateOf at h
  refine fV_aload_n hF dL_stateOf_0 rfl rfl ?_
  refine fV_iconst (v := 0) hF dL_stateOf_1 (by decide) ?_
  refine fV_aload_n hF dL_stateOf_2 rfl rfl ?_
  refine fV_iload_n hF dL_stateOf_3 rfl rfl ?_
  obtain ⟨a1, e2, hA3, h⟩ := h
  refine fV_callVXh (k := 4) (As := [(aI p1)]) hF (mc_X3_stateOf hF.2.2.2.2.2.2.2.2.1 h) fK4 e2 hA3 (by omega) fw_980 fw_977 fw_978 fw_979 fw_1 ⟨rfl, by decide, by decide, by decide +kernel⟩ (na := 1) rfl (by decide) (Nat.le_of_ble_eq_true rfl) dL_stateOf_4 rfl (fun X9 S10 n11 q12 hx => ?_) (fun rv S9 n9 hp => ?_)
  · rcases hx with ⟨rfl, h⟩
    · have h := h q12
      refine fVX_catch (S := S10) hF htab 0 rfl (by intro z hz; exact absurd hz (by simp)) ⟨by decide, by decide⟩ (by decide) fw_912 fw_c927 ?_
      refine fV_astore_n0 hF [some (aR p0), some (aI p1), some (aR p2), some (aR (some q12))] dL_stateOf_12 rfl (by rw [hxn]; decide) rfl rfl ?_
      refine fV_iconst (v := 1) hF dL_stateOf_13 (by decide) ?_
      exact fV_iret hF hE.s (by omega) hr rfl dL_stateOf_14 ⟨_, rfl, h⟩
  · obtain ⟨v4, rfl, rfl, rfl, h⟩ := hp
    refine fV_i2l hF dL_stateOf_7 ?_
    obtain ⟨a5, e6, hA7, h⟩ := h
    obtain ⟨hix8, h⟩ := h
    refine fV_last hF e6 hA7 hix8 dL_stateOf_8 ?_
    refine fV_goto (tgt := 15) hF dL_stateOf_9 (by decide) ?_
    refine fV_iconst (v := 0) hF dL_stateOf_15 (by decide) ?_
    exact fV_iret hF hE.s (by omega) hr rfl dL_stateOf_16 ⟨_, rfl, h⟩
set_option maxRecDepth 100000 in
set_option maxHeartbeats 4000000 in
theorem mc_L_toGo {l : Launch} (hfl : l.stackTraces = false) {G : fG} {S : fMS} {n : Nat} {p0 : Option Nat} {p1 : Int32} {p2 : Option Nat} {post : Int32 → fMS → Nat → Prop} (h : wp_L_toGo S n p0 p1 p2 post) : fCX l yL_toGo (.codeWith yL_toGo cL_toGo 4 (some .int) [(0, 9, 12, 47), (0, 9, 15, 17)]) 7 G [(aR p0), (aI p1), (aR p2)] S n (fPI post) (fun _ _ _ => False) := by
  refine fCXH_of hfl (by decide) (by intro v hv; simp only [List.mem_cons, List.not_mem_nil, or_false] at hv; rcases hv with rfl | rfl | rfl <;> rfl) (Nat.le_of_ble_eq_true rfl) (fun F hF hxn hl hG hr hin htab hE => ?_)
  subst hl hG
  have hlv : 7 ≤ 7 := Nat.le_refl _
  show fV F S n 0 [some (aR p0), some (aI p1), some (aR p2), none] []
  unfold wp_L_toGo at h
  refine fV_aload_n hF dL_toGo_0 rfl rfl ?_
  refine fV_iconst (v := 0) hF dL_toGo_1 (by decide) ?_
  refine fV_aload_n hF dL_toGo_2 rfl rfl ?_
  refine fV_iload_n hF dL_toGo_3 rfl rfl ?_
  obtain ⟨a1, e2, hA3, h⟩ := h
  refine fV_callVXh (k := 4) (As := [(aI p1)]) hF (mc_X3_toGo hF.2.2.2.2.2.2.2.2.1 h) fK4 e2 hA3 (by omega) fw_987 fw_984 fw_985 fw_986 fw_1 ⟨rfl, by decide, by decide, by decide +kernel⟩ (na := 1) rfl (by decide) (Nat.le_of_ble_eq_true rfl) dL_toGo_4 rfl (fun X9 S10 n11 q12 hx => ?_) (fun rv S9 n9 hp => ?_)
  · rcases hx with ⟨rfl, h⟩ | ⟨rfl, h⟩
    · have h := h q12
      refine fVX_catch (S := S10) hF htab 0 rfl (by intro z hz; exact absurd hz (by simp)) ⟨by decide, by decide⟩ (by decide) fw_912 fw_c927 ?_
      refine fV_astore_n0 hF [some (aR p0), some (aI p1), some (aR p2), some (aR (some q12))] dL_toGo_12 rfl (by rw [hxn]; decide) rfl rfl ?_
      refine fV_iconst (v := 1) hF dL_toGo_13 (by decide) ?_
      exact fV_iret hF hE.s (by omega) hr rfl dL_toGo_14 ⟨_, rfl, h⟩
    · have h := h q12
      refine fVX_catch (S := S10) hF htab 1 rfl (by intro z hz; simp only [List.take, List.mem_cons, List.not_mem_nil, or_false] at hz; subst hz; exact ⟨by decide, "java/util/NoSuchElementException", fw_912, by decide⟩) ⟨by decide, by decide⟩ (by decide) fw_736 fw_c756 ?_
      refine fV_astore_n0 hF [some (aR p0), some (aI p1), some (aR p2), some (aR (some q12))] dL_toGo_15 rfl (by rw [hxn]; decide) rfl rfl ?_
      refine fV_iconst (v := 2) hF dL_toGo_16 (by decide) ?_
      exact fV_iret hF hE.s (by omega) hr rfl dL_toGo_17 ⟨_, rfl, h⟩
  · obtain ⟨v4, rfl, rfl, rfl, h⟩ := hp
    refine fV_i2l hF dL_toGo_7 ?_
    obtain ⟨a5, e6, hA7, h⟩ := h
    obtain ⟨hix8, h⟩ := h
    refine fV_last hF e6 hA7 hix8 dL_toGo_8 ?_
    refine fV_goto (tgt := 18) hF dL_toGo_9 (by decide) ?_
    refine fV_iconst (v := 0) hF dL_toGo_18 (by decide) ?_
    exact fV_iret hF hE.s (by omega) hr rfl dL_toGo_19 ⟨_, rfl, h⟩
set_option maxRecDepth 100000 in
set_option maxHeartbeats 4000000 in
theorem mc_L_stops {l : Launch} (hfl : l.stackTraces = false) {G : fG} {S : fMS} {n : Nat} {p0 : Option Nat} {p1 : Int32} {p2 : Option Nat} {post : Int32 → fMS → Nat → Prop} (h : wp_L_stops S n p0 p1 p2 post) : fCX l yL_stops (.codeWith yL_stops cL_stops 4 (some .int) [(0, 9, 12, 47)]) 6 G [(aR p0), (aI p1), (aR p2)] S n (fPI post) (fun _ _ _ => False) := by
  refine fCXH_of hfl (by decide) (by intro v hv; simp only [List.mem_cons, List.not_mem_nil, or_false] at hv; rcases hv with rfl | rfl | rfl <;> rfl) (Nat.le_of_ble_eq_true rfl) (fun F hF hxn hl hG hr hin htab hE => ?_)
  subst hl hG
  have hlv : 6 ≤ 6 := Nat.le_refl _
  show fV F S n 0 [some (aR p0), some (aI p1), some (aR p2), none] []
  unfold wp_L_stops at h
  refine fV_aload_n hF dL_stops_0 rfl rfl ?_
  refine fV_iconst (v := 0) hF dL_stops_1 (by decide) ?_
  refine fV_aload_n hF dL_stops_2 rfl rfl ?_
  refine fV_iload_n hF dL_stops_3 rfl rfl ?_
  obtain ⟨a1, e2, hA3, h⟩ := h
  refine fV_callVXh (k := 4) (As := [(aI p1)]) hF (mc_X3_stops hF.2.2.2.2.2.2.2.2.1 h) fK4 e2 hA3 (by omega) fw_994 fw_991 fw_992 fw_993 fw_1 ⟨rfl, by decide, by decide, by decide +kernel⟩ (na := 1) rfl (by decide) (Nat.le_of_ble_eq_true rfl) dL_stops_4 rfl (fun X9 S10 n11 q12 hx => ?_) (fun rv S9 n9 hp => ?_)
  · rcases hx with ⟨rfl, h⟩
    · have h := h q12
      refine fVX_catch (S := S10) hF htab 0 rfl (by intro z hz; exact absurd hz (by simp)) ⟨by decide, by decide⟩ (by decide) fw_912 fw_c927 ?_
      refine fV_astore_n0 hF [some (aR p0), some (aI p1), some (aR p2), some (aR (some q12))] dL_stops_12 rfl (by rw [hxn]; decide) rfl rfl ?_
      refine fV_iconst (v := 1) hF dL_stops_13 (by decide) ?_
      exact fV_iret hF hE.s (by omega) hr rfl dL_stops_14 ⟨_, rfl, h⟩
  · obtain ⟨v4, rfl, rfl, rfl, h⟩ := hp
    refine fV_i2l hF dL_stops_7 ?_
    obtain ⟨a5, e6, hA7, h⟩ := h
    obtain ⟨hix8, h⟩ := h
    refine fV_last hF e6 hA7 hix8 dL_stops_8 ?_
    refine fV_goto (tgt := 15) hF dL_stops_9 (by decide) ?_
    refine fV_iconst (v := 0) hF dL_stops_15 (by decide) ?_
    exact fV_iret hF hE.s (by omega) hr rfl dL_stops_16 ⟨_, rfl, h⟩
set_option maxRecDepth 100000 in
set_option maxHeartbeats 4000000 in
theorem mc_L_firstOf {l : Launch} (hfl : l.stackTraces = false) {G : fG} {S : fMS} {n : Nat} {p0 : Option Nat} {p1 : Int32} {p2 : Option Nat} {post : Int32 → fMS → Nat → Prop} (h : wp_L_firstOf S n p0 p1 p2 post) : fCX l yL_firstOf (.codeWith yL_firstOf cL_firstOf 4 (some .int) [(0, 9, 12, 13), (0, 9, 15, 22), (0, 9, 18, 47)]) 7 G [(aR p0), (aI p1), (aR p2)] S n (fPI post) (fun _ _ _ => False) := by
  refine fCXH_of hfl (by decide) (by intro v hv; simp only [List.mem_cons, List.not_mem_nil, or_false] at hv; rcases hv with rfl | rfl | rfl <;> rfl) (Nat.le_of_ble_eq_true rfl) (fun F hF hxn hl hG hr hin htab hE => ?_)
  subst hl hG
  have hlv : 7 ≤ 7 := Nat.le_refl _
  show fV F S n 0 [some (aR p0), some (aI p1), some (aR p2), none] []
  unfold wp_L_firstOf at h
  refine fV_aload_n hF dL_firstOf_0 rfl rfl ?_
  refine fV_iconst (v := 0) hF dL_firstOf_1 (by decide) ?_
  refine fV_aload_n hF dL_firstOf_2 rfl rfl ?_
  refine fV_iload_n hF dL_firstOf_3 rfl rfl ?_
  obtain ⟨a1, e2, hA3, h⟩ := h
  refine fV_callVXh (k := 4) (As := [(aI p1)]) hF (mc_X3_firstOf hF.2.2.2.2.2.2.2.2.1 h) fK4 e2 hA3 (by omega) fw_1001 fw_998 fw_999 fw_1000 fw_1 ⟨rfl, by decide, by decide, by decide +kernel⟩ (na := 1) rfl (by decide) (Nat.le_of_ble_eq_true rfl) dL_firstOf_4 rfl (fun X9 S10 n11 q12 hx => ?_) (fun rv S9 n9 hp => ?_)
  · rcases hx with ⟨rfl, h⟩ | ⟨rfl, h⟩ | ⟨rfl, h⟩
    · have h := h q12
      refine fVX_catch (S := S10) hF htab 0 rfl (by intro z hz; exact absurd hz (by simp)) ⟨by decide, by decide⟩ (by decide) fw_719 fw_c366 ?_
      refine fV_astore_n0 hF [some (aR p0), some (aI p1), some (aR p2), some (aR (some q12))] dL_firstOf_12 rfl (by rw [hxn]; decide) rfl rfl ?_
      refine fV_iconst (v := 1) hF dL_firstOf_13 (by decide) ?_
      exact fV_iret hF hE.s (by omega) hr rfl dL_firstOf_14 ⟨_, rfl, h⟩
    · have h := h q12
      refine fVX_catch (S := S10) hF htab 1 rfl (by intro z hz; simp only [List.take, List.mem_cons, List.not_mem_nil, or_false] at hz; subst hz; exact ⟨by decide, "java/lang/IndexOutOfBoundsException", fw_719, by decide⟩) ⟨by decide, by decide⟩ (by decide) fw_790 fw_c801 ?_
      refine fV_astore_n0 hF [some (aR p0), some (aI p1), some (aR p2), some (aR (some q12))] dL_firstOf_15 rfl (by rw [hxn]; decide) rfl rfl ?_
      refine fV_iconst (v := 2) hF dL_firstOf_16 (by decide) ?_
      exact fV_iret hF hE.s (by omega) hr rfl dL_firstOf_17 ⟨_, rfl, h⟩
    · have h := h q12
      refine fVX_catch (S := S10) hF htab 2 rfl (by intro z hz; simp only [List.take, List.mem_cons, List.not_mem_nil, or_false] at hz; rcases hz with rfl | rfl <;> first | exact ⟨by decide, "java/lang/IndexOutOfBoundsException", fw_719, by decide⟩ | exact ⟨by decide, "java/lang/UnsupportedOperationException", fw_790, by decide⟩) ⟨by decide, by decide⟩ (by decide) fw_912 fw_c927 ?_
      refine fV_astore_n0 hF [some (aR p0), some (aI p1), some (aR p2), some (aR (some q12))] dL_firstOf_18 rfl (by rw [hxn]; decide) rfl rfl ?_
      refine fV_iconst (v := 3) hF dL_firstOf_19 (by decide) ?_
      exact fV_iret hF hE.s (by omega) hr rfl dL_firstOf_20 ⟨_, rfl, h⟩
  · obtain ⟨v4, rfl, rfl, rfl, h⟩ := hp
    refine fV_i2l hF dL_firstOf_7 ?_
    obtain ⟨a5, e6, hA7, h⟩ := h
    obtain ⟨hix8, h⟩ := h
    refine fV_last hF e6 hA7 hix8 dL_firstOf_8 ?_
    refine fV_goto (tgt := 21) hF dL_firstOf_9 (by decide) ?_
    refine fV_iconst (v := 0) hF dL_firstOf_21 (by decide) ?_
    exact fV_iret hF hE.s (by omega) hr rfl dL_firstOf_22 ⟨_, rfl, h⟩
set_option maxRecDepth 100000 in
set_option maxHeartbeats 4000000 in
theorem mc_L_inLine {l : Launch} (hfl : l.stackTraces = false) {G : fG} {S : fMS} {n : Nat} {p0 : Option Nat} {p1 : Int32} {p2 : Option Nat} {post : Int32 → fMS → Nat → Prop} (h : wp_L_inLine S n p0 p1 p2 post) : fCX l yL_inLine (.codeWith yL_inLine cL_inLine 4 (some .int) [(0, 9, 12, 47)]) 8 G [(aR p0), (aI p1), (aR p2)] S n (fPI post) (fun _ _ _ => False) := by
  refine fCXH_of hfl (by decide) (by intro v hv; simp only [List.mem_cons, List.not_mem_nil, or_false] at hv; rcases hv with rfl | rfl | rfl <;> rfl) (Nat.le_of_ble_eq_true rfl) (fun F hF hxn hl hG hr hin htab hE => ?_)
  subst hl hG
  have hlv : 8 ≤ 8 := Nat.le_refl _
  show fV F S n 0 [some (aR p0), some (aI p1), some (aR p2), none] []
  unfold wp_L_inLine at h
  refine fV_aload_n hF dL_inLine_0 rfl rfl ?_
  refine fV_iconst (v := 0) hF dL_inLine_1 (by decide) ?_
  refine fV_aload_n hF dL_inLine_2 rfl rfl ?_
  refine fV_iload_n hF dL_inLine_3 rfl rfl ?_
  obtain ⟨a1, e2, hA3, h⟩ := h
  refine fV_callVXh (k := 4) (As := [(aI p1)]) hF (mc_X3_inLine hF.2.2.2.2.2.2.2.2.1 h) fK4 e2 hA3 (by omega) fw_1013 fw_1010 fw_1011 fw_1012 fw_1 ⟨rfl, by decide, by decide, by decide +kernel⟩ (na := 1) rfl (by decide) (Nat.le_of_ble_eq_true rfl) dL_inLine_4 rfl (fun X11 S12 n13 q14 hx => ?_) (fun rv S5 n6 hp => ?_)
  · rcases hx with ⟨rfl, h⟩
    · have h := h q14
      refine fVX_catch (S := S12) hF htab 0 rfl (by intro z hz; exact absurd hz (by simp)) ⟨by decide, by decide⟩ (by decide) fw_912 fw_c927 ?_
      refine fV_astore_n0 hF [some (aR p0), some (aI p1), some (aR p2), some (aR (some q14))] dL_inLine_12 rfl (by rw [hxn]; decide) rfl rfl ?_
      refine fV_iconst (v := 1) hF dL_inLine_13 (by decide) ?_
      exact fV_iret hF hE.s (by omega) hr rfl dL_inLine_14 ⟨_, rfl, h⟩
  · obtain ⟨v4, rfl, h⟩ := hp
    refine fV_i2l hF dL_inLine_7 ?_
    obtain ⟨a7, e8, hA9, h⟩ := h
    obtain ⟨hix10, h⟩ := h
    refine fV_last hF e8 hA9 hix10 dL_inLine_8 ?_
    refine fV_goto (tgt := 15) hF dL_inLine_9 (by decide) ?_
    refine fV_iconst (v := 0) hF dL_inLine_15 (by decide) ?_
    exact fV_iret hF hE.s (by omega) hr rfl dL_inLine_16 ⟨_, rfl, h⟩
set_option maxRecDepth 100000 in
set_option maxHeartbeats 4000000 in
theorem mc_L_reserve {l : Launch} (hfl : l.stackTraces = false) {G : fG} {S : fMS} {n : Nat} {p0 : Option Nat} {p1 : Int32} {p2 : Int32} {p3 : Int32} {p4 : Int32} {p5 : Option Nat} {post : Int32 → fMS → Nat → Prop} (h : wp_L_reserve S n p0 p1 p2 p3 p4 p5 post) : fCX l yL_reserve (.codeWith yL_reserve cL_reserve 7 (some .int) [(0, 14, 17, 13), (0, 14, 21, 15), (0, 14, 25, 22), (0, 14, 29, 17)]) 12 G [(aR p0), (aI p1), (aI p2), (aI p3), (aI p4), (aR p5)] S n (fPI post) (fun _ _ _ => False) := by
  refine fCXH_of hfl (by decide) (by intro v hv; simp only [List.mem_cons, List.not_mem_nil, or_false] at hv; rcases hv with rfl | rfl | rfl | rfl | rfl | rfl <;> rfl) (Nat.le_of_ble_eq_true rfl) (fun F hF hxn hl hG hr hin htab hE => ?_)
  subst hl hG
  have hlv : 12 ≤ 12 := Nat.le_refl _
  show fV F S n 0 [some (aR p0), some (aI p1), some (aI p2), some (aI p3), some (aI p4), some (aR p5), none] []
  unfold wp_L_reserve at h
  refine fV_aload hF dL_reserve_0 rfl ?_
  refine fV_iconst (v := 0) hF dL_reserve_2 (by decide) ?_
  refine fV_aload_n hF dL_reserve_3 rfl rfl ?_
  refine fV_iload_n hF dL_reserve_4 rfl rfl ?_
  refine fV_iload_n hF dL_reserve_5 rfl rfl ?_
  refine fV_iload_n hF dL_reserve_6 rfl rfl ?_
  refine fV_iload hF dL_reserve_7 rfl ?_
  obtain ⟨a1, e2, hA3, h⟩ := h
  refine fV_callVXh (k := 4) (As := [(aI p1), (aI p2), (aI p3), (aI p4)]) hF (mc_X3_reserve hF.2.2.2.2.2.2.2.2.1 h) fK4 e2 hA3 (by omega) fw_1021 fw_1018 fw_1019 fw_1020 fw_1 ⟨rfl, by decide, by decide, by decide +kernel⟩ (na := 4) rfl (by decide) (Nat.le_of_ble_eq_true rfl) dL_reserve_9 rfl (fun X11 S12 n13 q14 hx => ?_) (fun rv S5 n6 hp => ?_)
  · rcases hx with ⟨rfl, h⟩ | ⟨rfl, h⟩ | ⟨rfl, h⟩ | ⟨rfl, h⟩
    · have h := h q14
      refine fVX_catch (S := S12) hF htab 0 rfl (by intro z hz; exact absurd hz (by simp)) ⟨by decide, by decide⟩ (by decide) fw_719 fw_c366 ?_
      refine fV_astore0 hF [some (aR p0), some (aI p1), some (aI p2), some (aI p3), some (aI p4), some (aR p5), some (aR (some q14))] dL_reserve_17 (by rw [hxn]; decide) rfl rfl ?_
      refine fV_iconst (v := 1) hF dL_reserve_19 (by decide) ?_
      exact fV_iret hF hE.s (by omega) hr rfl dL_reserve_20 ⟨_, rfl, h⟩
    · have h := h q14
      refine fVX_catch (S := S12) hF htab 1 rfl (by intro z hz; simp only [List.take, List.mem_cons, List.not_mem_nil, or_false] at hz; subst hz; exact ⟨by decide, "java/lang/IndexOutOfBoundsException", fw_719, by decide⟩) ⟨by decide, by decide⟩ (by decide) fw_735 fw_c615 ?_
      refine fV_astore0 hF [some (aR p0), some (aI p1), some (aI p2), some (aI p3), some (aI p4), some (aR p5), some (aR (some q14))] dL_reserve_21 (by rw [hxn]; decide) rfl rfl ?_
      refine fV_iconst (v := 2) hF dL_reserve_23 (by decide) ?_
      exact fV_iret hF hE.s (by omega) hr rfl dL_reserve_24 ⟨_, rfl, h⟩
    · have h := h q14
      refine fVX_catch (S := S12) hF htab 2 rfl (by intro z hz; simp only [List.take, List.mem_cons, List.not_mem_nil, or_false] at hz; rcases hz with rfl | rfl <;> first | exact ⟨by decide, "java/lang/IndexOutOfBoundsException", fw_719, by decide⟩ | exact ⟨by decide, "java/lang/IllegalArgumentException", fw_735, by decide⟩) ⟨by decide, by decide⟩ (by decide) fw_790 fw_c801 ?_
      refine fV_astore0 hF [some (aR p0), some (aI p1), some (aI p2), some (aI p3), some (aI p4), some (aR p5), some (aR (some q14))] dL_reserve_25 (by rw [hxn]; decide) rfl rfl ?_
      refine fV_iconst (v := 3) hF dL_reserve_27 (by decide) ?_
      exact fV_iret hF hE.s (by omega) hr rfl dL_reserve_28 ⟨_, rfl, h⟩
    · have h := h q14
      refine fVX_catch (S := S12) hF htab 3 rfl (by intro z hz; simp only [List.take, List.mem_cons, List.not_mem_nil, or_false] at hz; rcases hz with rfl | rfl | rfl <;> first | exact ⟨by decide, "java/lang/IndexOutOfBoundsException", fw_719, by decide⟩ | exact ⟨by decide, "java/lang/IllegalArgumentException", fw_735, by decide⟩ | exact ⟨by decide, "java/lang/UnsupportedOperationException", fw_790, by decide⟩) ⟨by decide, by decide⟩ (by decide) fw_736 fw_c756 ?_
      refine fV_astore0 hF [some (aR p0), some (aI p1), some (aI p2), some (aI p3), some (aI p4), some (aR p5), some (aR (some q14))] dL_reserve_29 (by rw [hxn]; decide) rfl rfl ?_
      refine fV_iconst (v := 4) hF dL_reserve_31 (by decide) ?_
      exact fV_iret hF hE.s (by omega) hr rfl dL_reserve_32 ⟨_, rfl, h⟩
  · obtain ⟨v4, rfl, h⟩ := hp
    refine fV_i2l hF dL_reserve_12 ?_
    obtain ⟨a7, e8, hA9, h⟩ := h
    obtain ⟨hix10, h⟩ := h
    refine fV_last hF e8 hA9 hix10 dL_reserve_13 ?_
    refine fV_goto (tgt := 33) hF dL_reserve_14 (by decide) ?_
    refine fV_iconst (v := 0) hF dL_reserve_33 (by decide) ?_
    exact fV_iret hF hE.s (by omega) hr rfl dL_reserve_34 ⟨_, rfl, h⟩
set_option maxRecDepth 100000 in
set_option maxHeartbeats 4000000 in
theorem mc_L_drop {l : Launch} (hfl : l.stackTraces = false) {G : fG} {S : fMS} {n : Nat} {p0 : Option Nat} {p1 : Int32} {p2 : Int32} {p3 : Int32} {p4 : Option Nat} {post : Int32 → fMS → Nat → Prop} (h : wp_L_drop S n p0 p1 p2 p3 p4 post) : fCX l yL_drop (.codeWith yL_drop cL_drop 6 (some .int) [(0, 12, 15, 47)]) 12 G [(aR p0), (aI p1), (aI p2), (aI p3), (aR p4)] S n (fPI post) (fun _ _ _ => False) := by
  refine fCXH_of hfl (by decide) (by intro v hv; simp only [List.mem_cons, List.not_mem_nil, or_false] at hv; rcases hv with rfl | rfl | rfl | rfl | rfl <;> rfl) (Nat.le_of_ble_eq_true rfl) (fun F hF hxn hl hG hr hin htab hE => ?_)
  subst hl hG
  have hlv : 12 ≤ 12 := Nat.le_refl _
  show fV F S n 0 [some (aR p0), some (aI p1), some (aI p2), some (aI p3), some (aR p4), none] []
  unfold wp_L_drop at h
  refine fV_aload hF dL_drop_0 rfl ?_
  refine fV_iconst (v := 0) hF dL_drop_2 (by decide) ?_
  refine fV_aload_n hF dL_drop_3 rfl rfl ?_
  refine fV_iload_n hF dL_drop_4 rfl rfl ?_
  refine fV_iload_n hF dL_drop_5 rfl rfl ?_
  refine fV_iload_n hF dL_drop_6 rfl rfl ?_
  obtain ⟨a1, e2, hA3, h⟩ := h
  refine fV_callVXh (k := 4) (As := [(aI p1), (aI p2), (aI p3)]) hF (mc_X3_drop hF.2.2.2.2.2.2.2.2.1 h) fK4 e2 hA3 (by omega) fw_1055 fw_1052 fw_1053 fw_1054 fw_1 ⟨rfl, by decide, by decide, by decide +kernel⟩ (na := 3) rfl (by decide) (Nat.le_of_ble_eq_true rfl) dL_drop_7 rfl (fun X11 S12 n13 q14 hx => ?_) (fun rv S5 n6 hp => ?_)
  · rcases hx with ⟨rfl, h⟩
    · have h := h q14
      refine fVX_catch (S := S12) hF htab 0 rfl (by intro z hz; exact absurd hz (by simp)) ⟨by decide, by decide⟩ (by decide) fw_912 fw_c927 ?_
      refine fV_astore0 hF [some (aR p0), some (aI p1), some (aI p2), some (aI p3), some (aR p4), some (aR (some q14))] dL_drop_15 (by rw [hxn]; decide) rfl rfl ?_
      refine fV_iconst (v := 1) hF dL_drop_17 (by decide) ?_
      exact fV_iret hF hE.s (by omega) hr rfl dL_drop_18 ⟨_, rfl, h⟩
  · obtain ⟨v4, rfl, h⟩ := hp
    refine fV_i2l hF dL_drop_10 ?_
    obtain ⟨a7, e8, hA9, h⟩ := h
    obtain ⟨hix10, h⟩ := h
    refine fV_last hF e8 hA9 hix10 dL_drop_11 ?_
    refine fV_goto (tgt := 19) hF dL_drop_12 (by decide) ?_
    refine fV_iconst (v := 0) hF dL_drop_19 (by decide) ?_
    exact fV_iret hF hE.s (by omega) hr rfl dL_drop_20 ⟨_, rfl, h⟩
set_option maxRecDepth 100000 in
set_option maxHeartbeats 4000000 in
theorem mc_L_reserved {l : Launch} (hfl : l.stackTraces = false) {G : fG} {S : fMS} {n : Nat} {p0 : Option Nat} {p1 : Int32} {p2 : Option Nat} {post : Int32 → fMS → Nat → Prop} (h : wp_L_reserved S n p0 p1 p2 post) : fCX l yL_reserved (.codeWith yL_reserved cL_reserved 4 (some .int) [(0, 9, 12, 13), (0, 9, 15, 22)]) 7 G [(aR p0), (aI p1), (aR p2)] S n (fPI post) (fun _ _ _ => False) := by
  refine fCXH_of hfl (by decide) (by intro v hv; simp only [List.mem_cons, List.not_mem_nil, or_false] at hv; rcases hv with rfl | rfl | rfl <;> rfl) (Nat.le_of_ble_eq_true rfl) (fun F hF hxn hl hG hr hin htab hE => ?_)
  subst hl hG
  have hlv : 7 ≤ 7 := Nat.le_refl _
  show fV F S n 0 [some (aR p0), some (aI p1), some (aR p2), none] []
  unfold wp_L_reserved at h
  refine fV_aload_n hF dL_reserved_0 rfl rfl ?_
  refine fV_iconst (v := 0) hF dL_reserved_1 (by decide) ?_
  refine fV_aload_n hF dL_reserved_2 rfl rfl ?_
  refine fV_iload_n hF dL_reserved_3 rfl rfl ?_
  obtain ⟨a1, e2, hA3, h⟩ := h
  refine fV_callVXh (k := 4) (As := [(aI p1)]) hF (mc_X3_reserved hF.2.2.2.2.2.2.2.2.1 h) fK4 e2 hA3 (by omega) fw_1067 fw_1064 fw_1065 fw_1066 fw_1 ⟨rfl, by decide, by decide, by decide +kernel⟩ (na := 1) rfl (by decide) (Nat.le_of_ble_eq_true rfl) dL_reserved_4 rfl (fun X11 S12 n13 q14 hx => ?_) (fun rv S5 n6 hp => ?_)
  · rcases hx with ⟨rfl, h⟩ | ⟨rfl, h⟩
    · have h := h q14
      refine fVX_catch (S := S12) hF htab 0 rfl (by intro z hz; exact absurd hz (by simp)) ⟨by decide, by decide⟩ (by decide) fw_719 fw_c366 ?_
      refine fV_astore_n0 hF [some (aR p0), some (aI p1), some (aR p2), some (aR (some q14))] dL_reserved_12 rfl (by rw [hxn]; decide) rfl rfl ?_
      refine fV_iconst (v := 1) hF dL_reserved_13 (by decide) ?_
      exact fV_iret hF hE.s (by omega) hr rfl dL_reserved_14 ⟨_, rfl, h⟩
    · have h := h q14
      refine fVX_catch (S := S12) hF htab 1 rfl (by intro z hz; simp only [List.take, List.mem_cons, List.not_mem_nil, or_false] at hz; subst hz; exact ⟨by decide, "java/lang/IndexOutOfBoundsException", fw_719, by decide⟩) ⟨by decide, by decide⟩ (by decide) fw_790 fw_c801 ?_
      refine fV_astore_n0 hF [some (aR p0), some (aI p1), some (aR p2), some (aR (some q14))] dL_reserved_15 rfl (by rw [hxn]; decide) rfl rfl ?_
      refine fV_iconst (v := 2) hF dL_reserved_16 (by decide) ?_
      exact fV_iret hF hE.s (by omega) hr rfl dL_reserved_17 ⟨_, rfl, h⟩
  · obtain ⟨v4, rfl, h⟩ := hp
    refine fV_i2l hF dL_reserved_7 ?_
    obtain ⟨a7, e8, hA9, h⟩ := h
    obtain ⟨hix10, h⟩ := h
    refine fV_last hF e8 hA9 hix10 dL_reserved_8 ?_
    refine fV_goto (tgt := 18) hF dL_reserved_9 (by decide) ?_
    refine fV_iconst (v := 0) hF dL_reserved_18 (by decide) ?_
    exact fV_iret hF hE.s (by omega) hr rfl dL_reserved_19 ⟨_, rfl, h⟩
set_option maxRecDepth 100000 in
set_option maxHeartbeats 4000000 in
theorem mc_L_running {l : Launch} (hfl : l.stackTraces = false) {G : fG} {S : fMS} {n : Nat} {p0 : Option Nat} {p1 : Int32} {p2 : Option Nat} {post : Int32 → fMS → Nat → Prop} (h : wp_L_running S n p0 p1 p2 post) : fCX l yL_running (.codeWith yL_running cL_running 4 (some .int) [(0, 9, 12, 13)]) 6 G [(aR p0), (aI p1), (aR p2)] S n (fPI post) (fun _ _ _ => False) := by
  refine fCXH_of hfl (by decide) (by intro v hv; simp only [List.mem_cons, List.not_mem_nil, or_false] at hv; rcases hv with rfl | rfl | rfl <;> rfl) (Nat.le_of_ble_eq_true rfl) (fun F hF hxn hl hG hr hin htab hE => ?_)
  subst hl hG
  have hlv : 6 ≤ 6 := Nat.le_refl _
  show fV F S n 0 [some (aR p0), some (aI p1), some (aR p2), none] []
  unfold wp_L_running at h
  refine fV_aload_n hF dL_running_0 rfl rfl ?_
  refine fV_iconst (v := 0) hF dL_running_1 (by decide) ?_
  refine fV_aload_n hF dL_running_2 rfl rfl ?_
  refine fV_iload_n hF dL_running_3 rfl rfl ?_
  obtain ⟨a1, e2, hA3, h⟩ := h
  refine fV_callVXh (k := 4) (As := [(aI p1)]) hF (mc_X3_running hF.2.2.2.2.2.2.2.2.1 h) fK4 e2 hA3 (by omega) fw_1074 fw_1071 fw_1072 fw_1073 fw_1 ⟨rfl, by decide, by decide, by decide +kernel⟩ (na := 1) rfl (by decide) (Nat.le_of_ble_eq_true rfl) dL_running_4 rfl (fun X9 S10 n11 q12 hx => ?_) (fun rv S9 n9 hp => ?_)
  · rcases hx with ⟨rfl, h⟩
    · have h := h q12
      refine fVX_catch (S := S10) hF htab 0 rfl (by intro z hz; exact absurd hz (by simp)) ⟨by decide, by decide⟩ (by decide) fw_719 fw_c366 ?_
      refine fV_astore_n0 hF [some (aR p0), some (aI p1), some (aR p2), some (aR (some q12))] dL_running_12 rfl (by rw [hxn]; decide) rfl rfl ?_
      refine fV_iconst (v := 1) hF dL_running_13 (by decide) ?_
      exact fV_iret hF hE.s (by omega) hr rfl dL_running_14 ⟨_, rfl, h⟩
  · obtain ⟨v4, rfl, rfl, rfl, h⟩ := hp
    refine fV_i2l hF dL_running_7 ?_
    obtain ⟨a5, e6, hA7, h⟩ := h
    obtain ⟨hix8, h⟩ := h
    refine fV_last hF e6 hA7 hix8 dL_running_8 ?_
    refine fV_goto (tgt := 15) hF dL_running_9 (by decide) ?_
    refine fV_iconst (v := 0) hF dL_running_15 (by decide) ?_
    exact fV_iret hF hE.s (by omega) hr rfl dL_running_16 ⟨_, rfl, h⟩
set_option maxRecDepth 100000 in
set_option maxHeartbeats 4000000 in
theorem mc_L_demand {l : Launch} (hfl : l.stackTraces = false) {G : fG} {S : fMS} {n : Nat} {p0 : Option Nat} {p1 : Int32} {p2 : Option Nat} {post : Int32 → fMS → Nat → Prop} (h : wp_L_demand S n p0 p1 p2 post) : fCX l yL_demand (.codeWith yL_demand cL_demand 4 (some .int) [(0, 9, 12, 13)]) 6 G [(aR p0), (aI p1), (aR p2)] S n (fPI post) (fun _ _ _ => False) := by
  refine fCXH_of hfl (by decide) (by intro v hv; simp only [List.mem_cons, List.not_mem_nil, or_false] at hv; rcases hv with rfl | rfl | rfl <;> rfl) (Nat.le_of_ble_eq_true rfl) (fun F hF hxn hl hG hr hin htab hE => ?_)
  subst hl hG
  have hlv : 6 ≤ 6 := Nat.le_refl _
  show fV F S n 0 [some (aR p0), some (aI p1), some (aR p2), none] []
  unfold wp_L_demand at h
  refine fV_aload_n hF dL_demand_0 rfl rfl ?_
  refine fV_iconst (v := 0) hF dL_demand_1 (by decide) ?_
  refine fV_aload_n hF dL_demand_2 rfl rfl ?_
  refine fV_iload_n hF dL_demand_3 rfl rfl ?_
  obtain ⟨a1, e2, hA3, h⟩ := h
  refine fV_callVXh (k := 4) (As := [(aI p1)]) hF (mc_X3_demand hF.2.2.2.2.2.2.2.2.1 h) fK4 e2 hA3 (by omega) fw_1081 fw_1078 fw_1079 fw_1080 fw_1 ⟨rfl, by decide, by decide, by decide +kernel⟩ (na := 1) rfl (by decide) (Nat.le_of_ble_eq_true rfl) dL_demand_4 rfl (fun X11 S12 n13 q14 hx => ?_) (fun rv S5 n6 hp => ?_)
  · rcases hx with ⟨rfl, h⟩
    · have h := h q14
      refine fVX_catch (S := S12) hF htab 0 rfl (by intro z hz; exact absurd hz (by simp)) ⟨by decide, by decide⟩ (by decide) fw_719 fw_c366 ?_
      refine fV_astore_n0 hF [some (aR p0), some (aI p1), some (aR p2), some (aR (some q14))] dL_demand_12 rfl (by rw [hxn]; decide) rfl rfl ?_
      refine fV_iconst (v := 1) hF dL_demand_13 (by decide) ?_
      exact fV_iret hF hE.s (by omega) hr rfl dL_demand_14 ⟨_, rfl, h⟩
  · obtain ⟨v4, rfl, h⟩ := hp
    refine fV_i2l hF dL_demand_7 ?_
    obtain ⟨a7, e8, hA9, h⟩ := h
    obtain ⟨hix10, h⟩ := h
    refine fV_last hF e8 hA9 hix10 dL_demand_8 ?_
    refine fV_goto (tgt := 15) hF dL_demand_9 (by decide) ?_
    refine fV_iconst (v := 0) hF dL_demand_15 (by decide) ?_
    exact fV_iret hF hE.s (by omega) hr rfl dL_demand_16 ⟨_, rfl, h⟩
set_option maxRecDepth 100000 in
set_option maxHeartbeats 4000000 in
theorem mc_L_share {l : Launch} (hfl : l.stackTraces = false) {G : fG} {S : fMS} {n : Nat} {p0 : Option Nat} {p1 : Int32} {p2 : Option Nat} {post : Int32 → fMS → Nat → Prop} (h : wp_L_share S n p0 p1 p2 post) : fCX l yL_share (.codeWith yL_share cL_share 4 (some .int) [(0, 9, 12, 13)]) 9 G [(aR p0), (aI p1), (aR p2)] S n (fPI post) (fun _ _ _ => False) := by
  refine fCXH_of hfl (by decide) (by intro v hv; simp only [List.mem_cons, List.not_mem_nil, or_false] at hv; rcases hv with rfl | rfl | rfl <;> rfl) (Nat.le_of_ble_eq_true rfl) (fun F hF hxn hl hG hr hin htab hE => ?_)
  subst hl hG
  have hlv : 9 ≤ 9 := Nat.le_refl _
  show fV F S n 0 [some (aR p0), some (aI p1), some (aR p2), none] []
  unfold wp_L_share at h
  refine fV_aload_n hF dL_share_0 rfl rfl ?_
  refine fV_iconst (v := 0) hF dL_share_1 (by decide) ?_
  refine fV_aload_n hF dL_share_2 rfl rfl ?_
  refine fV_iload_n hF dL_share_3 rfl rfl ?_
  obtain ⟨a1, e2, hA3, h⟩ := h
  refine fV_callVXh (k := 4) (As := [(aI p1)]) hF (mc_X3_share hF.2.2.2.2.2.2.2.2.1 h) fK4 e2 hA3 (by omega) fw_1088 fw_1085 fw_1086 fw_1087 fw_1 ⟨rfl, by decide, by decide, by decide +kernel⟩ (na := 1) rfl (by decide) (Nat.le_of_ble_eq_true rfl) dL_share_4 rfl (fun X11 S12 n13 q14 hx => ?_) (fun rv S5 n6 hp => ?_)
  · rcases hx with ⟨rfl, h⟩
    · have h := h q14
      refine fVX_catch (S := S12) hF htab 0 rfl (by intro z hz; exact absurd hz (by simp)) ⟨by decide, by decide⟩ (by decide) fw_719 fw_c366 ?_
      refine fV_astore_n0 hF [some (aR p0), some (aI p1), some (aR p2), some (aR (some q14))] dL_share_12 rfl (by rw [hxn]; decide) rfl rfl ?_
      refine fV_iconst (v := 1) hF dL_share_13 (by decide) ?_
      exact fV_iret hF hE.s (by omega) hr rfl dL_share_14 ⟨_, rfl, h⟩
  · obtain ⟨v4, rfl, h⟩ := hp
    refine fV_i2l hF dL_share_7 ?_
    obtain ⟨a7, e8, hA9, h⟩ := h
    obtain ⟨hix10, h⟩ := h
    refine fV_last hF e8 hA9 hix10 dL_share_8 ?_
    refine fV_goto (tgt := 15) hF dL_share_9 (by decide) ?_
    refine fV_iconst (v := 0) hF dL_share_15 (by decide) ?_
    exact fV_iret hF hE.s (by omega) hr rfl dL_share_16 ⟨_, rfl, h⟩
set_option maxRecDepth 100000 in
set_option maxHeartbeats 4000000 in
theorem mc_L_shareByLevels {l : Launch} (hfl : l.stackTraces = false) {G : fG} {S : fMS} {n : Nat} {p0 : Option Nat} {p1 : Int32} {p2 : Option Nat} {post : Int32 → fMS → Nat → Prop} (h : wp_L_shareByLevels S n p0 p1 p2 post) : fCX l yL_shareByLevels (.codeWith yL_shareByLevels cL_shareByLevels 4 (some .int) [(0, 9, 12, 13)]) 9 G [(aR p0), (aI p1), (aR p2)] S n (fPI post) (fun _ _ _ => False) := by
  refine fCXH_of hfl (by decide) (by intro v hv; simp only [List.mem_cons, List.not_mem_nil, or_false] at hv; rcases hv with rfl | rfl | rfl <;> rfl) (Nat.le_of_ble_eq_true rfl) (fun F hF hxn hl hG hr hin htab hE => ?_)
  subst hl hG
  have hlv : 9 ≤ 9 := Nat.le_refl _
  show fV F S n 0 [some (aR p0), some (aI p1), some (aR p2), none] []
  unfold wp_L_shareByLevels at h
  refine fV_aload_n hF dL_shareByLevels_0 rfl rfl ?_
  refine fV_iconst (v := 0) hF dL_shareByLevels_1 (by decide) ?_
  refine fV_aload_n hF dL_shareByLevels_2 rfl rfl ?_
  refine fV_iload_n hF dL_shareByLevels_3 rfl rfl ?_
  obtain ⟨a1, e2, hA3, h⟩ := h
  refine fV_callVXh (k := 4) (As := [(aI p1)]) hF (mc_X3_shareByLevels hF.2.2.2.2.2.2.2.2.1 h) fK4 e2 hA3 (by omega) fw_1095 fw_1092 fw_1093 fw_1094 fw_1 ⟨rfl, by decide, by decide, by decide +kernel⟩ (na := 1) rfl (by decide) (Nat.le_of_ble_eq_true rfl) dL_shareByLevels_4 rfl (fun X11 S12 n13 q14 hx => ?_) (fun rv S5 n6 hp => ?_)
  · rcases hx with ⟨rfl, h⟩
    · have h := h q14
      refine fVX_catch (S := S12) hF htab 0 rfl (by intro z hz; exact absurd hz (by simp)) ⟨by decide, by decide⟩ (by decide) fw_719 fw_c366 ?_
      refine fV_astore_n0 hF [some (aR p0), some (aI p1), some (aR p2), some (aR (some q14))] dL_shareByLevels_12 rfl (by rw [hxn]; decide) rfl rfl ?_
      refine fV_iconst (v := 1) hF dL_shareByLevels_13 (by decide) ?_
      exact fV_iret hF hE.s (by omega) hr rfl dL_shareByLevels_14 ⟨_, rfl, h⟩
  · obtain ⟨v4, rfl, h⟩ := hp
    refine fV_i2l hF dL_shareByLevels_7 ?_
    obtain ⟨a7, e8, hA9, h⟩ := h
    obtain ⟨hix10, h⟩ := h
    refine fV_last hF e8 hA9 hix10 dL_shareByLevels_8 ?_
    refine fV_goto (tgt := 15) hF dL_shareByLevels_9 (by decide) ?_
    refine fV_iconst (v := 0) hF dL_shareByLevels_15 (by decide) ?_
    exact fV_iret hF hE.s (by omega) hr rfl dL_shareByLevels_16 ⟨_, rfl, h⟩
set_option maxRecDepth 100000 in
set_option maxHeartbeats 4000000 in
theorem mc_L_due {l : Launch} (hfl : l.stackTraces = false) {G : fG} {S : fMS} {n : Nat} {p0 : Option Nat} {p1 : Int32} {p2 : Option Nat} {post : Int32 → fMS → Nat → Prop} (h : wp_L_due S n p0 p1 p2 post) : fCX l yL_due (.codeWith yL_due cL_due 4 (some .int) [(0, 9, 12, 13), (0, 9, 15, 22)]) 10 G [(aR p0), (aI p1), (aR p2)] S n (fPI post) (fun _ _ _ => False) := by
  refine fCXH_of hfl (by decide) (by intro v hv; simp only [List.mem_cons, List.not_mem_nil, or_false] at hv; rcases hv with rfl | rfl | rfl <;> rfl) (Nat.le_of_ble_eq_true rfl) (fun F hF hxn hl hG hr hin htab hE => ?_)
  subst hl hG
  have hlv : 10 ≤ 10 := Nat.le_refl _
  show fV F S n 0 [some (aR p0), some (aI p1), some (aR p2), none] []
  unfold wp_L_due at h
  refine fV_aload_n hF dL_due_0 rfl rfl ?_
  refine fV_iconst (v := 0) hF dL_due_1 (by decide) ?_
  refine fV_aload_n hF dL_due_2 rfl rfl ?_
  refine fV_iload_n hF dL_due_3 rfl rfl ?_
  obtain ⟨a1, e2, hA3, h⟩ := h
  refine fV_callVXh (k := 4) (As := [(aI p1)]) hF (mc_X3_due hF.2.2.2.2.2.2.2.2.1 h) fK4 e2 hA3 (by omega) fw_1102 fw_1099 fw_1100 fw_1101 fw_1 ⟨rfl, by decide, by decide, by decide +kernel⟩ (na := 1) rfl (by decide) (Nat.le_of_ble_eq_true rfl) dL_due_4 rfl (fun X11 S12 n13 q14 hx => ?_) (fun rv S5 n6 hp => ?_)
  · rcases hx with ⟨rfl, h⟩ | ⟨rfl, h⟩
    · have h := h q14
      refine fVX_catch (S := S12) hF htab 0 rfl (by intro z hz; exact absurd hz (by simp)) ⟨by decide, by decide⟩ (by decide) fw_719 fw_c366 ?_
      refine fV_astore_n0 hF [some (aR p0), some (aI p1), some (aR p2), some (aR (some q14))] dL_due_12 rfl (by rw [hxn]; decide) rfl rfl ?_
      refine fV_iconst (v := 1) hF dL_due_13 (by decide) ?_
      exact fV_iret hF hE.s (by omega) hr rfl dL_due_14 ⟨_, rfl, h⟩
    · have h := h q14
      refine fVX_catch (S := S12) hF htab 1 rfl (by intro z hz; simp only [List.take, List.mem_cons, List.not_mem_nil, or_false] at hz; subst hz; exact ⟨by decide, "java/lang/IndexOutOfBoundsException", fw_719, by decide⟩) ⟨by decide, by decide⟩ (by decide) fw_790 fw_c801 ?_
      refine fV_astore_n0 hF [some (aR p0), some (aI p1), some (aR p2), some (aR (some q14))] dL_due_15 rfl (by rw [hxn]; decide) rfl rfl ?_
      refine fV_iconst (v := 2) hF dL_due_16 (by decide) ?_
      exact fV_iret hF hE.s (by omega) hr rfl dL_due_17 ⟨_, rfl, h⟩
  · obtain ⟨v4, rfl, h⟩ := hp
    refine fV_i2l hF dL_due_7 ?_
    obtain ⟨a7, e8, hA9, h⟩ := h
    obtain ⟨hix10, h⟩ := h
    refine fV_last hF e8 hA9 hix10 dL_due_8 ?_
    refine fV_goto (tgt := 18) hF dL_due_9 (by decide) ?_
    refine fV_iconst (v := 0) hF dL_due_18 (by decide) ?_
    exact fV_iret hF hE.s (by omega) hr rfl dL_due_19 ⟨_, rfl, h⟩
set_option maxRecDepth 100000 in
set_option maxHeartbeats 4000000 in
theorem mc_L_freeFor {l : Launch} (hfl : l.stackTraces = false) {G : fG} {S : fMS} {n : Nat} {p0 : Option Nat} {p1 : Int32} {p2 : Option Nat} {post : Int32 → fMS → Nat → Prop} (h : wp_L_freeFor S n p0 p1 p2 post) : fCX l yL_freeFor (.codeWith yL_freeFor cL_freeFor 4 (some .int) [(0, 9, 12, 13), (0, 9, 15, 22)]) 7 G [(aR p0), (aI p1), (aR p2)] S n (fPI post) (fun _ _ _ => False) := by
  refine fCXH_of hfl (by decide) (by intro v hv; simp only [List.mem_cons, List.not_mem_nil, or_false] at hv; rcases hv with rfl | rfl | rfl <;> rfl) (Nat.le_of_ble_eq_true rfl) (fun F hF hxn hl hG hr hin htab hE => ?_)
  subst hl hG
  have hlv : 7 ≤ 7 := Nat.le_refl _
  show fV F S n 0 [some (aR p0), some (aI p1), some (aR p2), none] []
  unfold wp_L_freeFor at h
  refine fV_aload_n hF dL_freeFor_0 rfl rfl ?_
  refine fV_iconst (v := 0) hF dL_freeFor_1 (by decide) ?_
  refine fV_aload_n hF dL_freeFor_2 rfl rfl ?_
  refine fV_iload_n hF dL_freeFor_3 rfl rfl ?_
  obtain ⟨a1, e2, hA3, h⟩ := h
  refine fV_callVXh (k := 4) (As := [(aI p1)]) hF (mc_X3_freeFor hF.2.2.2.2.2.2.2.2.1 h) fK4 e2 hA3 (by omega) fw_1109 fw_1106 fw_1107 fw_1108 fw_1 ⟨rfl, by decide, by decide, by decide +kernel⟩ (na := 1) rfl (by decide) (Nat.le_of_ble_eq_true rfl) dL_freeFor_4 rfl (fun X11 S12 n13 q14 hx => ?_) (fun rv S5 n6 hp => ?_)
  · rcases hx with ⟨rfl, h⟩ | ⟨rfl, h⟩
    · have h := h q14
      refine fVX_catch (S := S12) hF htab 0 rfl (by intro z hz; exact absurd hz (by simp)) ⟨by decide, by decide⟩ (by decide) fw_719 fw_c366 ?_
      refine fV_astore_n0 hF [some (aR p0), some (aI p1), some (aR p2), some (aR (some q14))] dL_freeFor_12 rfl (by rw [hxn]; decide) rfl rfl ?_
      refine fV_iconst (v := 1) hF dL_freeFor_13 (by decide) ?_
      exact fV_iret hF hE.s (by omega) hr rfl dL_freeFor_14 ⟨_, rfl, h⟩
    · have h := h q14
      refine fVX_catch (S := S12) hF htab 1 rfl (by intro z hz; simp only [List.take, List.mem_cons, List.not_mem_nil, or_false] at hz; subst hz; exact ⟨by decide, "java/lang/IndexOutOfBoundsException", fw_719, by decide⟩) ⟨by decide, by decide⟩ (by decide) fw_790 fw_c801 ?_
      refine fV_astore_n0 hF [some (aR p0), some (aI p1), some (aR p2), some (aR (some q14))] dL_freeFor_15 rfl (by rw [hxn]; decide) rfl rfl ?_
      refine fV_iconst (v := 2) hF dL_freeFor_16 (by decide) ?_
      exact fV_iret hF hE.s (by omega) hr rfl dL_freeFor_17 ⟨_, rfl, h⟩
  · obtain ⟨v4, rfl, h⟩ := hp
    refine fV_i2l hF dL_freeFor_7 ?_
    obtain ⟨a7, e8, hA9, h⟩ := h
    obtain ⟨hix10, h⟩ := h
    refine fV_last hF e8 hA9 hix10 dL_freeFor_8 ?_
    refine fV_goto (tgt := 18) hF dL_freeFor_9 (by decide) ?_
    refine fV_iconst (v := 0) hF dL_freeFor_18 (by decide) ?_
    exact fV_iret hF hE.s (by omega) hr rfl dL_freeFor_19 ⟨_, rfl, h⟩
set_option maxRecDepth 100000 in
set_option maxHeartbeats 4000000 in
theorem mc_L_use {l : Launch} (hfl : l.stackTraces = false) {G : fG} {S : fMS} {n : Nat} {p0 : Option Nat} {p1 : Int32} {p2 : Option Nat} {post : Int32 → fMS → Nat → Prop} (h : wp_L_use S n p0 p1 p2 post) : fCX l yL_use (.codeWith yL_use cL_use 4 (some .int) [(0, 8, 11, 13), (0, 8, 14, 22)]) 7 G [(aR p0), (aI p1), (aR p2)] S n (fPI post) (fun _ _ _ => False) := by
  refine fCXH_of hfl (by decide) (by intro v hv; simp only [List.mem_cons, List.not_mem_nil, or_false] at hv; rcases hv with rfl | rfl | rfl <;> rfl) (Nat.le_of_ble_eq_true rfl) (fun F hF hxn hl hG hr hin htab hE => ?_)
  subst hl hG
  have hlv : 7 ≤ 7 := Nat.le_refl _
  show fV F S n 0 [some (aR p0), some (aI p1), some (aR p2), none] []
  unfold wp_L_use at h
  refine fV_aload_n hF dL_use_0 rfl rfl ?_
  refine fV_iconst (v := 0) hF dL_use_1 (by decide) ?_
  refine fV_aload_n hF dL_use_2 rfl rfl ?_
  refine fV_iload_n hF dL_use_3 rfl rfl ?_
  obtain ⟨a1, e2, hA3, h⟩ := h
  refine fV_callVXh (k := 4) (As := [(aI p1)]) hF (mc_X3_use hF.2.2.2.2.2.2.2.2.1 h) fK4 e2 hA3 (by omega) fw_1116 fw_1113 fw_1114 fw_1115 fw_1 ⟨rfl, by decide, by decide, by decide +kernel⟩ (na := 1) rfl (by decide) (Nat.le_of_ble_eq_true rfl) dL_use_4 rfl (fun X9 S10 n11 q12 hx => ?_) (fun rv S9 n9 hp => ?_)
  · rcases hx with ⟨rfl, h⟩ | ⟨rfl, h⟩
    · have h := h q12
      refine fVX_catch (S := S10) hF htab 0 rfl (by intro z hz; exact absurd hz (by simp)) ⟨by decide, by decide⟩ (by decide) fw_719 fw_c366 ?_
      refine fV_astore_n0 hF [some (aR p0), some (aI p1), some (aR p2), some (aR (some q12))] dL_use_11 rfl (by rw [hxn]; decide) rfl rfl ?_
      refine fV_iconst (v := 1) hF dL_use_12 (by decide) ?_
      exact fV_iret hF hE.s (by omega) hr rfl dL_use_13 ⟨_, rfl, h⟩
    · have h := h q12
      refine fVX_catch (S := S10) hF htab 1 rfl (by intro z hz; simp only [List.take, List.mem_cons, List.not_mem_nil, or_false] at hz; subst hz; exact ⟨by decide, "java/lang/IndexOutOfBoundsException", fw_719, by decide⟩) ⟨by decide, by decide⟩ (by decide) fw_790 fw_c801 ?_
      refine fV_astore_n0 hF [some (aR p0), some (aI p1), some (aR p2), some (aR (some q12))] dL_use_14 rfl (by rw [hxn]; decide) rfl rfl ?_
      refine fV_iconst (v := 2) hF dL_use_15 (by decide) ?_
      exact fV_iret hF hE.s (by omega) hr rfl dL_use_16 ⟨_, rfl, h⟩
  · obtain ⟨z4, rfl, rfl, rfl, h⟩ := hp
    obtain ⟨a5, e6, hA7, h⟩ := h
    obtain ⟨hix8, h⟩ := h
    refine fV_last hF e6 hA7 hix8 dL_use_7 ?_
    refine fV_goto (tgt := 17) hF dL_use_8 (by decide) ?_
    refine fV_iconst (v := 0) hF dL_use_17 (by decide) ?_
    exact fV_iret hF hE.s (by omega) hr rfl dL_use_18 ⟨_, rfl, h⟩
set_option maxRecDepth 100000 in
set_option maxHeartbeats 4000000 in
theorem mc_L_usedShare {l : Launch} (hfl : l.stackTraces = false) {G : fG} {S : fMS} {n : Nat} {p0 : Option Nat} {p1 : Option Nat} {post : Int32 → fMS → Nat → Prop} (h : wp_L_usedShare S n p0 p1 post) : fCX l yL_usedShare (.codeWith yL_usedShare cL_usedShare 3 (some .int) [(0, 8, 11, 104)]) 2 G [(aR p0), (aR p1)] S n (fPI post) (fun _ _ _ => False) := by
  refine fCXH_of hfl (by decide) (by intro v hv; simp only [List.mem_cons, List.not_mem_nil, or_false] at hv; rcases hv with rfl | rfl <;> rfl) (Nat.le_of_ble_eq_true rfl) (fun F hF hxn hl hG hr hin htab hE => ?_)
  subst hl hG
  have hlv : 2 ≤ 2 := Nat.le_refl _
  show fV F S n 0 [some (aR p0), some (aR p1), none] []
  unfold wp_L_usedShare at h
  refine fV_aload_n hF dL_usedShare_0 rfl rfl ?_
  refine fV_iconst (v := 0) hF dL_usedShare_1 (by decide) ?_
  refine fV_aload_n hF dL_usedShare_2 rfl rfl ?_
  obtain ⟨a1, e2, hA3, h⟩ := h
  refine fV_callVXh (k := 4) (As := []) hF (mc_X3_usedShare hF.2.2.2.2.2.2.2.2.1 h) fK4 e2 hA3 (by omega) fw_1137 fw_1134 fw_1135 fw_1136 fw_1 ⟨rfl, by decide, by decide, by decide +kernel⟩ (na := 0) rfl (by decide) (Nat.le_of_ble_eq_true rfl) dL_usedShare_3 rfl (fun X10 S11 n12 q13 hx => ?_) (fun rv S9 n9 hp => ?_)
  · rcases hx with ⟨rfl, h⟩
    · have h := h q13
      refine fVX_catch (S := S11) hF htab 0 rfl (by intro z hz; exact absurd hz (by simp)) ⟨by decide, by decide⟩ (by decide) fw_1120 fw_c1132 ?_
      refine fV_astore_n0 hF [some (aR p0), some (aR p1), some (aR (some q13))] dL_usedShare_11 rfl (by rw [hxn]; decide) rfl rfl ?_
      refine fV_iconst (v := 1) hF dL_usedShare_12 (by decide) ?_
      exact fV_iret hF hE.s (by omega) hr rfl dL_usedShare_13 ⟨_, rfl, h⟩
  · obtain ⟨u4, rfl, rfl, rfl, h⟩ := hp
    obtain ⟨hne5, h⟩ := h
    refine fV_f2d hF dL_usedShare_6 hne5 ?_
    obtain ⟨a6, e7, hA8, h⟩ := h
    obtain ⟨hix9, h⟩ := h
    refine fV_dast hF e7 hA8 hix9 dL_usedShare_7 ?_
    refine fV_goto (tgt := 14) hF dL_usedShare_8 (by decide) ?_
    refine fV_iconst (v := 0) hF dL_usedShare_14 (by decide) ?_
    exact fV_iret hF hE.s (by omega) hr rfl dL_usedShare_15 ⟨_, rfl, h⟩
set_option maxRecDepth 100000 in
set_option maxHeartbeats 4000000 in
theorem mc_L_meanStops {l : Launch} (hfl : l.stackTraces = false) {G : fG} {S : fMS} {n : Nat} {p0 : Option Nat} {p1 : Option Nat} {post : Int32 → fMS → Nat → Prop} (h : wp_L_meanStops S n p0 p1 post) : fCX l yL_meanStops (.codeWith yL_meanStops cL_meanStops 3 (some .int) [(0, 7, 10, 104)]) 5 G [(aR p0), (aR p1)] S n (fPI post) (fun _ _ _ => False) := by
  refine fCXH_of hfl (by decide) (by intro v hv; simp only [List.mem_cons, List.not_mem_nil, or_false] at hv; rcases hv with rfl | rfl <;> rfl) (Nat.le_of_ble_eq_true rfl) (fun F hF hxn hl hG hr hin htab hE => ?_)
  subst hl hG
  have hlv : 5 ≤ 5 := Nat.le_refl _
  show fV F S n 0 [some (aR p0), some (aR p1), none] []
  unfold wp_L_meanStops at h
  refine fV_aload_n hF dL_meanStops_0 rfl rfl ?_
  refine fV_iconst (v := 0) hF dL_meanStops_1 (by decide) ?_
  refine fV_aload_n hF dL_meanStops_2 rfl rfl ?_
  obtain ⟨a1, e2, hA3, h⟩ := h
  refine fV_callVXh (k := 4) (As := []) hF (mc_X3_meanStops hF.2.2.2.2.2.2.2.2.1 h) fK4 e2 hA3 (by omega) fw_1147 fw_1144 fw_1145 fw_1146 fw_1 ⟨rfl, by decide, by decide, by decide +kernel⟩ (na := 0) rfl (by decide) (Nat.le_of_ble_eq_true rfl) dL_meanStops_3 rfl (fun X9 S10 n11 q12 hx => ?_) (fun rv S9 n9 hp => ?_)
  · rcases hx with ⟨rfl, h⟩
    · have h := h q12
      refine fVX_catch (S := S10) hF htab 0 rfl (by intro z hz; exact absurd hz (by simp)) ⟨by decide, by decide⟩ (by decide) fw_1120 fw_c1132 ?_
      refine fV_astore_n0 hF [some (aR p0), some (aR p1), some (aR (some q12))] dL_meanStops_10 rfl (by rw [hxn]; decide) rfl rfl ?_
      refine fV_iconst (v := 1) hF dL_meanStops_11 (by decide) ?_
      exact fV_iret hF hE.s (by omega) hr rfl dL_meanStops_12 ⟨_, rfl, h⟩
  · obtain ⟨w4, rfl, rfl, rfl, h⟩ := hp
    obtain ⟨a5, e6, hA7, h⟩ := h
    obtain ⟨hix8, h⟩ := h
    refine fV_dast hF e6 hA7 hix8 dL_meanStops_6 ?_
    refine fV_goto (tgt := 13) hF dL_meanStops_7 (by decide) ?_
    refine fV_iconst (v := 0) hF dL_meanStops_13 (by decide) ?_
    exact fV_iret hF hE.s (by omega) hr rfl dL_meanStops_14 ⟨_, rfl, h⟩
