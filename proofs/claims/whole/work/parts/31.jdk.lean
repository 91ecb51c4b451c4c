set_option maxRecDepth 100000 in
set_option maxHeartbeats 4000000 in
theorem mc_Jxa1e45_init_da8c8 {l : Launch} (hfl : l.stackTraces = false) {G : fG} {S : fMS} {n : Nat} {o : Nat} {post : Prop} (h : wp_Jxa1e45_init_da8c8 S o post) : fCM l yJxa1e45_init_da8c8 (.code yJxa1e45_init_da8c8 cJxa1e45_init_da8c8 1 none) 1 G [(aR (some o))] S n (fPV (fun S' n' => S = S' ∧ n = n' ∧ post)) := by
  refine fCM_of hfl (by decide) (by intro v hv; simp only [List.mem_cons, List.not_mem_nil, or_false] at hv; rcases hv with rfl <;> rfl) (Nat.le_of_ble_eq_true rfl) (fun F hF hxn hl hG hr hin hE => ?_)
  subst hl hG
  have hlv : 1 ≤ 1 := Nat.le_refl _
  show fV F S n 0 [some (aR (some o))] []
  unfold wp_Jxa1e45_init_da8c8 at h
  refine fV_aload_n hF dJxa1e45_init_da8c8_0 rfl rfl ?_
  refine fV_obj hF rfl (by omega) fw_51 (Nat.le_of_ble_eq_true rfl) dJxa1e45_init_da8c8_1 ?_
  exact fV_vret hF hE.s (by omega) hr dJxa1e45_init_da8c8_4 ⟨rfl, rfl, rfl, h⟩
set_option maxRecDepth 100000 in
set_option maxHeartbeats 4000000 in
theorem mc_Jxc12de_init_da8c8 {l : Launch} (hfl : l.stackTraces = false) {G : fG} {S : fMS} {n : Nat} {o : Nat} {post : fMS → Nat → Prop} (h : wp_Jxc12de_init_da8c8 S n o post) : fCM l yJxc12de_init_da8c8 (.code yJxc12de_init_da8c8 cJxc12de_init_da8c8 1 none) 2 G [(aR (some o))] S n (fPV post) := by
  refine fCM_of hfl (by decide) (by intro v hv; simp only [List.mem_cons, List.not_mem_nil, or_false] at hv; rcases hv with rfl <;> rfl) (Nat.le_of_ble_eq_true rfl) (fun F hF hxn hl hG hr hin hE => ?_)
  subst hl hG
  have hlv : 2 ≤ 2 := Nat.le_refl _
  show fV F S n 0 [some (aR (some o))] []
  unfold wp_Jxc12de_init_da8c8 at h
  refine fV_aload_n hF dJxc12de_init_da8c8_0 rfl rfl ?_
  refine fV_callI (As := []) hF (mc_Jxa1e45_init_da8c8 hF.2.2.2.2.2.2.2.2.1 h) rfl (by omega) fw_50 fw_48 fw_49 fw_2 ⟨by decide, by decide, by decide +kernel⟩ (na := 0) rfl rfl (by decide) (Nat.le_of_ble_eq_true rfl) dJxc12de_init_da8c8_1 rfl (fun rv S9 n9 hp => ?_)
  obtain ⟨rfl, rfl, rfl, h⟩ := hp
  refine fV_aload_n hF dJxc12de_init_da8c8_4 rfl rfl ?_
  refine fV_iconst (v := 0) hF dJxc12de_init_da8c8_5 (by decide) ?_
  obtain ⟨hA1, h⟩ := h
  refine fV_putI (k := 6) (i := 0) hF fK6 tyJx4a65c_ok nmJx4a65c rfl hA1 (by decide) rfl fw_56 (Or.inl rfl) (Or.inl rfl) rfl rfl dJxc12de_init_da8c8_6 ?_
  exact fV_vret hF hE.s (by omega) hr dJxc12de_init_da8c8_9 ⟨rfl, h⟩
set_option maxRecDepth 100000 in
set_option maxHeartbeats 4000000 in
theorem mc_Jx4a65c_init_da8c8 {l : Launch} (hfl : l.stackTraces = false) {G : fG} {S : fMS} {n : Nat} {o : Nat} {post : fMS → Nat → Prop} (h : wp_Jx4a65c_init_da8c8 S n o post) : fCM l yJx4a65c_init_da8c8 (.code yJx4a65c_init_da8c8 cJx4a65c_init_da8c8 1 none) 3 G [(aR (some o))] S n (fPV post) := by
  refine fCM_of hfl (by decide) (by intro v hv; simp only [List.mem_cons, List.not_mem_nil, or_false] at hv; rcases hv with rfl <;> rfl) (Nat.le_of_ble_eq_true rfl) (fun F hF hxn hl hG hr hin hE => ?_)
  subst hl hG
  have hlv : 3 ≤ 3 := Nat.le_refl _
  show fV F S n 0 [some (aR (some o))] []
  unfold wp_Jx4a65c_init_da8c8 at h
  refine fV_aload_n hF dJx4a65c_init_da8c8_0 rfl rfl ?_
  refine fV_callI (As := []) hF (mc_Jxc12de_init_da8c8 hF.2.2.2.2.2.2.2.2.1 h) rfl (by omega) fw_47 fw_45 fw_46 fw_3 ⟨by decide, by decide, by decide +kernel⟩ (na := 0) rfl rfl (by decide) (Nat.le_of_ble_eq_true rfl) dJx4a65c_init_da8c8_1 rfl (fun rv S1 n2 hp => ?_)
  obtain ⟨rfl, h⟩ := hp
  refine fV_aload_n hF dJx4a65c_init_da8c8_4 rfl rfl ?_
  refine fV_getE hF fw_52 dJx4a65c_init_da8c8_5 ?_
  obtain ⟨hA3, h⟩ := h
  refine fV_putR (k := 6) (i := 1) hF fK6 tyJx4a65c_ok nmJx4a65c rfl hA3 (by decide) rfl fw_54 (Or.inl rfl) (Or.inl rfl) (rf_nar _ _) (rf_fit (ty := tyJx4a65c 1) rfl _) dJx4a65c_init_da8c8_8 ?_
  exact fV_vret hF hE.s (by omega) hr dJx4a65c_init_da8c8_11 ⟨rfl, h⟩
set_option maxRecDepth 100000 in
set_option maxHeartbeats 4000000 in
theorem mc_Jx4a65c_isEmpty_aae02 {l : Launch} (hfl : l.stackTraces = false) {G : fG} {S : fMS} {n : Nat} {o : Nat} {post : Int32 → Prop} (h : wp_Jx4a65c_isEmpty_aae02 S o post) : fCM l yJx4a65c_isEmpty_aae02 (.code yJx4a65c_isEmpty_aae02 cJx4a65c_isEmpty_aae02 1 (some .boolean)) 1 G [(aR (some o))] S n (fPI (fun x S' n' => S = S' ∧ n = n' ∧ post x)) := by
  refine fCM_of hfl (by decide) (by intro v hv; simp only [List.mem_cons, List.not_mem_nil, or_false] at hv; rcases hv with rfl <;> rfl) (Nat.le_of_ble_eq_true rfl) (fun F hF hxn hl hG hr hin hE => ?_)
  subst hl hG
  have hlv : 1 ≤ 1 := Nat.le_refl _
  show fV F S n 0 [some (aR (some o))] []
  unfold wp_Jx4a65c_isEmpty_aae02 at h
  refine fV_aload_n hF dJx4a65c_isEmpty_aae02_0 rfl rfl ?_
  obtain ⟨hA1, h⟩ := h
  refine fV_getI (k := 6) (i := 2) hF fK6 rfl hA1 (by decide) fw_55 (Or.inl rfl) rfl dJx4a65c_isEmpty_aae02_1 ?_
  refine fV_if_ne (tgt := 11) hF dJx4a65c_isEmpty_aae02_4 (by decide) (fun c2 => ?_) (fun c2 => ?_)
  · have h := h.1 c2
    refine fV_iconst (v := 0) hF dJx4a65c_isEmpty_aae02_11 (by decide) ?_
    exact fV_iret hF hE.s (by omega) hr (by decide) dJx4a65c_isEmpty_aae02_12 ⟨_, rfl, rfl, rfl, h⟩
  · have h := h.2 c2
    refine fV_iconst (v := 1) hF dJx4a65c_isEmpty_aae02_7 (by decide) ?_
    refine fV_goto (tgt := 12) hF dJx4a65c_isEmpty_aae02_8 (by decide) ?_
    exact fV_iret hF hE.s (by omega) hr (by decide) dJx4a65c_isEmpty_aae02_12 ⟨_, rfl, rfl, rfl, h⟩
set_option maxRecDepth 100000 in
set_option maxHeartbeats 4000000 in
theorem mc_Jx4a65c_size_8abf5 {l : Launch} (hfl : l.stackTraces = false) {G : fG} {S : fMS} {n : Nat} {o : Nat} {post : Int32 → Prop} (h : wp_Jx4a65c_size_8abf5 S o post) : fCM l yJx4a65c_size_8abf5 (.code yJx4a65c_size_8abf5 cJx4a65c_size_8abf5 1 (some .int)) 1 G [(aR (some o))] S n (fPI (fun x S' n' => S = S' ∧ n = n' ∧ post x)) := by
  refine fCM_of hfl (by decide) (by intro v hv; simp only [List.mem_cons, List.not_mem_nil, or_false] at hv; rcases hv with rfl <;> rfl) (Nat.le_of_ble_eq_true rfl) (fun F hF hxn hl hG hr hin hE => ?_)
  subst hl hG
  have hlv : 1 ≤ 1 := Nat.le_refl _
  show fV F S n 0 [some (aR (some o))] []
  unfold wp_Jx4a65c_size_8abf5 at h
  refine fV_aload_n hF dJx4a65c_size_8abf5_0 rfl rfl ?_
  obtain ⟨hA1, h⟩ := h
  refine fV_getI (k := 6) (i := 2) hF fK6 rfl hA1 (by decide) fw_55 (Or.inl rfl) rfl dJx4a65c_size_8abf5_1 ?_
  exact fV_iret hF hE.s (by omega) hr rfl dJx4a65c_size_8abf5_4 ⟨_, rfl, rfl, rfl, h⟩
set_option maxRecDepth 100000 in
set_option maxHeartbeats 4000000 in
theorem mB_J3_checkIndex_8e157_9 {F : fX} {lv : Nat} (hlv : 1 ≤ lv) (hF : fOk F cJ3_checkIndex_8e157 RJ3 lv) (hxn : xn F = 3) (hr : (xM F).sig.returnType = (some .int)) {S : fMS} {n : Nat} {post : Int32 → Prop} {p0 : Int32} {p1 : Int32} {p2 : Option Nat} (hE : fEnd F lv (fPI (fun x S' n' => S = S' ∧ n = n' ∧ post x))) (h : wB_J3_checkIndex_8e157_9 S post p0 p1 p2) : fV F S n 9 [some (aI p0), some (aI p1), some (aR p2)] [] := by
  unfold wB_J3_checkIndex_8e157_9 at h
  refine fV_aload_n hF dJ3_checkIndex_8e157_9 rfl rfl ?_
  refine fV_iload_n hF dJ3_checkIndex_8e157_10 rfl rfl ?_
  refine fV_iload_n hF dJ3_checkIndex_8e157_11 rfl rfl ?_
  exact h.elim
set_option maxRecDepth 100000 in
set_option maxHeartbeats 4000000 in
theorem mc_J3_checkIndex_8e157 {l : Launch} (hfl : l.stackTraces = false) {G : fG} {S : fMS} {n : Nat} {p0 : Int32} {p1 : Int32} {p2 : Option Nat} {post : Int32 → Prop} (h : wp_J3_checkIndex_8e157 S p0 p1 p2 post) : fCM l yJ3_checkIndex_8e157 (.code yJ3_checkIndex_8e157 cJ3_checkIndex_8e157 3 (some .int)) 1 G [(aI p0), (aI p1), (aR p2)] S n (fPI (fun x S' n' => S = S' ∧ n = n' ∧ post x)) := by
  refine fCM_of hfl (by decide) (by intro v hv; simp only [List.mem_cons, List.not_mem_nil, or_false] at hv; rcases hv with rfl | rfl | rfl <;> rfl) (Nat.le_of_ble_eq_true rfl) (fun F hF hxn hl hG hr hin hE => ?_)
  subst hl hG
  have hlv : 1 ≤ 1 := Nat.le_refl _
  show fV F S n 0 [some (aI p0), some (aI p1), some (aR p2)] []
  unfold wp_J3_checkIndex_8e157 at h
  refine fV_iload_n hF dJ3_checkIndex_8e157_0 rfl rfl ?_
  refine fV_if_lt (tgt := 9) hF dJ3_checkIndex_8e157_1 (by decide) (fun c1 => ?_) (fun c1 => ?_)
  · have h := h.1 c1
    refine fV.sub (l' := [some (aI p0), some (aI p1), some (aR p2)]) ⟨rfl, ⟨rfl, ⟨rfl, trivial⟩⟩⟩ ?_
    exact mB_J3_checkIndex_8e157_9 hlv hF hxn hr hE   h
  · have h := h.2 c1
    refine fV_iload_n hF dJ3_checkIndex_8e157_4 rfl rfl ?_
    refine fV_iload_n hF dJ3_checkIndex_8e157_5 rfl rfl ?_
    refine fV_icmp_lt (tgt := 16) hF dJ3_checkIndex_8e157_6 (by decide) (fun c2 => ?_) (fun c2 => ?_)
    · have h := h.1 c2
      refine fV_iload_n hF dJ3_checkIndex_8e157_16 rfl rfl ?_
      exact fV_iret hF hE.s (by omega) hr rfl dJ3_checkIndex_8e157_17 ⟨_, rfl, rfl, rfl, h⟩
    · have h := h.2 c2
      refine fV.sub (l' := [some (aI p0), some (aI p1), some (aR p2)]) ⟨rfl, ⟨rfl, ⟨rfl, trivial⟩⟩⟩ ?_
      exact mB_J3_checkIndex_8e157_9 hlv hF hxn hr hE   h
set_option maxRecDepth 100000 in
set_option maxHeartbeats 4000000 in
theorem mc_J15_checkIndex_7cf53 {l : Launch} (hfl : l.stackTraces = false) {G : fG} {S : fMS} {n : Nat} {p0 : Int32} {p1 : Int32} {post : Int32 → Prop} (h : wp_J15_checkIndex_7cf53 S p0 p1 post) : fCM l yJ15_checkIndex_7cf53 (.code yJ15_checkIndex_7cf53 cJ15_checkIndex_7cf53 2 (some .int)) 2 G [(aI p0), (aI p1)] S n (fPI (fun x S' n' => S = S' ∧ n = n' ∧ post x)) := by
  refine fCM_of hfl (by decide) (by intro v hv; simp only [List.mem_cons, List.not_mem_nil, or_false] at hv; rcases hv with rfl | rfl <;> rfl) (Nat.le_of_ble_eq_true rfl) (fun F hF hxn hl hG hr hin hE => ?_)
  subst hl hG
  have hlv : 2 ≤ 2 := Nat.le_refl _
  show fV F S n 0 [some (aI p0), some (aI p1)] []
  unfold wp_J15_checkIndex_7cf53 at h
  refine fV_iload_n hF dJ15_checkIndex_7cf53_0 rfl rfl ?_
  refine fV_iload_n hF dJ15_checkIndex_7cf53_1 rfl rfl ?_
  refine fV_null hF dJ15_checkIndex_7cf53_2 ?_
  refine fV_callS (As := [(aI p0), (aI p1), (aR none)]) hF (mc_J3_checkIndex_8e157 hF.2.2.2.2.2.2.2.2.1 h) (by omega) fw_263 fw_261 fw_262 fw_18 ⟨by decide, by decide, by decide +kernel⟩ (na := 3) rfl (by decide) (Nat.le_of_ble_eq_true rfl) dJ15_checkIndex_7cf53_3 rfl (fun rv S9 n9 hp => ?_)
  obtain ⟨v1, rfl, rfl, rfl, h⟩ := hp
  exact fV_iret hF hE.s (by omega) hr rfl dJ15_checkIndex_7cf53_6 ⟨_, rfl, rfl, rfl, h⟩
set_option maxRecDepth 100000 in
set_option maxHeartbeats 4000000 in
theorem mc_Jx4a65c_elementData_915e3 {l : Launch} (hfl : l.stackTraces = false) {G : fG} {S : fMS} {n : Nat} {o : Nat} {p1 : Int32} {post : Option Nat → Prop} (h : wp_Jx4a65c_elementData_915e3 S o p1 post) : fCM l yJx4a65c_elementData_915e3 (.code yJx4a65c_elementData_915e3 cJx4a65c_elementData_915e3 2 (some (.object "java/lang/Object"))) 1 G [(aR (some o)), (aI p1)] S n (fPR (fun x S' n' => S = S' ∧ n = n' ∧ post x)) := by
  refine fCM_of hfl (by decide) (by intro v hv; simp only [List.mem_cons, List.not_mem_nil, or_false] at hv; rcases hv with rfl | rfl <;> rfl) (Nat.le_of_ble_eq_true rfl) (fun F hF hxn hl hG hr hin hE => ?_)
  subst hl hG
  have hlv : 1 ≤ 1 := Nat.le_refl _
  show fV F S n 0 [some (aR (some o)), some (aI p1)] []
  unfold wp_Jx4a65c_elementData_915e3 at h
  refine fV_aload_n hF dJx4a65c_elementData_915e3_0 rfl rfl ?_
  obtain ⟨hA1, h⟩ := h
  refine fV_getR (k := 6) (i := 1) hF fK6 rfl hA1 (by decide) fw_54 (Or.inl rfl) rfl dJx4a65c_elementData_915e3_1 ?_
  refine fV_iload_n hF dJx4a65c_elementData_915e3_4 rfl rfl ?_
  obtain ⟨a2, e3, hA4, h⟩ := h
  obtain ⟨hix5, h⟩ := h
  refine fV_aald hF e3 hA4 hix5 dJx4a65c_elementData_915e3_5 ?_
  exact fV_aret hF hE.s (by omega) hr (Or.inl ⟨_, rfl⟩) dJx4a65c_elementData_915e3_6 ⟨_, rfl, rfl, rfl, h⟩
set_option maxRecDepth 100000 in
set_option maxHeartbeats 4000000 in
theorem mc_Jx4a65c_get_915e3 {l : Launch} (hfl : l.stackTraces = false) {G : fG} {S : fMS} {n : Nat} {o : Nat} {p1 : Int32} {post : Option Nat → Prop} (h : wp_Jx4a65c_get_915e3 S o p1 post) : fCM l yJx4a65c_get_915e3 (.code yJx4a65c_get_915e3 cJx4a65c_get_915e3 2 (some (.object "java/lang/Object"))) 3 G [(aR (some o)), (aI p1)] S n (fPR (fun x S' n' => S = S' ∧ n = n' ∧ post x)) := by
  refine fCM_of hfl (by decide) (by intro v hv; simp only [List.mem_cons, List.not_mem_nil, or_false] at hv; rcases hv with rfl | rfl <;> rfl) (Nat.le_of_ble_eq_true rfl) (fun F hF hxn hl hG hr hin hE => ?_)
  subst hl hG
  have hlv : 3 ≤ 3 := Nat.le_refl _
  show fV F S n 0 [some (aR (some o)), some (aI p1)] []
  unfold wp_Jx4a65c_get_915e3 at h
  refine fV_iload_n hF dJx4a65c_get_915e3_0 rfl rfl ?_
  refine fV_aload_n hF dJx4a65c_get_915e3_1 rfl rfl ?_
  obtain ⟨hA1, h⟩ := h
  refine fV_getI (k := 6) (i := 2) hF fK6 rfl hA1 (by decide) fw_55 (Or.inl rfl) rfl dJx4a65c_get_915e3_2 ?_
  refine fV_callS (As := [(aI p1), (aI (sI S o 2))]) hF (mc_J15_checkIndex_7cf53 hF.2.2.2.2.2.2.2.2.1 h) (by omega) fw_260 fw_258 fw_259 fw_17 ⟨by decide, by decide, by decide +kernel⟩ (na := 2) rfl (by decide) (Nat.le_of_ble_eq_true rfl) dJx4a65c_get_915e3_5 rfl (fun rv S9 n9 hp => ?_)
  obtain ⟨v2, rfl, rfl, rfl, h⟩ := hp
  refine fV_pop hF dJx4a65c_get_915e3_8 rfl ?_
  refine fV_aload_n hF dJx4a65c_get_915e3_9 rfl rfl ?_
  refine fV_iload_n hF dJx4a65c_get_915e3_10 rfl rfl ?_
  refine fV_callV (k := 6) (As := [(aI p1)]) hF (mc_Jx4a65c_elementData_915e3 hF.2.2.2.2.2.2.2.2.1 h) fK6 rfl hA1 (by omega) fw_267 fw_264 fw_265 fw_266 fw_4 ⟨rfl, by decide, by decide, by decide +kernel⟩ (na := 1) rfl (by decide) (Nat.le_of_ble_eq_true rfl) dJx4a65c_get_915e3_11 rfl (fun rv S9 n9 hp => ?_)
  obtain ⟨r3, rfl, rfl, rfl, h⟩ := hp
  exact fV_aret hF hE.s (by omega) hr (Or.inl ⟨_, rfl⟩) dJx4a65c_get_915e3_14 ⟨_, rfl, rfl, rfl, h⟩
set_option maxRecDepth 100000 in
set_option maxHeartbeats 4000000 in
theorem mB_J8_newLength_cabcc_21 {F : fX} {lv : Nat} (hlv : 1 ≤ lv) (hF : fOk F cJ8_newLength_cabcc RJ8 lv) (hxn : xn F = 4) (hr : (xM F).sig.returnType = (some .int)) {S : fMS} {n : Nat} {post : Int32 → Prop} {p0 : Int32} {p1 : Int32} {p2 : Int32} (hE : fEnd F lv (fPI (fun x S' n' => S = S' ∧ n = n' ∧ post x))) (h : wB_J8_newLength_cabcc_21 S post p0 p1 p2) : fV F S n 21 [some (aI p0), some (aI p1), some (aI p2), none] [] := by
  unfold wB_J8_newLength_cabcc_21 at h
  refine fV_iload_n hF dJ8_newLength_cabcc_21 rfl rfl ?_
  refine fV_iload_n hF dJ8_newLength_cabcc_22 rfl rfl ?_
  exact h.elim
set_option maxRecDepth 100000 in
set_option maxHeartbeats 4000000 in
theorem mc_J8_newLength_cabcc {l : Launch} (hfl : l.stackTraces = false) {G : fG} {S : fMS} {n : Nat} {p0 : Int32} {p1 : Int32} {p2 : Int32} {post : Int32 → Prop} (h : wp_J8_newLength_cabcc S p0 p1 p2 post) : fCM l yJ8_newLength_cabcc (.code yJ8_newLength_cabcc cJ8_newLength_cabcc 4 (some .int)) 1 G [(aI p0), (aI p1), (aI p2)] S n (fPI (fun x S' n' => S = S' ∧ n = n' ∧ post x)) := by
  refine fCM_of hfl (by decide) (by intro v hv; simp only [List.mem_cons, List.not_mem_nil, or_false] at hv; rcases hv with rfl | rfl | rfl <;> rfl) (Nat.le_of_ble_eq_true rfl) (fun F hF hxn hl hG hr hin hE => ?_)
  subst hl hG
  have hlv : 1 ≤ 1 := Nat.le_refl _
  show fV F S n 0 [some (aI p0), some (aI p1), some (aI p2), none] []
  unfold wp_J8_newLength_cabcc at h
  refine fV_iload_n hF dJ8_newLength_cabcc_0 rfl rfl ?_
  refine fV_iload_n hF dJ8_newLength_cabcc_1 rfl rfl ?_
  refine fV_iload_n hF dJ8_newLength_cabcc_2 rfl rfl ?_
  refine fV_max hF (by omega) (Nat.le_of_ble_eq_true rfl) fw_149 dJ8_newLength_cabcc_3 ?_
  refine fV_iadd hF dJ8_newLength_cabcc_6 ?_
  refine fV_istore_n hF (fun y => [some (aI p0), some (aI p1), some (aI p2), some (aI y)]) dJ8_newLength_cabcc_7 rfl (by rw [hxn]; decide) rfl (fun _ => rfl) (fun v1 ev1 => ?_)
  have h := h v1 ev1
  refine fV_iconst (v := 0) hF dJ8_newLength_cabcc_8 (by decide) ?_
  refine fV_iload_n hF dJ8_newLength_cabcc_9 rfl rfl ?_
  refine fV_icmp_ge (tgt := 21) hF dJ8_newLength_cabcc_10 (by decide) (fun c2 => ?_) (fun c2 => ?_)
  · have h := h.1 c2
    refine fV.sub (l' := [some (aI p0), some (aI p1), some (aI p2), none]) ⟨rfl, ⟨rfl, ⟨rfl, trivial⟩⟩⟩ ?_
    exact mB_J8_newLength_cabcc_21 hlv hF hxn hr hE   h
  · have h := h.2 c2
    refine fV_iload_n hF dJ8_newLength_cabcc_13 rfl rfl ?_
    refine fV_ldc (v := 2147483639) hF dJ8_newLength_cabcc_14 fw_152 ?_
    refine fV_icmp_gt (tgt := 21) hF dJ8_newLength_cabcc_16 (by decide) (fun c3 => ?_) (fun c3 => ?_)
    · have h := h.1 c3
      refine fV.sub (l' := [some (aI p0), some (aI p1), some (aI p2), none]) ⟨rfl, ⟨rfl, ⟨rfl, trivial⟩⟩⟩ ?_
      exact mB_J8_newLength_cabcc_21 hlv hF hxn hr hE   h
    · have h := h.2 c3
      refine fV_iload_n hF dJ8_newLength_cabcc_19 rfl rfl ?_
      exact fV_iret hF hE.s (by omega) hr rfl dJ8_newLength_cabcc_20 ⟨_, rfl, rfl, rfl, h⟩
set_option maxRecDepth 100000 in
set_option maxHeartbeats 4000000 in
theorem mc_J7_copyOf_6403c {l : Launch} (hfl : l.stackTraces = false) {G : fG} {S : fMS} {n : Nat} {p0 : Option Nat} {p1 : Int32} {p2 : Option Nat} {post : Option Nat → fMS → Nat → Prop} (h : wp_J7_copyOf_6403c S n p0 p1 p2 post) : fCM l yJ7_copyOf_6403c (.code yJ7_copyOf_6403c cJ7_copyOf_6403c 4 (some (.array (.object "java/lang/Object")))) 1 G [(aR p0), (aI p1), (aR p2)] S n (fPR post) := by
  refine fCM_of hfl (by decide) (by intro v hv; simp only [List.mem_cons, List.not_mem_nil, or_false] at hv; rcases hv with rfl | rfl | rfl <;> rfl) (Nat.le_of_ble_eq_true rfl) (fun F hF hxn hl hG hr hin hE => ?_)
  subst hl hG
  have hlv : 1 ≤ 1 := Nat.le_refl _
  show fV F S n 0 [some (aR p0), some (aI p1), some (aR p2), none] []
  unfold wp_J7_copyOf_6403c at h
  refine fV_aload_n hF dJ7_copyOf_6403c_0 rfl rfl ?_
  refine fV_ldcM hF fw_181 dJ7_copyOf_6403c_1 ?_
  refine fV_acmp_ne (tgt := 13) hF dJ7_copyOf_6403c_3 (by decide) (fun c1 => ?_) (fun c1 => ?_)
  · have h := h.1 c1
    refine fV_aload_n hF dJ7_copyOf_6403c_13 rfl rfl ?_
    exact h.elim
  · have h := h.2 c1
    refine fV_iload_n hF dJ7_copyOf_6403c_6 rfl rfl ?_
    obtain ⟨N6, hN7, hN7b, h⟩ := h
    obtain ⟨hn2, h⟩ := h
    refine fV_newO (N := N6) hF (by omega) fw_183 hN7 hN7b hn2 dJ7_copyOf_6403c_7 (fun q3 hq4 hqe5 => ?_)
    have h := h q3 hq4 hqe5
    refine fV_goto (tgt := 24) hF dJ7_copyOf_6403c_10 (by decide) ?_
    refine fV_astore_n0 hF [some (aR p0), some (aI p1), some (aR p2), some (aR (some q3))] dJ7_copyOf_6403c_24 rfl (by rw [hxn]; decide) rfl rfl ?_
    refine fV_aload_n hF dJ7_copyOf_6403c_25 rfl rfl ?_
    refine fV_iconst (v := 0) hF dJ7_copyOf_6403c_26 (by decide) ?_
    refine fV_aload_n hF dJ7_copyOf_6403c_27 rfl rfl ?_
    refine fV_iconst (v := 0) hF dJ7_copyOf_6403c_28 (by decide) ?_
    refine fV_aload_n hF dJ7_copyOf_6403c_29 rfl rfl ?_
    obtain ⟨a9, e10, hA8, h⟩ := h
    refine fV_alenO hF e10 hA8 dJ7_copyOf_6403c_30 ?_
    refine fV_iload_n hF dJ7_copyOf_6403c_31 rfl rfl ?_
    refine fV_min hF (by omega) (Nat.le_of_ble_eq_true rfl) fw_184 dJ7_copyOf_6403c_32 ?_
    obtain ⟨hA11, h⟩ := h
    obtain ⟨hcp12, h⟩ := h
    refine fV_copy hF e10 hA11 rfl (isA_made (S := S) (k := 14) (N := N6)) hcp12 (by omega) (Nat.le_of_ble_eq_true rfl) fw_187 dJ7_copyOf_6403c_35 ?_
    refine fV_aload_n hF dJ7_copyOf_6403c_38 rfl rfl ?_
    exact fV_aret hF hE.s (by omega) hr (Or.inr ⟨_, rfl⟩) dJ7_copyOf_6403c_39 ⟨_, rfl, h⟩
set_option maxRecDepth 100000 in
set_option maxHeartbeats 4000000 in
theorem mc_J7_copyOf_1904c {l : Launch} (hfl : l.stackTraces = false) {G : fG} {S : fMS} {n : Nat} {p0 : Option Nat} {p1 : Int32} {post : Option Nat → fMS → Nat → Prop} (h : wp_J7_copyOf_1904c S n p0 p1 post) : fCM l yJ7_copyOf_1904c (.code yJ7_copyOf_1904c cJ7_copyOf_1904c 2 (some (.array (.object "java/lang/Object")))) 2 G [(aR p0), (aI p1)] S n (fPR post) := by
  refine fCM_of hfl (by decide) (by intro v hv; simp only [List.mem_cons, List.not_mem_nil, or_false] at hv; rcases hv with rfl | rfl <;> rfl) (Nat.le_of_ble_eq_true rfl) (fun F hF hxn hl hG hr hin hE => ?_)
  subst hl hG
  have hlv : 2 ≤ 2 := Nat.le_refl _
  show fV F S n 0 [some (aR p0), some (aI p1)] []
  unfold wp_J7_copyOf_1904c at h
  refine fV_aload_n hF dJ7_copyOf_1904c_0 rfl rfl ?_
  refine fV_iload_n hF dJ7_copyOf_1904c_1 rfl rfl ?_
  refine fV_aload_n hF dJ7_copyOf_1904c_2 rfl rfl ?_
  obtain ⟨a1, e2, hA3, h⟩ := h
  refine fV_getClass hF e2 hA3 (by omega) (Nat.le_of_ble_eq_true rfl) fw_159 dJ7_copyOf_1904c_3 ?_
  refine fV_callS (As := [(aR p0), (aI p1), (aR (some (sM S)))]) hF (mc_J7_copyOf_6403c hF.2.2.2.2.2.2.2.2.1 h) (by omega) fw_180 fw_178 fw_179 fw_8 ⟨by decide, by decide, by decide +kernel⟩ (na := 3) rfl (by decide) (Nat.le_of_ble_eq_true rfl) dJ7_copyOf_1904c_6 rfl (fun rv S5 n6 hp => ?_)
  obtain ⟨r4, rfl, h⟩ := hp
  exact fV_aret hF hE.s (by omega) hr (Or.inr ⟨_, rfl⟩) dJ7_copyOf_1904c_9 ⟨_, rfl, h⟩
set_option maxRecDepth 100000 in
set_option maxHeartbeats 4000000 in
theorem mB_Jx4a65c_grow_92f84_20 {F : fX} {lv : Nat} (hlv : 3 ≤ lv) (hF : fOk F cJx4a65c_grow_92f84 RJx4a65c lv) (hxn : xn F = 4) (hr : (xM F).sig.returnType = (some (.array (.object "java/lang/Object")))) {post : Option Nat → fMS → Nat → Prop} {o : Nat} {p1 : Int32} (hE : fEnd F lv (fPR post)) (S : fMS) (n : Nat) (x2 : Int32) (h : wB_Jx4a65c_grow_92f84_20 post o p1 S n x2) : fV F S n 20 [some (aR (some o)), some (aI p1), some (aI x2), none] [] := by
  unfold wB_Jx4a65c_grow_92f84_20 at h
  refine fV_iload_n hF dJx4a65c_grow_92f84_20 rfl rfl ?_
  refine fV_iload_n hF dJx4a65c_grow_92f84_21 rfl rfl ?_
  refine fV_iload_n hF dJx4a65c_grow_92f84_22 rfl rfl ?_
  refine fV_isub hF dJx4a65c_grow_92f84_23 ?_
  refine fV_iload_n hF dJx4a65c_grow_92f84_24 rfl rfl ?_
  refine fV_iconst (v := 1) hF dJx4a65c_grow_92f84_25 (by decide) ?_
  refine fV_ishr hF dJx4a65c_grow_92f84_26 ?_
  refine fV_callS (As := [(aI x2), (aI (p1 - x2)), (aI (x2 >>> ((1 : Int32) &&& 31)))]) hF (mc_J8_newLength_cabcc hF.2.2.2.2.2.2.2.2.1 h) (by omega) fw_148 fw_146 fw_147 fw_6 ⟨by decide, by decide, by decide +kernel⟩ (na := 3) rfl (by decide) (Nat.le_of_ble_eq_true rfl) dJx4a65c_grow_92f84_27 rfl (fun rv S9 n9 hp => ?_)
  obtain ⟨v1, rfl, rfl, rfl, h⟩ := hp
  refine fV_istore_n0 hF [some (aR (some o)), some (aI p1), some (aI x2), some (aI v1)] dJx4a65c_grow_92f84_30 rfl (by rw [hxn]; decide) rfl rfl ?_
  refine fV_aload_n hF dJx4a65c_grow_92f84_31 rfl rfl ?_
  refine fV_aload_n hF dJx4a65c_grow_92f84_32 rfl rfl ?_
  obtain ⟨hA2, h⟩ := h
  refine fV_getR (k := 6) (i := 1) hF fK6 rfl hA2 (by decide) fw_54 (Or.inl rfl) rfl dJx4a65c_grow_92f84_33 ?_
  refine fV_iload_n hF dJx4a65c_grow_92f84_36 rfl rfl ?_
  refine fV_callS (As := [(aR (sR S o 1)), (aI v1)]) hF (mc_J7_copyOf_1904c hF.2.2.2.2.2.2.2.2.1 h) (by omega) fw_158 fw_156 fw_157 fw_8 ⟨by decide, by decide, by decide +kernel⟩ (na := 2) rfl (by decide) (Nat.le_of_ble_eq_true rfl) dJx4a65c_grow_92f84_37 rfl (fun rv S4 n5 hp => ?_)
  obtain ⟨r3, rfl, h⟩ := hp
  refine fV_dup_x1 hF dJx4a65c_grow_92f84_40 rfl rfl ?_
  obtain ⟨hA6, h⟩ := h
  refine fV_putR (k := 6) (i := 1) hF fK6 tyJx4a65c_ok nmJx4a65c rfl hA6 (by decide) rfl fw_54 (Or.inl rfl) (Or.inl rfl) (rf_nar _ _) (rf_fit (ty := tyJx4a65c 1) rfl _) dJx4a65c_grow_92f84_41 ?_
  exact fV_aret hF hE.s (by omega) hr (Or.inr ⟨_, rfl⟩) dJx4a65c_grow_92f84_44 ⟨_, rfl, h⟩
set_option maxRecDepth 100000 in
set_option maxHeartbeats 4000000 in
theorem mc_Jx4a65c_grow_92f84 {l : Launch} (hfl : l.stackTraces = false) {G : fG} {S : fMS} {n : Nat} {o : Nat} {p1 : Int32} {post : Option Nat → fMS → Nat → Prop} (h : wp_Jx4a65c_grow_92f84 S n o p1 post) : fCM l yJx4a65c_grow_92f84 (.code yJx4a65c_grow_92f84 cJx4a65c_grow_92f84 4 (some (.array (.object "java/lang/Object")))) 3 G [(aR (some o)), (aI p1)] S n (fPR post) := by
  refine fCM_of hfl (by decide) (by intro v hv; simp only [List.mem_cons, List.not_mem_nil, or_false] at hv; rcases hv with rfl | rfl <;> rfl) (Nat.le_of_ble_eq_true rfl) (fun F hF hxn hl hG hr hin hE => ?_)
  subst hl hG
  have hlv : 3 ≤ 3 := Nat.le_refl _
  show fV F S n 0 [some (aR (some o)), some (aI p1), none, none] []
  unfold wp_Jx4a65c_grow_92f84 at h
  refine fV_aload_n hF dJx4a65c_grow_92f84_0 rfl rfl ?_
  obtain ⟨hA1, h⟩ := h
  refine fV_getR (k := 6) (i := 1) hF fK6 rfl hA1 (by decide) fw_54 (Or.inl rfl) rfl dJx4a65c_grow_92f84_1 ?_
  obtain ⟨a3, e4, hA2, h⟩ := h
  refine fV_alenO hF e4 hA2 dJx4a65c_grow_92f84_4 ?_
  refine fV_istore_n hF (fun y => [some (aR (some o)), some (aI p1), some (aI y), none]) dJx4a65c_grow_92f84_5 rfl (by rw [hxn]; decide) rfl (fun _ => rfl) (fun v5 ev5 => ?_)
  have h := h v5 ev5
  refine fV_iload_n hF dJx4a65c_grow_92f84_6 rfl rfl ?_
  refine fV_if_gt (tgt := 20) hF dJx4a65c_grow_92f84_7 (by decide) (fun c6 => ?_) (fun c6 => ?_)
  · have h := h.1 c6
    refine fV.sub (l' := [some (aR (some o)), some (aI p1), some (aI v5), none]) ⟨rfl, ⟨rfl, ⟨rfl, trivial⟩⟩⟩ ?_
    exact mB_Jx4a65c_grow_92f84_20 hlv hF hxn hr hE  S n v5 h
  · have h := h.2 c6
    refine fV_aload_n hF dJx4a65c_grow_92f84_10 rfl rfl ?_
    refine fV_getR (k := 6) (i := 1) hF fK6 rfl hA1 (by decide) fw_54 (Or.inl rfl) rfl dJx4a65c_grow_92f84_11 ?_
    refine fV_getE hF fw_52 dJx4a65c_grow_92f84_14 ?_
    refine fV_acmp_eq (tgt := 45) hF dJx4a65c_grow_92f84_17 (by decide) (fun c7 => ?_) (fun c7 => ?_)
    · have h := h.1 c7
      refine fV_aload_n hF dJx4a65c_grow_92f84_45 rfl rfl ?_
      refine fV_bipush (v := 10) hF dJx4a65c_grow_92f84_46 (by decide) ?_
      refine fV_iload_n hF dJx4a65c_grow_92f84_48 rfl rfl ?_
      refine fV_max hF (by omega) (Nat.le_of_ble_eq_true rfl) fw_190 dJx4a65c_grow_92f84_49 ?_
      obtain ⟨N12, hN13, hN13b, h⟩ := h
      obtain ⟨hn8, h⟩ := h
      refine fV_newO (N := N12) hF (by omega) fw_191 hN13 hN13b hn8 dJx4a65c_grow_92f84_52 (fun q9 hq10 hqe11 => ?_)
      have h := h q9 hq10 hqe11
      refine fV_dup_x1 hF dJx4a65c_grow_92f84_55 rfl rfl ?_
      refine fV_putR (k := 6) (i := 1) hF fK6 tyJx4a65c_ok nmJx4a65c rfl (isA_new (k := 14) (N := N12) hq10 hA1) (by decide) rfl fw_54 (Or.inl rfl) (Or.inl rfl) (rf_nar _ _) (rf_fit (ty := tyJx4a65c 1) rfl _) dJx4a65c_grow_92f84_56 ?_
      exact fV_aret hF hE.s (by omega) hr (Or.inr ⟨_, rfl⟩) dJx4a65c_grow_92f84_59 ⟨_, rfl, h⟩
    · have h := h.2 c7
      refine fV.sub (l' := [some (aR (some o)), some (aI p1), some (aI v5), none]) ⟨rfl, ⟨rfl, ⟨rfl, trivial⟩⟩⟩ ?_
      exact mB_Jx4a65c_grow_92f84_20 hlv hF hxn hr hE  S n v5 h
set_option maxRecDepth 100000 in
set_option maxHeartbeats 4000000 in
theorem mc_Jx4a65c_grow_d5877 {l : Launch} (hfl : l.stackTraces = false) {G : fG} {S : fMS} {n : Nat} {o : Nat} {post : Option Nat → fMS → Nat → Prop} (h : wp_Jx4a65c_grow_d5877 S n o post) : fCM l yJx4a65c_grow_d5877 (.code yJx4a65c_grow_d5877 cJx4a65c_grow_d5877 1 (some (.array (.object "java/lang/Object")))) 4 G [(aR (some o))] S n (fPR post) := by
  refine fCM_of hfl (by decide) (by intro v hv; simp only [List.mem_cons, List.not_mem_nil, or_false] at hv; rcases hv with rfl <;> rfl) (Nat.le_of_ble_eq_true rfl) (fun F hF hxn hl hG hr hin hE => ?_)
  subst hl hG
  have hlv : 4 ≤ 4 := Nat.le_refl _
  show fV F S n 0 [some (aR (some o))] []
  unfold wp_Jx4a65c_grow_d5877 at h
  refine fV_aload_n hF dJx4a65c_grow_d5877_0 rfl rfl ?_
  refine fV_aload_n hF dJx4a65c_grow_d5877_1 rfl rfl ?_
  obtain ⟨hA1, h⟩ := h
  refine fV_getI (k := 6) (i := 2) hF fK6 rfl hA1 (by decide) fw_55 (Or.inl rfl) rfl dJx4a65c_grow_d5877_2 ?_
  refine fV_iconst (v := 1) hF dJx4a65c_grow_d5877_5 (by decide) ?_
  refine fV_iadd hF dJx4a65c_grow_d5877_6 ?_
  refine fV_callV (k := 6) (As := [(aI ((sI S o 2) + (1 : Int32)))]) hF (mc_Jx4a65c_grow_92f84 hF.2.2.2.2.2.2.2.2.1 h) fK6 rfl hA1 (by omega) fw_145 fw_142 fw_144 fwp_2 fw_4 ⟨rfl, by decide, by decide, by decide +kernel⟩ (na := 1) rfl (by decide) (Nat.le_of_ble_eq_true rfl) dJx4a65c_grow_d5877_7 rfl (fun rv S3 n4 hp => ?_)
  obtain ⟨r2, rfl, h⟩ := hp
  exact fV_aret hF hE.s (by omega) hr (Or.inr ⟨_, rfl⟩) dJx4a65c_grow_d5877_10 ⟨_, rfl, h⟩
set_option maxRecDepth 100000 in
set_option maxHeartbeats 4000000 in
theorem mB_Jx4a65c_add_72be8_11 {F : fX} {lv : Nat} (hlv : 5 ≤ lv) (hF : fOk F cJx4a65c_add_72be8 RJx4a65c lv) (hxn : xn F = 4) (hr : (xM F).sig.returnType = none) {post : fMS → Nat → Prop} {o : Nat} {p1 : Option Nat} {p3 : Int32} (hE : fEnd F lv (fPV post)) (S : fMS) (n : Nat) (x2 : Option Nat) (h : wB_Jx4a65c_add_72be8_11 post o p1 p3 S n x2) : fV F S n 11 [some (aR (some o)), some (aR p1), some (aR x2), some (aI p3)] [] := by
  unfold wB_Jx4a65c_add_72be8_11 at h
  refine fV_aload_n hF dJx4a65c_add_72be8_11 rfl rfl ?_
  refine fV_iload_n hF dJx4a65c_add_72be8_12 rfl rfl ?_
  refine fV_aload_n hF dJx4a65c_add_72be8_13 rfl rfl ?_
  obtain ⟨a1, e2, hA3, h⟩ := h
  obtain ⟨hix4, h⟩ := h
  obtain ⟨hel5, h⟩ := h
  refine fV_aast hF e2 hA3 hix4 hel5 dJx4a65c_add_72be8_14 ?_
  refine fV_aload_n hF dJx4a65c_add_72be8_15 rfl rfl ?_
  refine fV_iload_n hF dJx4a65c_add_72be8_16 rfl rfl ?_
  refine fV_iconst (v := 1) hF dJx4a65c_add_72be8_17 (by decide) ?_
  refine fV_iadd hF dJx4a65c_add_72be8_18 ?_
  obtain ⟨hA6, h⟩ := h
  refine fV_putI (k := 6) (i := 2) hF fK6 tyJx4a65c_ok nmJx4a65c rfl hA6 (by decide) rfl fw_55 (Or.inl rfl) (Or.inl rfl) rfl rfl dJx4a65c_add_72be8_19 ?_
  exact fV_vret hF hE.s (by omega) hr dJx4a65c_add_72be8_22 ⟨rfl, h⟩
set_option maxRecDepth 100000 in
set_option maxHeartbeats 4000000 in
theorem mc_Jx4a65c_add_72be8 {l : Launch} (hfl : l.stackTraces = false) {G : fG} {S : fMS} {n : Nat} {o : Nat} {p1 : Option Nat} {p2 : Option Nat} {p3 : Int32} {post : fMS → Nat → Prop} (h : wp_Jx4a65c_add_72be8 S n o p1 p2 p3 post) : fCM l yJx4a65c_add_72be8 (.code yJx4a65c_add_72be8 cJx4a65c_add_72be8 4 none) 5 G [(aR (some o)), (aR p1), (aR p2), (aI p3)] S n (fPV post) := by
  refine fCM_of hfl (by decide) (by intro v hv; simp only [List.mem_cons, List.not_mem_nil, or_false] at hv; rcases hv with rfl | rfl | rfl | rfl <;> rfl) (Nat.le_of_ble_eq_true rfl) (fun F hF hxn hl hG hr hin hE => ?_)
  subst hl hG
  have hlv : 5 ≤ 5 := Nat.le_refl _
  show fV F S n 0 [some (aR (some o)), some (aR p1), some (aR p2), some (aI p3)] []
  unfold wp_Jx4a65c_add_72be8 at h
  refine fV_iload_n hF dJx4a65c_add_72be8_0 rfl rfl ?_
  refine fV_aload_n hF dJx4a65c_add_72be8_1 rfl rfl ?_
  obtain ⟨a2, e3, hA1, h⟩ := h
  refine fV_alenO hF e3 hA1 dJx4a65c_add_72be8_2 ?_
  refine fV_icmp_ne (tgt := 11) hF dJx4a65c_add_72be8_3 (by decide) (fun c4 => ?_) (fun c4 => ?_)
  · have h := h.1 c4
    refine fV.sub (l' := [some (aR (some o)), some (aR p1), some (aR p2), some (aI p3)]) ⟨rfl, ⟨rfl, ⟨rfl, ⟨rfl, trivial⟩⟩⟩⟩ ?_
    exact mB_Jx4a65c_add_72be8_11 hlv hF hxn hr hE  S n p2 h
  · have h := h.2 c4
    refine fV_aload_n hF dJx4a65c_add_72be8_6 rfl rfl ?_
    obtain ⟨hA5, h⟩ := h
    refine fV_callV (k := 6) (As := []) hF (mc_Jx4a65c_grow_d5877 hF.2.2.2.2.2.2.2.2.1 h) fK6 rfl hA5 (by omega) fw_141 fw_138 fw_140 fwp_1 fw_4 ⟨rfl, by decide, by decide, by decide +kernel⟩ (na := 0) rfl (by decide) (Nat.le_of_ble_eq_true rfl) dJx4a65c_add_72be8_7 rfl (fun rv S7 n8 hp => ?_)
    obtain ⟨r6, rfl, h⟩ := hp
    refine fV_astore_n0 hF [some (aR (some o)), some (aR p1), some (aR r6), some (aI p3)] dJx4a65c_add_72be8_10 rfl (by rw [hxn]; decide) rfl rfl ?_
    refine fV.sub (l' := [some (aR (some o)), some (aR p1), some (aR r6), some (aI p3)]) ⟨rfl, ⟨rfl, ⟨rfl, ⟨rfl, trivial⟩⟩⟩⟩ ?_
    exact mB_Jx4a65c_add_72be8_11 hlv hF hxn hr hE  S7 n8 r6 h
set_option maxRecDepth 100000 in
set_option maxHeartbeats 4000000 in
theorem mc_Jx4a65c_add_9ea2d {l : Launch} (hfl : l.stackTraces = false) {G : fG} {S : fMS} {n : Nat} {o : Nat} {p1 : Option Nat} {post : Int32 → fMS → Nat → Prop} (h : wp_Jx4a65c_add_9ea2d S n o p1 post) : fCM l yJx4a65c_add_9ea2d (.code yJx4a65c_add_9ea2d cJx4a65c_add_9ea2d 2 (some .boolean)) 6 G [(aR (some o)), (aR p1)] S n (fPI post) := by
  refine fCM_of hfl (by decide) (by intro v hv; simp only [List.mem_cons, List.not_mem_nil, or_false] at hv; rcases hv with rfl | rfl <;> rfl) (Nat.le_of_ble_eq_true rfl) (fun F hF hxn hl hG hr hin hE => ?_)
  subst hl hG
  have hlv : 6 ≤ 6 := Nat.le_refl _
  show fV F S n 0 [some (aR (some o)), some (aR p1)] []
  unfold wp_Jx4a65c_add_9ea2d at h
  refine fV_aload_n hF dJx4a65c_add_9ea2d_0 rfl rfl ?_
  refine fV_dup hF dJx4a65c_add_9ea2d_1 rfl ?_
  obtain ⟨hA1, h⟩ := h
  refine fV_getI (k := 6) (i := 0) hF fK6 rfl hA1 (by decide) fw_57 (Or.inr fw_58) rfl dJx4a65c_add_9ea2d_2 ?_
  refine fV_iconst (v := 1) hF dJx4a65c_add_9ea2d_5 (by decide) ?_
  refine fV_iadd hF dJx4a65c_add_9ea2d_6 ?_
  refine fV_putI (k := 6) (i := 0) hF fK6 tyJx4a65c_ok nmJx4a65c rfl hA1 (by decide) rfl fw_57 (Or.inr fw_58) (Or.inl rfl) rfl rfl dJx4a65c_add_9ea2d_7 ?_
  refine fV_aload_n hF dJx4a65c_add_9ea2d_10 rfl rfl ?_
  refine fV_aload_n hF dJx4a65c_add_9ea2d_11 rfl rfl ?_
  refine fV_aload_n hF dJx4a65c_add_9ea2d_12 rfl rfl ?_
  refine fV_getR (k := 6) (i := 1) hF fK6 rfl hA1 (by decide) fw_54 (Or.inl rfl) rfl dJx4a65c_add_9ea2d_13 ?_
  refine fV_aload_n hF dJx4a65c_add_9ea2d_16 rfl rfl ?_
  refine fV_getI (k := 6) (i := 2) hF fK6 rfl hA1 (by decide) fw_55 (Or.inl rfl) rfl dJx4a65c_add_9ea2d_17 ?_
  refine fV_callV (k := 6) (As := [(aR p1), (aR (sR (wI S o 0 ((sI S o 0) + (1 : Int32))) o 1)), (aI (sI (wI S o 0 ((sI S o 0) + (1 : Int32))) o 2))]) hF (mc_Jx4a65c_add_72be8 hF.2.2.2.2.2.2.2.2.1 h) fK6 rfl hA1 (by omega) fw_137 fw_134 fw_136 fwp_0 fw_4 ⟨rfl, by decide, by decide, by decide +kernel⟩ (na := 3) rfl (by decide) (Nat.le_of_ble_eq_true rfl) dJx4a65c_add_9ea2d_20 rfl (fun rv S2 n3 hp => ?_)
  obtain ⟨rfl, h⟩ := hp
  refine fV_iconst (v := 1) hF dJx4a65c_add_9ea2d_23 (by decide) ?_
  exact fV_iret hF hE.s (by omega) hr (by decide) dJx4a65c_add_9ea2d_24 ⟨_, rfl, h⟩
set_option maxRecDepth 100000 in
set_option maxHeartbeats 4000000 in
theorem mB_Jx4a65c_clear_da8c8_27 {F : fX} {lv : Nat} (hlv : 1 ≤ lv) (hF : fOk F cJx4a65c_clear_da8c8 RJx4a65c lv) (hxn : xn F = 4) (hr : (xM F).sig.returnType = none) {post : fMS → Nat → Prop} {o : Nat} (hE : fEnd F lv (fPV post)) : ∀ (f : Nat) (S : fMS) (n : Nat) (x1 : Option Nat) (x2 : Int32) (x3 : Int32) (h : wB_Jx4a65c_clear_da8c8_27 post o f S n x1 x2 x3), fV F S n 27 [some (aR (some o)), some (aR x1), some (aI x2), some (aI x3)] [] := by
  intro f
  induction f with
  | zero => intro _ _ _ _ _ h; exact h.elim
  | succ f ih =>
    intro S n x1 x2 x3 h
    simp only [wB_Jx4a65c_clear_da8c8_27] at h
    refine fV_iload_n hF dJx4a65c_clear_da8c8_27 rfl rfl ?_
    refine fV_iload_n hF dJx4a65c_clear_da8c8_28 rfl rfl ?_
    refine fV_icmp_ge (tgt := 42) hF dJx4a65c_clear_da8c8_29 (by decide) (fun c1 => ?_) (fun c1 => ?_)
    · have h := h.1 c1
      exact fV_vret hF hE.s (by omega) hr dJx4a65c_clear_da8c8_42 ⟨rfl, h⟩
    · have h := h.2 c1
      refine fV_aload_n hF dJx4a65c_clear_da8c8_32 rfl rfl ?_
      refine fV_iload_n hF dJx4a65c_clear_da8c8_33 rfl rfl ?_
      refine fV_null hF dJx4a65c_clear_da8c8_34 ?_
      obtain ⟨a2, e3, hA4, h⟩ := h
      obtain ⟨hix5, h⟩ := h
      obtain ⟨hel6, h⟩ := h
      refine fV_aast hF e3 hA4 hix5 hel6 dJx4a65c_clear_da8c8_35 ?_
      refine fV_iinc (v := 1) hF (fun y => [some (aR (some o)), some (aR x1), some (aI x2), some (aI y)]) dJx4a65c_clear_da8c8_36 rfl (by decide) (by rw [hxn]; decide) rfl (fun _ => rfl) (fun v7 ev7 => ?_)
      have h := h v7 ev7
      refine fV_goto (tgt := 27) hF dJx4a65c_clear_da8c8_39 (by decide) ?_
      refine fV.sub (l' := [some (aR (some o)), some (aR x1), some (aI x2), some (aI v7)]) ⟨rfl, ⟨rfl, ⟨rfl, ⟨rfl, trivial⟩⟩⟩⟩ ?_
      exact ih (wR S a2 (Int32.toNatClampNeg x3) none) n x1 x2 v7 h
set_option maxRecDepth 100000 in
set_option maxHeartbeats 4000000 in
theorem mc_Jx4a65c_clear_da8c8 {l : Launch} (hfl : l.stackTraces = false) {G : fG} {S : fMS} {n : Nat} {o : Nat} {post : fMS → Nat → Prop} (h : wp_Jx4a65c_clear_da8c8 S n o post) : fCM l yJx4a65c_clear_da8c8 (.code yJx4a65c_clear_da8c8 cJx4a65c_clear_da8c8 4 none) 1 G [(aR (some o))] S n (fPV post) := by
  refine fCM_of hfl (by decide) (by intro v hv; simp only [List.mem_cons, List.not_mem_nil, or_false] at hv; rcases hv with rfl <;> rfl) (Nat.le_of_ble_eq_true rfl) (fun F hF hxn hl hG hr hin hE => ?_)
  subst hl hG
  have hlv : 1 ≤ 1 := Nat.le_refl _
  show fV F S n 0 [some (aR (some o)), none, none, none] []
  unfold wp_Jx4a65c_clear_da8c8 at h
  refine fV_aload_n hF dJx4a65c_clear_da8c8_0 rfl rfl ?_
  refine fV_dup hF dJx4a65c_clear_da8c8_1 rfl ?_
  obtain ⟨hA1, h⟩ := h
  refine fV_getI (k := 6) (i := 0) hF fK6 rfl hA1 (by decide) fw_57 (Or.inr fw_58) rfl dJx4a65c_clear_da8c8_2 ?_
  refine fV_iconst (v := 1) hF dJx4a65c_clear_da8c8_5 (by decide) ?_
  refine fV_iadd hF dJx4a65c_clear_da8c8_6 ?_
  refine fV_putI (k := 6) (i := 0) hF fK6 tyJx4a65c_ok nmJx4a65c rfl hA1 (by decide) rfl fw_57 (Or.inr fw_58) (Or.inl rfl) rfl rfl dJx4a65c_clear_da8c8_7 ?_
  refine fV_aload_n hF dJx4a65c_clear_da8c8_10 rfl rfl ?_
  refine fV_getR (k := 6) (i := 1) hF fK6 rfl hA1 (by decide) fw_54 (Or.inl rfl) rfl dJx4a65c_clear_da8c8_11 ?_
  refine fV_astore_n hF (fun y => [some (aR (some o)), some (aR y), none, none]) dJx4a65c_clear_da8c8_14 rfl (by rw [hxn]; decide) rfl (fun _ => rfl) (fun r2 er2 => ?_)
  have h := h r2 er2
  refine fV_aload_n hF dJx4a65c_clear_da8c8_15 rfl rfl ?_
  refine fV_getI (k := 6) (i := 2) hF fK6 rfl hA1 (by decide) fw_55 (Or.inl rfl) rfl dJx4a65c_clear_da8c8_16 ?_
  refine fV_istore_n hF (fun y => [some (aR (some o)), some (aR r2), some (aI y), none]) dJx4a65c_clear_da8c8_19 rfl (by rw [hxn]; decide) rfl (fun _ => rfl) (fun v3 ev3 => ?_)
  have h := h v3 ev3
  refine fV_aload_n hF dJx4a65c_clear_da8c8_20 rfl rfl ?_
  refine fV_iconst (v := 0) hF dJx4a65c_clear_da8c8_21 (by decide) ?_
  refine fV_dup_x1 hF dJx4a65c_clear_da8c8_22 rfl rfl ?_
  refine fV_putI (k := 6) (i := 2) hF fK6 tyJx4a65c_ok nmJx4a65c rfl hA1 (by decide) rfl fw_55 (Or.inl rfl) (Or.inl rfl) rfl rfl dJx4a65c_clear_da8c8_23 ?_
  refine fV_istore_n0 hF [some (aR (some o)), some (aR r2), some (aI v3), some (aI (0 : Int32))] dJx4a65c_clear_da8c8_26 rfl (by rw [hxn]; decide) rfl rfl ?_
  obtain ⟨f1, h⟩ := h
  refine fV.sub (l' := [some (aR (some o)), some (aR r2), some (aI v3), some (aI (0 : Int32))]) ⟨rfl, ⟨rfl, ⟨rfl, ⟨rfl, trivial⟩⟩⟩⟩ ?_
  exact mB_Jx4a65c_clear_da8c8_27 hlv hF hxn hr hE  f1 (wI (wI S o 0 ((sI S o 0) + (1 : Int32))) o 2 (0 : Int32)) n r2 v3 (0 : Int32) h
set_option maxRecDepth 100000 in
set_option maxHeartbeats 4000000 in
theorem mc_Jx4a65c_rangeCheckForAdd_d00df {l : Launch} (hfl : l.stackTraces = false) {G : fG} {S : fMS} {n : Nat} {o : Nat} {p1 : Int32} {post : Prop} (h : wp_Jx4a65c_rangeCheckForAdd_d00df S o p1 post) : fCM l yJx4a65c_rangeCheckForAdd_d00df (.code yJx4a65c_rangeCheckForAdd_d00df cJx4a65c_rangeCheckForAdd_d00df 2 none) 1 G [(aR (some o)), (aI p1)] S n (fPV (fun S' n' => S = S' ∧ n = n' ∧ post)) := by
  refine fCM_of hfl (by decide) (by intro v hv; simp only [List.mem_cons, List.not_mem_nil, or_false] at hv; rcases hv with rfl | rfl <;> rfl) (Nat.le_of_ble_eq_true rfl) (fun F hF hxn hl hG hr hin hE => ?_)
  subst hl hG
  have hlv : 1 ≤ 1 := Nat.le_refl _
  show fV F S n 0 [some (aR (some o)), some (aI p1)] []
  unfold wp_Jx4a65c_rangeCheckForAdd_d00df at h
  refine fV_iload_n hF dJx4a65c_rangeCheckForAdd_d00df_0 rfl rfl ?_
  refine fV_aload_n hF dJx4a65c_rangeCheckForAdd_d00df_1 rfl rfl ?_
  obtain ⟨hA1, h⟩ := h
  refine fV_getI (k := 6) (i := 2) hF fK6 rfl hA1 (by decide) fw_55 (Or.inl rfl) rfl dJx4a65c_rangeCheckForAdd_d00df_2 ?_
  refine fV_icmp_gt (tgt := 12) hF dJx4a65c_rangeCheckForAdd_d00df_5 (by decide) (fun c2 => ?_) (fun c2 => ?_)
  · have h := h.1 c2
    exact h.elim
  · have h := h.2 c2
    refine fV_iload_n hF dJx4a65c_rangeCheckForAdd_d00df_8 rfl rfl ?_
    refine fV_if_ge (tgt := 25) hF dJx4a65c_rangeCheckForAdd_d00df_9 (by decide) (fun c3 => ?_) (fun c3 => ?_)
    · have h := h.1 c3
      exact fV_vret hF hE.s (by omega) hr dJx4a65c_rangeCheckForAdd_d00df_25 ⟨rfl, rfl, rfl, h⟩
    · have h := h.2 c3
      exact h.elim
set_option maxRecDepth 100000 in
set_option maxHeartbeats 4000000 in
theorem mB_Jx4a65c_add_7a177_38 {F : fX} {lv : Nat} (hlv : 5 ≤ lv) (hF : fOk F cJx4a65c_add_7a177 RJx4a65c lv) (hxn : xn F = 5) (hr : (xM F).sig.returnType = none) {post : fMS → Nat → Prop} {o : Nat} {p1 : Int32} {p2 : Option Nat} (hE : fEnd F lv (fPV post)) (S : fMS) (n : Nat) (x3 : Int32) (x4 : Option Nat) (h : wB_Jx4a65c_add_7a177_38 post o p1 p2 S n x3 x4) : fV F S n 38 [some (aR (some o)), some (aI p1), some (aR p2), some (aI x3), some (aR x4)] [] := by
  unfold wB_Jx4a65c_add_7a177_38 at h
  refine fV_aload hF dJx4a65c_add_7a177_38 rfl ?_
  refine fV_iload_n hF dJx4a65c_add_7a177_40 rfl rfl ?_
  refine fV_aload hF dJx4a65c_add_7a177_41 rfl ?_
  refine fV_iload_n hF dJx4a65c_add_7a177_43 rfl rfl ?_
  refine fV_iconst (v := 1) hF dJx4a65c_add_7a177_44 (by decide) ?_
  refine fV_iadd hF dJx4a65c_add_7a177_45 ?_
  refine fV_iload_n hF dJx4a65c_add_7a177_46 rfl rfl ?_
  refine fV_iload_n hF dJx4a65c_add_7a177_47 rfl rfl ?_
  refine fV_isub hF dJx4a65c_add_7a177_48 ?_
  obtain ⟨a1, e2, hA3, h⟩ := h
  obtain ⟨hcp4, h⟩ := h
  refine fV_copy hF e2 hA3 e2 hA3 hcp4 (by omega) (Nat.le_of_ble_eq_true rfl) fw_683 dJx4a65c_add_7a177_49 ?_
  refine fV_aload hF dJx4a65c_add_7a177_52 rfl ?_
  refine fV_iload_n hF dJx4a65c_add_7a177_54 rfl rfl ?_
  refine fV_aload_n hF dJx4a65c_add_7a177_55 rfl rfl ?_
  obtain ⟨hix5, h⟩ := h
  obtain ⟨hel6, h⟩ := h
  refine fV_aast hF e2 hA3 hix5 hel6 dJx4a65c_add_7a177_56 ?_
  refine fV_aload_n hF dJx4a65c_add_7a177_57 rfl rfl ?_
  refine fV_iload_n hF dJx4a65c_add_7a177_58 rfl rfl ?_
  refine fV_iconst (v := 1) hF dJx4a65c_add_7a177_59 (by decide) ?_
  refine fV_iadd hF dJx4a65c_add_7a177_60 ?_
  obtain ⟨hA7, h⟩ := h
  refine fV_putI (k := 6) (i := 2) hF fK6 tyJx4a65c_ok nmJx4a65c rfl hA7 (by decide) rfl fw_55 (Or.inl rfl) (Or.inl rfl) rfl rfl dJx4a65c_add_7a177_61 ?_
  exact fV_vret hF hE.s (by omega) hr dJx4a65c_add_7a177_64 ⟨rfl, h⟩
set_option maxRecDepth 100000 in
set_option maxHeartbeats 4000000 in
theorem mc_Jx4a65c_add_7a177 {l : Launch} (hfl : l.stackTraces = false) {G : fG} {S : fMS} {n : Nat} {o : Nat} {p1 : Int32} {p2 : Option Nat} {post : fMS → Nat → Prop} (h : wp_Jx4a65c_add_7a177 S n o p1 p2 post) : fCM l yJx4a65c_add_7a177 (.code yJx4a65c_add_7a177 cJx4a65c_add_7a177 5 none) 5 G [(aR (some o)), (aI p1), (aR p2)] S n (fPV post) := by
  refine fCM_of hfl (by decide) (by intro v hv; simp only [List.mem_cons, List.not_mem_nil, or_false] at hv; rcases hv with rfl | rfl | rfl <;> rfl) (Nat.le_of_ble_eq_true rfl) (fun F hF hxn hl hG hr hin hE => ?_)
  subst hl hG
  have hlv : 5 ≤ 5 := Nat.le_refl _
  show fV F S n 0 [some (aR (some o)), some (aI p1), some (aR p2), none, none] []
  unfold wp_Jx4a65c_add_7a177 at h
  refine fV_aload_n hF dJx4a65c_add_7a177_0 rfl rfl ?_
  refine fV_iload_n hF dJx4a65c_add_7a177_1 rfl rfl ?_
  obtain ⟨hA1, h⟩ := h
  refine fV_callV (k := 6) (As := [(aI p1)]) hF (mc_Jx4a65c_rangeCheckForAdd_d00df hF.2.2.2.2.2.2.2.2.1 h) fK6 rfl hA1 (by omega) fw_363 fw_360 fw_362 fwp_19 fw_4 ⟨rfl, by decide, by decide, by decide +kernel⟩ (na := 1) rfl (by decide) (Nat.le_of_ble_eq_true rfl) dJx4a65c_add_7a177_2 rfl (fun rv S9 n9 hp => ?_)
  obtain ⟨rfl, rfl, rfl, h⟩ := hp
  refine fV_aload_n hF dJx4a65c_add_7a177_5 rfl rfl ?_
  refine fV_dup hF dJx4a65c_add_7a177_6 rfl ?_
  refine fV_getI (k := 6) (i := 0) hF fK6 rfl hA1 (by decide) fw_57 (Or.inr fw_58) rfl dJx4a65c_add_7a177_7 ?_
  refine fV_iconst (v := 1) hF dJx4a65c_add_7a177_10 (by decide) ?_
  refine fV_iadd hF dJx4a65c_add_7a177_11 ?_
  refine fV_putI (k := 6) (i := 0) hF fK6 tyJx4a65c_ok nmJx4a65c rfl hA1 (by decide) rfl fw_57 (Or.inr fw_58) (Or.inl rfl) rfl rfl dJx4a65c_add_7a177_12 ?_
  refine fV_aload_n hF dJx4a65c_add_7a177_15 rfl rfl ?_
  refine fV_getI (k := 6) (i := 2) hF fK6 rfl hA1 (by decide) fw_55 (Or.inl rfl) rfl dJx4a65c_add_7a177_16 ?_
  refine fV_dup hF dJx4a65c_add_7a177_19 rfl ?_
  refine fV_istore_n hF (fun y => [some (aR (some o)), some (aI p1), some (aR p2), some (aI y), none]) dJx4a65c_add_7a177_20 rfl (by rw [hxn]; decide) rfl (fun _ => rfl) (fun v2 ev2 => ?_)
  have h := h v2 ev2
  refine fV_aload_n hF dJx4a65c_add_7a177_21 rfl rfl ?_
  refine fV_getR (k := 6) (i := 1) hF fK6 rfl hA1 (by decide) fw_54 (Or.inl rfl) rfl dJx4a65c_add_7a177_22 ?_
  refine fV_dup hF dJx4a65c_add_7a177_25 rfl ?_
  refine fV_astore hF (fun y => [some (aR (some o)), some (aI p1), some (aR p2), some (aI v2), some (aR y)]) dJx4a65c_add_7a177_26 (by rw [hxn]; decide) rfl (fun _ => rfl) (fun r3 er3 => ?_)
  have h := h r3 er3
  obtain ⟨a5, e6, hA4, h⟩ := h
  refine fV_alenO hF e6 hA4 dJx4a65c_add_7a177_28 ?_
  refine fV_icmp_ne (tgt := 38) hF dJx4a65c_add_7a177_29 (by decide) (fun c7 => ?_) (fun c7 => ?_)
  · have h := h.1 c7
    refine fV.sub (l' := [some (aR (some o)), some (aI p1), some (aR p2), some (aI v2), some (aR r3)]) ⟨rfl, ⟨rfl, ⟨rfl, ⟨rfl, ⟨rfl, trivial⟩⟩⟩⟩⟩ ?_
    exact mB_Jx4a65c_add_7a177_38 hlv hF hxn hr hE  (wI S o 0 ((sI S o 0) + (1 : Int32))) n v2 r3 h
  · have h := h.2 c7
    refine fV_aload_n hF dJx4a65c_add_7a177_32 rfl rfl ?_
    refine fV_callV (k := 6) (As := []) hF (mc_Jx4a65c_grow_d5877 hF.2.2.2.2.2.2.2.2.1 h) fK6 rfl hA1 (by omega) fw_141 fw_138 fw_140 fwp_1 fw_4 ⟨rfl, by decide, by decide, by decide +kernel⟩ (na := 0) rfl (by decide) (Nat.le_of_ble_eq_true rfl) dJx4a65c_add_7a177_33 rfl (fun rv S9 n10 hp => ?_)
    obtain ⟨r8, rfl, h⟩ := hp
    refine fV_astore0 hF [some (aR (some o)), some (aI p1), some (aR p2), some (aI v2), some (aR r8)] dJx4a65c_add_7a177_36 (by rw [hxn]; decide) rfl rfl ?_
    refine fV.sub (l' := [some (aR (some o)), some (aI p1), some (aR p2), some (aI v2), some (aR r8)]) ⟨rfl, ⟨rfl, ⟨rfl, ⟨rfl, ⟨rfl, trivial⟩⟩⟩⟩⟩ ?_
    exact mB_Jx4a65c_add_7a177_38 hlv hF hxn hr hE  S9 n10 v2 r8 h
set_option maxRecDepth 100000 in
set_option maxHeartbeats 4000000 in
theorem mB_Jx4a65c_fastRemove_b59b0_34 {F : fX} {lv : Nat} (hlv : 1 ≤ lv) (hF : fOk F cJx4a65c_fastRemove_b59b0 RJx4a65c lv) (hxn : xn F = 4) (hr : (xM F).sig.returnType = none) {post : fMS → Nat → Prop} {o : Nat} {p1 : Option Nat} {p2 : Int32} (hE : fEnd F lv (fPV post)) (S : fMS) (n : Nat) (x3 : Int32) (h : wB_Jx4a65c_fastRemove_b59b0_34 post o p1 p2 S n x3) : fV F S n 34 [some (aR (some o)), some (aR p1), some (aI p2), some (aI x3)] [] := by
  unfold wB_Jx4a65c_fastRemove_b59b0_34 at h
  refine fV_aload_n hF dJx4a65c_fastRemove_b59b0_34 rfl rfl ?_
  refine fV_aload_n hF dJx4a65c_fastRemove_b59b0_35 rfl rfl ?_
  refine fV_iload_n hF dJx4a65c_fastRemove_b59b0_36 rfl rfl ?_
  refine fV_dup_x1 hF dJx4a65c_fastRemove_b59b0_37 rfl rfl ?_
  obtain ⟨hA1, h⟩ := h
  refine fV_putI (k := 6) (i := 2) hF fK6 tyJx4a65c_ok nmJx4a65c rfl hA1 (by decide) rfl fw_55 (Or.inl rfl) (Or.inl rfl) rfl rfl dJx4a65c_fastRemove_b59b0_38 ?_
  refine fV_null hF dJx4a65c_fastRemove_b59b0_41 ?_
  obtain ⟨a2, e3, hA4, h⟩ := h
  obtain ⟨hix5, h⟩ := h
  obtain ⟨hel6, h⟩ := h
  refine fV_aast hF e3 hA4 hix5 hel6 dJx4a65c_fastRemove_b59b0_42 ?_
  exact fV_vret hF hE.s (by omega) hr dJx4a65c_fastRemove_b59b0_43 ⟨rfl, h⟩
set_option maxRecDepth 100000 in
set_option maxHeartbeats 4000000 in
theorem mc_Jx4a65c_fastRemove_b59b0 {l : Launch} (hfl : l.stackTraces = false) {G : fG} {S : fMS} {n : Nat} {o : Nat} {p1 : Option Nat} {p2 : Int32} {post : fMS → Nat → Prop} (h : wp_Jx4a65c_fastRemove_b59b0 S n o p1 p2 post) : fCM l yJx4a65c_fastRemove_b59b0 (.code yJx4a65c_fastRemove_b59b0 cJx4a65c_fastRemove_b59b0 4 none) 1 G [(aR (some o)), (aR p1), (aI p2)] S n (fPV post) := by
  refine fCM_of hfl (by decide) (by intro v hv; simp only [List.mem_cons, List.not_mem_nil, or_false] at hv; rcases hv with rfl | rfl | rfl <;> rfl) (Nat.le_of_ble_eq_true rfl) (fun F hF hxn hl hG hr hin hE => ?_)
  subst hl hG
  have hlv : 1 ≤ 1 := Nat.le_refl _
  show fV F S n 0 [some (aR (some o)), some (aR p1), some (aI p2), none] []
  unfold wp_Jx4a65c_fastRemove_b59b0 at h
  refine fV_aload_n hF dJx4a65c_fastRemove_b59b0_0 rfl rfl ?_
  refine fV_dup hF dJx4a65c_fastRemove_b59b0_1 rfl ?_
  obtain ⟨hA1, h⟩ := h
  refine fV_getI (k := 6) (i := 0) hF fK6 rfl hA1 (by decide) fw_57 (Or.inr fw_58) rfl dJx4a65c_fastRemove_b59b0_2 ?_
  refine fV_iconst (v := 1) hF dJx4a65c_fastRemove_b59b0_5 (by decide) ?_
  refine fV_iadd hF dJx4a65c_fastRemove_b59b0_6 ?_
  refine fV_putI (k := 6) (i := 0) hF fK6 tyJx4a65c_ok nmJx4a65c rfl hA1 (by decide) rfl fw_57 (Or.inr fw_58) (Or.inl rfl) rfl rfl dJx4a65c_fastRemove_b59b0_7 ?_
  refine fV_aload_n hF dJx4a65c_fastRemove_b59b0_10 rfl rfl ?_
  refine fV_getI (k := 6) (i := 2) hF fK6 rfl hA1 (by decide) fw_55 (Or.inl rfl) rfl dJx4a65c_fastRemove_b59b0_11 ?_
  refine fV_iconst (v := 1) hF dJx4a65c_fastRemove_b59b0_14 (by decide) ?_
  refine fV_isub hF dJx4a65c_fastRemove_b59b0_15 ?_
  refine fV_dup hF dJx4a65c_fastRemove_b59b0_16 rfl ?_
  refine fV_istore_n hF (fun y => [some (aR (some o)), some (aR p1), some (aI p2), some (aI y)]) dJx4a65c_fastRemove_b59b0_17 rfl (by rw [hxn]; decide) rfl (fun _ => rfl) (fun v2 ev2 => ?_)
  have h := h v2 ev2
  refine fV_iload_n hF dJx4a65c_fastRemove_b59b0_18 rfl rfl ?_
  refine fV_icmp_le (tgt := 34) hF dJx4a65c_fastRemove_b59b0_19 (by decide) (fun c3 => ?_) (fun c3 => ?_)
  · have h := h.1 c3
    refine fV.sub (l' := [some (aR (some o)), some (aR p1), some (aI p2), some (aI v2)]) ⟨rfl, ⟨rfl, ⟨rfl, ⟨rfl, trivial⟩⟩⟩⟩ ?_
    exact mB_Jx4a65c_fastRemove_b59b0_34 hlv hF hxn hr hE  (wI S o 0 ((sI S o 0) + (1 : Int32))) n v2 h
  · have h := h.2 c3
    refine fV_aload_n hF dJx4a65c_fastRemove_b59b0_22 rfl rfl ?_
    refine fV_iload_n hF dJx4a65c_fastRemove_b59b0_23 rfl rfl ?_
    refine fV_iconst (v := 1) hF dJx4a65c_fastRemove_b59b0_24 (by decide) ?_
    refine fV_iadd hF dJx4a65c_fastRemove_b59b0_25 ?_
    refine fV_aload_n hF dJx4a65c_fastRemove_b59b0_26 rfl rfl ?_
    refine fV_iload_n hF dJx4a65c_fastRemove_b59b0_27 rfl rfl ?_
    refine fV_iload_n hF dJx4a65c_fastRemove_b59b0_28 rfl rfl ?_
    refine fV_iload_n hF dJx4a65c_fastRemove_b59b0_29 rfl rfl ?_
    refine fV_isub hF dJx4a65c_fastRemove_b59b0_30 ?_
    obtain ⟨a4, e5, hA6, h⟩ := h
    obtain ⟨hcp7, h⟩ := h
    refine fV_copy hF e5 hA6 e5 hA6 hcp7 (by omega) (Nat.le_of_ble_eq_true rfl) fw_683 dJx4a65c_fastRemove_b59b0_31 ?_
    refine fV.sub (l' := [some (aR (some o)), some (aR p1), some (aI p2), some (aI v2)]) ⟨rfl, ⟨rfl, ⟨rfl, ⟨rfl, trivial⟩⟩⟩⟩ ?_
    exact mB_Jx4a65c_fastRemove_b59b0_34 hlv hF hxn hr hE  (wC (wI S o 0 ((sI S o 0) + (1 : Int32))) a4 (Int32.toNatClampNeg (p2 + (1 : Int32))) a4 (Int32.toNatClampNeg p2) (Int32.toNatClampNeg (v2 - p2))) n v2 h
set_option maxRecDepth 100000 in
set_option maxHeartbeats 4000000 in
theorem mc_Jx4a65c_remove_915e3 {l : Launch} (hfl : l.stackTraces = false) {G : fG} {S : fMS} {n : Nat} {o : Nat} {p1 : Int32} {post : Option Nat → fMS → Nat → Prop} (h : wp_Jx4a65c_remove_915e3 S n o p1 post) : fCM l yJx4a65c_remove_915e3 (.code yJx4a65c_remove_915e3 cJx4a65c_remove_915e3 4 (some (.object "java/lang/Object"))) 3 G [(aR (some o)), (aI p1)] S n (fPR post) := by
  refine fCM_of hfl (by decide) (by intro v hv; simp only [List.mem_cons, List.not_mem_nil, or_false] at hv; rcases hv with rfl | rfl <;> rfl) (Nat.le_of_ble_eq_true rfl) (fun F hF hxn hl hG hr hin hE => ?_)
  subst hl hG
  have hlv : 3 ≤ 3 := Nat.le_refl _
  show fV F S n 0 [some (aR (some o)), some (aI p1), none, none] []
  unfold wp_Jx4a65c_remove_915e3 at h
  refine fV_iload_n hF dJx4a65c_remove_915e3_0 rfl rfl ?_
  refine fV_aload_n hF dJx4a65c_remove_915e3_1 rfl rfl ?_
  obtain ⟨hA1, h⟩ := h
  refine fV_getI (k := 6) (i := 2) hF fK6 rfl hA1 (by decide) fw_55 (Or.inl rfl) rfl dJx4a65c_remove_915e3_2 ?_
  refine fV_callS (As := [(aI p1), (aI (sI S o 2))]) hF (mc_J15_checkIndex_7cf53 hF.2.2.2.2.2.2.2.2.1 h) (by omega) fw_260 fw_258 fw_259 fw_17 ⟨by decide, by decide, by decide +kernel⟩ (na := 2) rfl (by decide) (Nat.le_of_ble_eq_true rfl) dJx4a65c_remove_915e3_5 rfl (fun rv S9 n9 hp => ?_)
  obtain ⟨v2, rfl, rfl, rfl, h⟩ := hp
  refine fV_pop hF dJx4a65c_remove_915e3_8 rfl ?_
  refine fV_aload_n hF dJx4a65c_remove_915e3_9 rfl rfl ?_
  refine fV_getR (k := 6) (i := 1) hF fK6 rfl hA1 (by decide) fw_54 (Or.inl rfl) rfl dJx4a65c_remove_915e3_10 ?_
  refine fV_astore_n hF (fun y => [some (aR (some o)), some (aI p1), some (aR y), none]) dJx4a65c_remove_915e3_13 rfl (by rw [hxn]; decide) rfl (fun _ => rfl) (fun r3 er3 => ?_)
  have h := h r3 er3
  refine fV_aload_n hF dJx4a65c_remove_915e3_14 rfl rfl ?_
  refine fV_iload_n hF dJx4a65c_remove_915e3_15 rfl rfl ?_
  obtain ⟨a4, e5, hA6, h⟩ := h
  obtain ⟨hix7, h⟩ := h
  refine fV_aald hF e5 hA6 hix7 dJx4a65c_remove_915e3_16 ?_
  refine fV_astore_n hF (fun y => [some (aR (some o)), some (aI p1), some (aR r3), some (aR y)]) dJx4a65c_remove_915e3_17 rfl (by rw [hxn]; decide) rfl (fun _ => rfl) (fun r8 er8 => ?_)
  have h := h r8 er8
  refine fV_aload_n hF dJx4a65c_remove_915e3_18 rfl rfl ?_
  refine fV_aload_n hF dJx4a65c_remove_915e3_19 rfl rfl ?_
  refine fV_iload_n hF dJx4a65c_remove_915e3_20 rfl rfl ?_
  refine fV_callV (k := 6) (As := [(aR r3), (aI p1)]) hF (mc_Jx4a65c_fastRemove_b59b0 hF.2.2.2.2.2.2.2.2.1 h) fK6 rfl hA1 (by omega) fw_957 fw_954 fw_956 fwp_35 fw_4 ⟨rfl, by decide, by decide, by decide +kernel⟩ (na := 2) rfl (by decide) (Nat.le_of_ble_eq_true rfl) dJx4a65c_remove_915e3_21 rfl (fun rv S9 n10 hp => ?_)
  obtain ⟨rfl, h⟩ := hp
  refine fV_aload_n hF dJx4a65c_remove_915e3_24 rfl rfl ?_
  exact fV_aret hF hE.s (by omega) hr (Or.inl ⟨_, rfl⟩) dJx4a65c_remove_915e3_25 ⟨_, rfl, h⟩
