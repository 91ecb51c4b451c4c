set_option maxRecDepth 100000 in
set_option maxHeartbeats 4000000 in
theorem mc_X4_init {l : Launch} (hfl : l.stackTraces = false) {G : fG} {S : fMS} {n : Nat} {o : Nat} {post : fMS → Nat → Prop} (h : wp_X4_init S n o post) : fCM l yX4_init (.code yX4_init cX4_init 1 none) 1 G [(aR (some o))] S n (fPV post) := by
  refine fCM_of hfl (by decide) (by intro v hv; simp only [List.mem_cons, List.not_mem_nil, or_false] at hv; rcases hv with rfl <;> rfl) (Nat.le_of_ble_eq_true rfl) (fun F hF hxn hl hG hr hin hE => ?_)
  subst hl hG
  have hlv : 1 ≤ 1 := Nat.le_refl _
  show fV F S n 0 [some (aR (some o))] []
  unfold wp_X4_init at h
  refine fV_aload_n hF dX4_init_0 rfl rfl ?_
  refine fV_obj hF rfl (by omega) fw_1154 (Nat.le_of_ble_eq_true rfl) dX4_init_1 ?_
  refine fV_aload_n hF dX4_init_4 rfl rfl ?_
  refine fV_bipush (v := 20) hF dX4_init_5 (by decide) ?_
  obtain ⟨hA1, h⟩ := h
  refine fV_putI (k := 5) (i := 2) hF fK5 tyX4_ok nmX4 rfl hA1 (by decide) rfl fw_1157 (Or.inl rfl) (Or.inl rfl) rfl rfl dX4_init_7 ?_
  obtain ⟨S2, eS2⟩ : ∃ z, z = wI S o 2 (20 : Int32) := ⟨_, rfl⟩
  rw [← eS2]
  have h := h S2 eS2
  have hA3 : isA S2 5 o := by rw [eS2]; exact hA1
  refine fV_aload_n hF dX4_init_10 rfl rfl ?_
  refine fV_bipush (v := 10) hF dX4_init_11 (by decide) ?_
  refine fV_putI (k := 5) (i := 3) hF fK5 tyX4_ok nmX4 rfl hA3 (by decide) rfl fw_1158 (Or.inl rfl) (Or.inl rfl) rfl rfl dX4_init_13 ?_
  obtain ⟨S4, eS4⟩ : ∃ z, z = wI S2 o 3 (10 : Int32) := ⟨_, rfl⟩
  rw [← eS4]
  have h := h S4 eS4
  have hA5 : isA S4 5 o := by rw [eS4]; exact hA3
  refine fV_aload_n hF dX4_init_16 rfl rfl ?_
  refine fV_iconst (v := 1) hF dX4_init_17 (by decide) ?_
  refine fV_putI (k := 5) (i := 4) hF fK5 tyX4_ok nmX4 rfl hA5 (by decide) rfl fw_1159 (Or.inl rfl) (Or.inl rfl) rfl rfl dX4_init_18 ?_
  obtain ⟨S6, eS6⟩ : ∃ z, z = wI S4 o 4 (1 : Int32) := ⟨_, rfl⟩
  rw [← eS6]
  have h := h S6 eS6
  have hA7 : isA S6 5 o := by rw [eS6]; exact hA5
  refine fV_aload_n hF dX4_init_21 rfl rfl ?_
  refine fV_bipush (v := 10) hF dX4_init_22 (by decide) ?_
  obtain ⟨hn8, h⟩ := h
  refine fV_newI (N := 10) hF (by omega) fw_1255 (by decide) (by decide) hn8 dX4_init_24 (fun q9 hq10 hqe11 => ?_)
  have h := h q9 hq10 hqe11
  obtain ⟨S12, eS12⟩ : ∃ z, z = wN S6 q9 11 10 := ⟨_, rfl⟩
  rw [← eS12]
  have h := h S12 eS12
  have hA13 : isA S12 5 o := by rw [eS12]; exact (isA_new (k := 11) (N := 10) hq10 hA7)
  have hA14 : isA S12 11 q9 := by rw [eS12]; exact (isA_made (S := S6) (k := 11) (N := 10))
  refine fV_putR (k := 5) (i := 5) hF fK5 tyX4_ok nmX4 rfl hA13 (by decide) rfl fw_1160 (Or.inl rfl) (Or.inr ⟨rfl, hin, rfl⟩) (rf_nar _ _) (rf_fit (ty := tyX4 5) rfl _) dX4_init_26 ?_
  obtain ⟨S15, eS15⟩ : ∃ z, z = wR S12 o 5 (some q9) := ⟨_, rfl⟩
  rw [← eS15]
  have h := h S15 eS15
  have hA16 : isA S15 5 o := by rw [eS15]; exact hA13
  have hA17 : isA S15 11 q9 := by rw [eS15]; exact hA14
  refine fV_aload_n hF dX4_init_29 rfl rfl ?_
  refine fV_bipush (v := 10) hF dX4_init_30 (by decide) ?_
  obtain ⟨hn18, h⟩ := h
  refine fV_newI (N := 10) hF (by omega) fw_1255 (by decide) (by decide) hn18 dX4_init_32 (fun q19 hq20 hqe21 => ?_)
  have h := h q19 hq20 hqe21
  obtain ⟨S22, eS22⟩ : ∃ z, z = wN S15 q19 11 10 := ⟨_, rfl⟩
  rw [← eS22]
  have h := h S22 eS22
  have hA23 : isA S22 5 o := by rw [eS22]; exact (isA_new (k := 11) (N := 10) hq20 hA16)
  have hA24 : isA S22 11 q9 := by rw [eS22]; exact (isA_new (k := 11) (N := 10) hq20 hA17)
  have hA25 : isA S22 11 q19 := by rw [eS22]; exact (isA_made (S := S15) (k := 11) (N := 10))
  refine fV_putR (k := 5) (i := 6) hF fK5 tyX4_ok nmX4 rfl hA23 (by decide) rfl fw_1161 (Or.inl rfl) (Or.inr ⟨rfl, hin, rfl⟩) (rf_nar _ _) (rf_fit (ty := tyX4 6) rfl _) dX4_init_34 ?_
  obtain ⟨S26, eS26⟩ : ∃ z, z = wR S22 o 6 (some q19) := ⟨_, rfl⟩
  rw [← eS26]
  have h := h S26 eS26
  have hA27 : isA S26 5 o := by rw [eS26]; exact hA23
  have hA28 : isA S26 11 q9 := by rw [eS26]; exact hA24
  have hA29 : isA S26 11 q19 := by rw [eS26]; exact hA25
  refine fV_aload_n hF dX4_init_37 rfl rfl ?_
  refine fV_bipush (v := 10) hF dX4_init_38 (by decide) ?_
  obtain ⟨hn30, h⟩ := h
  refine fV_newI (N := 10) hF (by omega) fw_1255 (by decide) (by decide) hn30 dX4_init_40 (fun q31 hq32 hqe33 => ?_)
  have h := h q31 hq32 hqe33
  obtain ⟨S34, eS34⟩ : ∃ z, z = wN S26 q31 11 10 := ⟨_, rfl⟩
  rw [← eS34]
  have h := h S34 eS34
  have hA35 : isA S34 5 o := by rw [eS34]; exact (isA_new (k := 11) (N := 10) hq32 hA27)
  have hA36 : isA S34 11 q9 := by rw [eS34]; exact (isA_new (k := 11) (N := 10) hq32 hA28)
  have hA37 : isA S34 11 q19 := by rw [eS34]; exact (isA_new (k := 11) (N := 10) hq32 hA29)
  have hA38 : isA S34 11 q31 := by rw [eS34]; exact (isA_made (S := S26) (k := 11) (N := 10))
  refine fV_putR (k := 5) (i := 7) hF fK5 tyX4_ok nmX4 rfl hA35 (by decide) rfl fw_1162 (Or.inl rfl) (Or.inr ⟨rfl, hin, rfl⟩) (rf_nar _ _) (rf_fit (ty := tyX4 7) rfl _) dX4_init_42 ?_
  obtain ⟨S39, eS39⟩ : ∃ z, z = wR S34 o 7 (some q31) := ⟨_, rfl⟩
  rw [← eS39]
  have h := h S39 eS39
  have hA40 : isA S39 5 o := by rw [eS39]; exact hA35
  have hA41 : isA S39 11 q9 := by rw [eS39]; exact hA36
  have hA42 : isA S39 11 q19 := by rw [eS39]; exact hA37
  have hA43 : isA S39 11 q31 := by rw [eS39]; exact hA38
  refine fV_aload_n hF dX4_init_45 rfl rfl ?_
  refine fV_bipush (v := 10) hF dX4_init_46 (by decide) ?_
  obtain ⟨hn44, h⟩ := h
  refine fV_newJ (N := 10) hF (by omega) fw_1256 (by decide) (by decide) hn44 dX4_init_48 (fun q45 hq46 hqe47 => ?_)
  have h := h q45 hq46 hqe47
  obtain ⟨S48, eS48⟩ : ∃ z, z = wN S39 q45 12 10 := ⟨_, rfl⟩
  rw [← eS48]
  have h := h S48 eS48
  have hA49 : isA S48 5 o := by rw [eS48]; exact (isA_new (k := 12) (N := 10) hq46 hA40)
  have hA50 : isA S48 11 q9 := by rw [eS48]; exact (isA_new (k := 12) (N := 10) hq46 hA41)
  have hA51 : isA S48 11 q19 := by rw [eS48]; exact (isA_new (k := 12) (N := 10) hq46 hA42)
  have hA52 : isA S48 11 q31 := by rw [eS48]; exact (isA_new (k := 12) (N := 10) hq46 hA43)
  have hA53 : isA S48 12 q45 := by rw [eS48]; exact (isA_made (S := S39) (k := 12) (N := 10))
  refine fV_putR (k := 5) (i := 8) hF fK5 tyX4_ok nmX4 rfl hA49 (by decide) rfl fw_1163 (Or.inl rfl) (Or.inr ⟨rfl, hin, rfl⟩) (rf_nar _ _) (rf_fit (ty := tyX4 8) rfl _) dX4_init_50 ?_
  obtain ⟨S54, eS54⟩ : ∃ z, z = wR S48 o 8 (some q45) := ⟨_, rfl⟩
  rw [← eS54]
  have h := h S54 eS54
  have hA55 : isA S54 5 o := by rw [eS54]; exact hA49
  have hA56 : isA S54 11 q9 := by rw [eS54]; exact hA50
  have hA57 : isA S54 11 q19 := by rw [eS54]; exact hA51
  have hA58 : isA S54 11 q31 := by rw [eS54]; exact hA52
  have hA59 : isA S54 12 q45 := by rw [eS54]; exact hA53
  refine fV_aload_n hF dX4_init_53 rfl rfl ?_
  refine fV_bipush (v := 10) hF dX4_init_54 (by decide) ?_
  obtain ⟨hn60, h⟩ := h
  refine fV_newZ (N := 10) hF (by omega) fw_1257 (by decide) (by decide) hn60 dX4_init_56 (fun q61 hq62 hqe63 => ?_)
  have h := h q61 hq62 hqe63
  obtain ⟨S64, eS64⟩ : ∃ z, z = wN S54 q61 13 10 := ⟨_, rfl⟩
  rw [← eS64]
  have h := h S64 eS64
  have hA65 : isA S64 5 o := by rw [eS64]; exact (isA_new (k := 13) (N := 10) hq62 hA55)
  have hA66 : isA S64 11 q9 := by rw [eS64]; exact (isA_new (k := 13) (N := 10) hq62 hA56)
  have hA67 : isA S64 11 q19 := by rw [eS64]; exact (isA_new (k := 13) (N := 10) hq62 hA57)
  have hA68 : isA S64 11 q31 := by rw [eS64]; exact (isA_new (k := 13) (N := 10) hq62 hA58)
  have hA69 : isA S64 12 q45 := by rw [eS64]; exact (isA_new (k := 13) (N := 10) hq62 hA59)
  have hA70 : isA S64 13 q61 := by rw [eS64]; exact (isA_made (S := S54) (k := 13) (N := 10))
  refine fV_putR (k := 5) (i := 9) hF fK5 tyX4_ok nmX4 rfl hA65 (by decide) rfl fw_1164 (Or.inl rfl) (Or.inr ⟨rfl, hin, rfl⟩) (rf_nar _ _) (rf_fit (ty := tyX4 9) rfl _) dX4_init_58 ?_
  obtain ⟨S71, eS71⟩ : ∃ z, z = wR S64 o 9 (some q61) := ⟨_, rfl⟩
  rw [← eS71]
  have h := h S71 eS71
  have hA72 : isA S71 5 o := by rw [eS71]; exact hA65
  have hA73 : isA S71 11 q9 := by rw [eS71]; exact hA66
  have hA74 : isA S71 11 q19 := by rw [eS71]; exact hA67
  have hA75 : isA S71 11 q31 := by rw [eS71]; exact hA68
  have hA76 : isA S71 12 q45 := by rw [eS71]; exact hA69
  have hA77 : isA S71 13 q61 := by rw [eS71]; exact hA70
  refine fV_aload_n hF dX4_init_61 rfl rfl ?_
  refine fV_bipush (v := 10) hF dX4_init_62 (by decide) ?_
  obtain ⟨hn78, h⟩ := h
  refine fV_newI (N := 10) hF (by omega) fw_1255 (by decide) (by decide) hn78 dX4_init_64 (fun q79 hq80 hqe81 => ?_)
  have h := h q79 hq80 hqe81
  obtain ⟨S82, eS82⟩ : ∃ z, z = wN S71 q79 11 10 := ⟨_, rfl⟩
  rw [← eS82]
  have h := h S82 eS82
  have hA83 : isA S82 5 o := by rw [eS82]; exact (isA_new (k := 11) (N := 10) hq80 hA72)
  have hA84 : isA S82 11 q9 := by rw [eS82]; exact (isA_new (k := 11) (N := 10) hq80 hA73)
  have hA85 : isA S82 11 q19 := by rw [eS82]; exact (isA_new (k := 11) (N := 10) hq80 hA74)
  have hA86 : isA S82 11 q31 := by rw [eS82]; exact (isA_new (k := 11) (N := 10) hq80 hA75)
  have hA87 : isA S82 12 q45 := by rw [eS82]; exact (isA_new (k := 11) (N := 10) hq80 hA76)
  have hA88 : isA S82 13 q61 := by rw [eS82]; exact (isA_new (k := 11) (N := 10) hq80 hA77)
  have hA89 : isA S82 11 q79 := by rw [eS82]; exact (isA_made (S := S71) (k := 11) (N := 10))
  refine fV_putR (k := 5) (i := 10) hF fK5 tyX4_ok nmX4 rfl hA83 (by decide) rfl fw_1165 (Or.inl rfl) (Or.inr ⟨rfl, hin, rfl⟩) (rf_nar _ _) (rf_fit (ty := tyX4 10) rfl _) dX4_init_66 ?_
  obtain ⟨S90, eS90⟩ : ∃ z, z = wR S82 o 10 (some q79) := ⟨_, rfl⟩
  rw [← eS90]
  have h := h S90 eS90
  have hA91 : isA S90 5 o := by rw [eS90]; exact hA83
  have hA92 : isA S90 11 q9 := by rw [eS90]; exact hA84
  have hA93 : isA S90 11 q19 := by rw [eS90]; exact hA85
  have hA94 : isA S90 11 q31 := by rw [eS90]; exact hA86
  have hA95 : isA S90 12 q45 := by rw [eS90]; exact hA87
  have hA96 : isA S90 13 q61 := by rw [eS90]; exact hA88
  have hA97 : isA S90 11 q79 := by rw [eS90]; exact hA89
  refine fV_aload_n hF dX4_init_69 rfl rfl ?_
  refine fV_bipush (v := 10) hF dX4_init_70 (by decide) ?_
  obtain ⟨hn98, h⟩ := h
  refine fV_newI (N := 10) hF (by omega) fw_1255 (by decide) (by decide) hn98 dX4_init_72 (fun q99 hq100 hqe101 => ?_)
  have h := h q99 hq100 hqe101
  obtain ⟨S102, eS102⟩ : ∃ z, z = wN S90 q99 11 10 := ⟨_, rfl⟩
  rw [← eS102]
  have h := h S102 eS102
  have hA103 : isA S102 5 o := by rw [eS102]; exact (isA_new (k := 11) (N := 10) hq100 hA91)
  have hA104 : isA S102 11 q9 := by rw [eS102]; exact (isA_new (k := 11) (N := 10) hq100 hA92)
  have hA105 : isA S102 11 q19 := by rw [eS102]; exact (isA_new (k := 11) (N := 10) hq100 hA93)
  have hA106 : isA S102 11 q31 := by rw [eS102]; exact (isA_new (k := 11) (N := 10) hq100 hA94)
  have hA107 : isA S102 12 q45 := by rw [eS102]; exact (isA_new (k := 11) (N := 10) hq100 hA95)
  have hA108 : isA S102 13 q61 := by rw [eS102]; exact (isA_new (k := 11) (N := 10) hq100 hA96)
  have hA109 : isA S102 11 q79 := by rw [eS102]; exact (isA_new (k := 11) (N := 10) hq100 hA97)
  have hA110 : isA S102 11 q99 := by rw [eS102]; exact (isA_made (S := S90) (k := 11) (N := 10))
  refine fV_putR (k := 5) (i := 11) hF fK5 tyX4_ok nmX4 rfl hA103 (by decide) rfl fw_1166 (Or.inl rfl) (Or.inr ⟨rfl, hin, rfl⟩) (rf_nar _ _) (rf_fit (ty := tyX4 11) rfl _) dX4_init_74 ?_
  obtain ⟨S111, eS111⟩ : ∃ z, z = wR S102 o 11 (some q99) := ⟨_, rfl⟩
  rw [← eS111]
  have h := h S111 eS111
  have hA112 : isA S111 5 o := by rw [eS111]; exact hA103
  have hA113 : isA S111 11 q9 := by rw [eS111]; exact hA104
  have hA114 : isA S111 11 q19 := by rw [eS111]; exact hA105
  have hA115 : isA S111 11 q31 := by rw [eS111]; exact hA106
  have hA116 : isA S111 12 q45 := by rw [eS111]; exact hA107
  have hA117 : isA S111 13 q61 := by rw [eS111]; exact hA108
  have hA118 : isA S111 11 q79 := by rw [eS111]; exact hA109
  have hA119 : isA S111 11 q99 := by rw [eS111]; exact hA110
  refine fV_aload_n hF dX4_init_77 rfl rfl ?_
  refine fV_sipush (v := 640) hF dX4_init_78 (by decide) ?_
  obtain ⟨hn120, h⟩ := h
  refine fV_newI (N := 640) hF (by omega) fw_1255 (by decide) (by decide) hn120 dX4_init_81 (fun q121 hq122 hqe123 => ?_)
  have h := h q121 hq122 hqe123
  obtain ⟨S124, eS124⟩ : ∃ z, z = wN S111 q121 11 640 := ⟨_, rfl⟩
  rw [← eS124]
  have h := h S124 eS124
  have hA125 : isA S124 5 o := by rw [eS124]; exact (isA_new (k := 11) (N := 640) hq122 hA112)
  have hA126 : isA S124 11 q9 := by rw [eS124]; exact (isA_new (k := 11) (N := 640) hq122 hA113)
  have hA127 : isA S124 11 q19 := by rw [eS124]; exact (isA_new (k := 11) (N := 640) hq122 hA114)
  have hA128 : isA S124 11 q31 := by rw [eS124]; exact (isA_new (k := 11) (N := 640) hq122 hA115)
  have hA129 : isA S124 12 q45 := by rw [eS124]; exact (isA_new (k := 11) (N := 640) hq122 hA116)
  have hA130 : isA S124 13 q61 := by rw [eS124]; exact (isA_new (k := 11) (N := 640) hq122 hA117)
  have hA131 : isA S124 11 q79 := by rw [eS124]; exact (isA_new (k := 11) (N := 640) hq122 hA118)
  have hA132 : isA S124 11 q99 := by rw [eS124]; exact (isA_new (k := 11) (N := 640) hq122 hA119)
  have hA133 : isA S124 11 q121 := by rw [eS124]; exact (isA_made (S := S111) (k := 11) (N := 640))
  refine fV_putR (k := 5) (i := 13) hF fK5 tyX4_ok nmX4 rfl hA125 (by decide) rfl fw_1168 (Or.inl rfl) (Or.inr ⟨rfl, hin, rfl⟩) (rf_nar _ _) (rf_fit (ty := tyX4 13) rfl _) dX4_init_83 ?_
  obtain ⟨S134, eS134⟩ : ∃ z, z = wR S124 o 13 (some q121) := ⟨_, rfl⟩
  rw [← eS134]
  have h := h S134 eS134
  have hA135 : isA S134 5 o := by rw [eS134]; exact hA125
  have hA136 : isA S134 11 q9 := by rw [eS134]; exact hA126
  have hA137 : isA S134 11 q19 := by rw [eS134]; exact hA127
  have hA138 : isA S134 11 q31 := by rw [eS134]; exact hA128
  have hA139 : isA S134 12 q45 := by rw [eS134]; exact hA129
  have hA140 : isA S134 13 q61 := by rw [eS134]; exact hA130
  have hA141 : isA S134 11 q79 := by rw [eS134]; exact hA131
  have hA142 : isA S134 11 q99 := by rw [eS134]; exact hA132
  have hA143 : isA S134 11 q121 := by rw [eS134]; exact hA133
  refine fV_aload_n hF dX4_init_86 rfl rfl ?_
  refine fV_sipush (v := 640) hF dX4_init_87 (by decide) ?_
  obtain ⟨hn144, h⟩ := h
  refine fV_newI (N := 640) hF (by omega) fw_1255 (by decide) (by decide) hn144 dX4_init_90 (fun q145 hq146 hqe147 => ?_)
  have h := h q145 hq146 hqe147
  obtain ⟨S148, eS148⟩ : ∃ z, z = wN S134 q145 11 640 := ⟨_, rfl⟩
  rw [← eS148]
  have h := h S148 eS148
  have hA149 : isA S148 5 o := by rw [eS148]; exact (isA_new (k := 11) (N := 640) hq146 hA135)
  have hA150 : isA S148 11 q9 := by rw [eS148]; exact (isA_new (k := 11) (N := 640) hq146 hA136)
  have hA151 : isA S148 11 q19 := by rw [eS148]; exact (isA_new (k := 11) (N := 640) hq146 hA137)
  have hA152 : isA S148 11 q31 := by rw [eS148]; exact (isA_new (k := 11) (N := 640) hq146 hA138)
  have hA153 : isA S148 12 q45 := by rw [eS148]; exact (isA_new (k := 11) (N := 640) hq146 hA139)
  have hA154 : isA S148 13 q61 := by rw [eS148]; exact (isA_new (k := 11) (N := 640) hq146 hA140)
  have hA155 : isA S148 11 q79 := by rw [eS148]; exact (isA_new (k := 11) (N := 640) hq146 hA141)
  have hA156 : isA S148 11 q99 := by rw [eS148]; exact (isA_new (k := 11) (N := 640) hq146 hA142)
  have hA157 : isA S148 11 q121 := by rw [eS148]; exact (isA_new (k := 11) (N := 640) hq146 hA143)
  have hA158 : isA S148 11 q145 := by rw [eS148]; exact (isA_made (S := S134) (k := 11) (N := 640))
  refine fV_putR (k := 5) (i := 14) hF fK5 tyX4_ok nmX4 rfl hA149 (by decide) rfl fw_1169 (Or.inl rfl) (Or.inr ⟨rfl, hin, rfl⟩) (rf_nar _ _) (rf_fit (ty := tyX4 14) rfl _) dX4_init_92 ?_
  obtain ⟨S159, eS159⟩ : ∃ z, z = wR S148 o 14 (some q145) := ⟨_, rfl⟩
  rw [← eS159]
  have h := h S159 eS159
  have hA160 : isA S159 5 o := by rw [eS159]; exact hA149
  have hA161 : isA S159 11 q9 := by rw [eS159]; exact hA150
  have hA162 : isA S159 11 q19 := by rw [eS159]; exact hA151
  have hA163 : isA S159 11 q31 := by rw [eS159]; exact hA152
  have hA164 : isA S159 12 q45 := by rw [eS159]; exact hA153
  have hA165 : isA S159 13 q61 := by rw [eS159]; exact hA154
  have hA166 : isA S159 11 q79 := by rw [eS159]; exact hA155
  have hA167 : isA S159 11 q99 := by rw [eS159]; exact hA156
  have hA168 : isA S159 11 q121 := by rw [eS159]; exact hA157
  have hA169 : isA S159 11 q145 := by rw [eS159]; exact hA158
  refine fV_aload_n hF dX4_init_95 rfl rfl ?_
  refine fV_sipush (v := 640) hF dX4_init_96 (by decide) ?_
  obtain ⟨hn170, h⟩ := h
  refine fV_newI (N := 640) hF (by omega) fw_1255 (by decide) (by decide) hn170 dX4_init_99 (fun q171 hq172 hqe173 => ?_)
  have h := h q171 hq172 hqe173
  obtain ⟨S174, eS174⟩ : ∃ z, z = wN S159 q171 11 640 := ⟨_, rfl⟩
  rw [← eS174]
  have h := h S174 eS174
  have hA175 : isA S174 5 o := by rw [eS174]; exact (isA_new (k := 11) (N := 640) hq172 hA160)
  have hA176 : isA S174 11 q9 := by rw [eS174]; exact (isA_new (k := 11) (N := 640) hq172 hA161)
  have hA177 : isA S174 11 q19 := by rw [eS174]; exact (isA_new (k := 11) (N := 640) hq172 hA162)
  have hA178 : isA S174 11 q31 := by rw [eS174]; exact (isA_new (k := 11) (N := 640) hq172 hA163)
  have hA179 : isA S174 12 q45 := by rw [eS174]; exact (isA_new (k := 11) (N := 640) hq172 hA164)
  have hA180 : isA S174 13 q61 := by rw [eS174]; exact (isA_new (k := 11) (N := 640) hq172 hA165)
  have hA181 : isA S174 11 q79 := by rw [eS174]; exact (isA_new (k := 11) (N := 640) hq172 hA166)
  have hA182 : isA S174 11 q99 := by rw [eS174]; exact (isA_new (k := 11) (N := 640) hq172 hA167)
  have hA183 : isA S174 11 q121 := by rw [eS174]; exact (isA_new (k := 11) (N := 640) hq172 hA168)
  have hA184 : isA S174 11 q145 := by rw [eS174]; exact (isA_new (k := 11) (N := 640) hq172 hA169)
  have hA185 : isA S174 11 q171 := by rw [eS174]; exact (isA_made (S := S159) (k := 11) (N := 640))
  refine fV_putR (k := 5) (i := 15) hF fK5 tyX4_ok nmX4 rfl hA175 (by decide) rfl fw_1170 (Or.inl rfl) (Or.inr ⟨rfl, hin, rfl⟩) (rf_nar _ _) (rf_fit (ty := tyX4 15) rfl _) dX4_init_101 ?_
  obtain ⟨S186, eS186⟩ : ∃ z, z = wR S174 o 15 (some q171) := ⟨_, rfl⟩
  rw [← eS186]
  have h := h S186 eS186
  have hA187 : isA S186 5 o := by rw [eS186]; exact hA175
  have hA188 : isA S186 11 q9 := by rw [eS186]; exact hA176
  have hA189 : isA S186 11 q19 := by rw [eS186]; exact hA177
  have hA190 : isA S186 11 q31 := by rw [eS186]; exact hA178
  have hA191 : isA S186 12 q45 := by rw [eS186]; exact hA179
  have hA192 : isA S186 13 q61 := by rw [eS186]; exact hA180
  have hA193 : isA S186 11 q79 := by rw [eS186]; exact hA181
  have hA194 : isA S186 11 q99 := by rw [eS186]; exact hA182
  have hA195 : isA S186 11 q121 := by rw [eS186]; exact hA183
  have hA196 : isA S186 11 q145 := by rw [eS186]; exact hA184
  have hA197 : isA S186 11 q171 := by rw [eS186]; exact hA185
  refine fV_aload_n hF dX4_init_104 rfl rfl ?_
  refine fV_sipush (v := 640) hF dX4_init_105 (by decide) ?_
  obtain ⟨hn198, h⟩ := h
  refine fV_newI (N := 640) hF (by omega) fw_1255 (by decide) (by decide) hn198 dX4_init_108 (fun q199 hq200 hqe201 => ?_)
  have h := h q199 hq200 hqe201
  obtain ⟨S202, eS202⟩ : ∃ z, z = wN S186 q199 11 640 := ⟨_, rfl⟩
  rw [← eS202]
  have h := h S202 eS202
  have hA203 : isA S202 5 o := by rw [eS202]; exact (isA_new (k := 11) (N := 640) hq200 hA187)
  have hA204 : isA S202 11 q9 := by rw [eS202]; exact (isA_new (k := 11) (N := 640) hq200 hA188)
  have hA205 : isA S202 11 q19 := by rw [eS202]; exact (isA_new (k := 11) (N := 640) hq200 hA189)
  have hA206 : isA S202 11 q31 := by rw [eS202]; exact (isA_new (k := 11) (N := 640) hq200 hA190)
  have hA207 : isA S202 12 q45 := by rw [eS202]; exact (isA_new (k := 11) (N := 640) hq200 hA191)
  have hA208 : isA S202 13 q61 := by rw [eS202]; exact (isA_new (k := 11) (N := 640) hq200 hA192)
  have hA209 : isA S202 11 q79 := by rw [eS202]; exact (isA_new (k := 11) (N := 640) hq200 hA193)
  have hA210 : isA S202 11 q99 := by rw [eS202]; exact (isA_new (k := 11) (N := 640) hq200 hA194)
  have hA211 : isA S202 11 q121 := by rw [eS202]; exact (isA_new (k := 11) (N := 640) hq200 hA195)
  have hA212 : isA S202 11 q145 := by rw [eS202]; exact (isA_new (k := 11) (N := 640) hq200 hA196)
  have hA213 : isA S202 11 q171 := by rw [eS202]; exact (isA_new (k := 11) (N := 640) hq200 hA197)
  have hA214 : isA S202 11 q199 := by rw [eS202]; exact (isA_made (S := S186) (k := 11) (N := 640))
  refine fV_putR (k := 5) (i := 16) hF fK5 tyX4_ok nmX4 rfl hA203 (by decide) rfl fw_1171 (Or.inl rfl) (Or.inr ⟨rfl, hin, rfl⟩) (rf_nar _ _) (rf_fit (ty := tyX4 16) rfl _) dX4_init_110 ?_
  obtain ⟨S215, eS215⟩ : ∃ z, z = wR S202 o 16 (some q199) := ⟨_, rfl⟩
  rw [← eS215]
  have h := h S215 eS215
  have hA216 : isA S215 5 o := by rw [eS215]; exact hA203
  have hA217 : isA S215 11 q9 := by rw [eS215]; exact hA204
  have hA218 : isA S215 11 q19 := by rw [eS215]; exact hA205
  have hA219 : isA S215 11 q31 := by rw [eS215]; exact hA206
  have hA220 : isA S215 12 q45 := by rw [eS215]; exact hA207
  have hA221 : isA S215 13 q61 := by rw [eS215]; exact hA208
  have hA222 : isA S215 11 q79 := by rw [eS215]; exact hA209
  have hA223 : isA S215 11 q99 := by rw [eS215]; exact hA210
  have hA224 : isA S215 11 q121 := by rw [eS215]; exact hA211
  have hA225 : isA S215 11 q145 := by rw [eS215]; exact hA212
  have hA226 : isA S215 11 q171 := by rw [eS215]; exact hA213
  have hA227 : isA S215 11 q199 := by rw [eS215]; exact hA214
  refine fV_aload_n hF dX4_init_113 rfl rfl ?_
  refine fV_sipush (v := 640) hF dX4_init_114 (by decide) ?_
  obtain ⟨hn228, h⟩ := h
  refine fV_newI (N := 640) hF (by omega) fw_1255 (by decide) (by decide) hn228 dX4_init_117 (fun q229 hq230 hqe231 => ?_)
  have h := h q229 hq230 hqe231
  obtain ⟨S232, eS232⟩ : ∃ z, z = wN S215 q229 11 640 := ⟨_, rfl⟩
  rw [← eS232]
  have h := h S232 eS232
  have hA233 : isA S232 5 o := by rw [eS232]; exact (isA_new (k := 11) (N := 640) hq230 hA216)
  have hA234 : isA S232 11 q9 := by rw [eS232]; exact (isA_new (k := 11) (N := 640) hq230 hA217)
  have hA235 : isA S232 11 q19 := by rw [eS232]; exact (isA_new (k := 11) (N := 640) hq230 hA218)
  have hA236 : isA S232 11 q31 := by rw [eS232]; exact (isA_new (k := 11) (N := 640) hq230 hA219)
  have hA237 : isA S232 12 q45 := by rw [eS232]; exact (isA_new (k := 11) (N := 640) hq230 hA220)
  have hA238 : isA S232 13 q61 := by rw [eS232]; exact (isA_new (k := 11) (N := 640) hq230 hA221)
  have hA239 : isA S232 11 q79 := by rw [eS232]; exact (isA_new (k := 11) (N := 640) hq230 hA222)
  have hA240 : isA S232 11 q99 := by rw [eS232]; exact (isA_new (k := 11) (N := 640) hq230 hA223)
  have hA241 : isA S232 11 q121 := by rw [eS232]; exact (isA_new (k := 11) (N := 640) hq230 hA224)
  have hA242 : isA S232 11 q145 := by rw [eS232]; exact (isA_new (k := 11) (N := 640) hq230 hA225)
  have hA243 : isA S232 11 q171 := by rw [eS232]; exact (isA_new (k := 11) (N := 640) hq230 hA226)
  have hA244 : isA S232 11 q199 := by rw [eS232]; exact (isA_new (k := 11) (N := 640) hq230 hA227)
  have hA245 : isA S232 11 q229 := by rw [eS232]; exact (isA_made (S := S215) (k := 11) (N := 640))
  refine fV_putR (k := 5) (i := 17) hF fK5 tyX4_ok nmX4 rfl hA233 (by decide) rfl fw_1172 (Or.inl rfl) (Or.inr ⟨rfl, hin, rfl⟩) (rf_nar _ _) (rf_fit (ty := tyX4 17) rfl _) dX4_init_119 ?_
  obtain ⟨S246, eS246⟩ : ∃ z, z = wR S232 o 17 (some q229) := ⟨_, rfl⟩
  rw [← eS246]
  have h := h S246 eS246
  have hA247 : isA S246 5 o := by rw [eS246]; exact hA233
  have hA248 : isA S246 11 q9 := by rw [eS246]; exact hA234
  have hA249 : isA S246 11 q19 := by rw [eS246]; exact hA235
  have hA250 : isA S246 11 q31 := by rw [eS246]; exact hA236
  have hA251 : isA S246 12 q45 := by rw [eS246]; exact hA237
  have hA252 : isA S246 13 q61 := by rw [eS246]; exact hA238
  have hA253 : isA S246 11 q79 := by rw [eS246]; exact hA239
  have hA254 : isA S246 11 q99 := by rw [eS246]; exact hA240
  have hA255 : isA S246 11 q121 := by rw [eS246]; exact hA241
  have hA256 : isA S246 11 q145 := by rw [eS246]; exact hA242
  have hA257 : isA S246 11 q171 := by rw [eS246]; exact hA243
  have hA258 : isA S246 11 q199 := by rw [eS246]; exact hA244
  have hA259 : isA S246 11 q229 := by rw [eS246]; exact hA245
  refine fV_aload_n hF dX4_init_122 rfl rfl ?_
  refine fV_sipush (v := 640) hF dX4_init_123 (by decide) ?_
  obtain ⟨hn260, h⟩ := h
  refine fV_newI (N := 640) hF (by omega) fw_1255 (by decide) (by decide) hn260 dX4_init_126 (fun q261 hq262 hqe263 => ?_)
  have h := h q261 hq262 hqe263
  obtain ⟨S264, eS264⟩ : ∃ z, z = wN S246 q261 11 640 := ⟨_, rfl⟩
  rw [← eS264]
  have h := h S264 eS264
  have hA265 : isA S264 5 o := by rw [eS264]; exact (isA_new (k := 11) (N := 640) hq262 hA247)
  have hA266 : isA S264 11 q9 := by rw [eS264]; exact (isA_new (k := 11) (N := 640) hq262 hA248)
  have hA267 : isA S264 11 q19 := by rw [eS264]; exact (isA_new (k := 11) (N := 640) hq262 hA249)
  have hA268 : isA S264 11 q31 := by rw [eS264]; exact (isA_new (k := 11) (N := 640) hq262 hA250)
  have hA269 : isA S264 12 q45 := by rw [eS264]; exact (isA_new (k := 11) (N := 640) hq262 hA251)
  have hA270 : isA S264 13 q61 := by rw [eS264]; exact (isA_new (k := 11) (N := 640) hq262 hA252)
  have hA271 : isA S264 11 q79 := by rw [eS264]; exact (isA_new (k := 11) (N := 640) hq262 hA253)
  have hA272 : isA S264 11 q99 := by rw [eS264]; exact (isA_new (k := 11) (N := 640) hq262 hA254)
  have hA273 : isA S264 11 q121 := by rw [eS264]; exact (isA_new (k := 11) (N := 640) hq262 hA255)
  have hA274 : isA S264 11 q145 := by rw [eS264]; exact (isA_new (k := 11) (N := 640) hq262 hA256)
  have hA275 : isA S264 11 q171 := by rw [eS264]; exact (isA_new (k := 11) (N := 640) hq262 hA257)
  have hA276 : isA S264 11 q199 := by rw [eS264]; exact (isA_new (k := 11) (N := 640) hq262 hA258)
  have hA277 : isA S264 11 q229 := by rw [eS264]; exact (isA_new (k := 11) (N := 640) hq262 hA259)
  have hA278 : isA S264 11 q261 := by rw [eS264]; exact (isA_made (S := S246) (k := 11) (N := 640))
  refine fV_putR (k := 5) (i := 18) hF fK5 tyX4_ok nmX4 rfl hA265 (by decide) rfl fw_1173 (Or.inl rfl) (Or.inr ⟨rfl, hin, rfl⟩) (rf_nar _ _) (rf_fit (ty := tyX4 18) rfl _) dX4_init_128 ?_
  obtain ⟨S279, eS279⟩ : ∃ z, z = wR S264 o 18 (some q261) := ⟨_, rfl⟩
  rw [← eS279]
  have h := h S279 eS279
  have hA280 : isA S279 5 o := by rw [eS279]; exact hA265
  have hA281 : isA S279 11 q9 := by rw [eS279]; exact hA266
  have hA282 : isA S279 11 q19 := by rw [eS279]; exact hA267
  have hA283 : isA S279 11 q31 := by rw [eS279]; exact hA268
  have hA284 : isA S279 12 q45 := by rw [eS279]; exact hA269
  have hA285 : isA S279 13 q61 := by rw [eS279]; exact hA270
  have hA286 : isA S279 11 q79 := by rw [eS279]; exact hA271
  have hA287 : isA S279 11 q99 := by rw [eS279]; exact hA272
  have hA288 : isA S279 11 q121 := by rw [eS279]; exact hA273
  have hA289 : isA S279 11 q145 := by rw [eS279]; exact hA274
  have hA290 : isA S279 11 q171 := by rw [eS279]; exact hA275
  have hA291 : isA S279 11 q199 := by rw [eS279]; exact hA276
  have hA292 : isA S279 11 q229 := by rw [eS279]; exact hA277
  have hA293 : isA S279 11 q261 := by rw [eS279]; exact hA278
  refine fV_aload_n hF dX4_init_131 rfl rfl ?_
  refine fV_sipush (v := 640) hF dX4_init_132 (by decide) ?_
  obtain ⟨hn294, h⟩ := h
  refine fV_newI (N := 640) hF (by omega) fw_1255 (by decide) (by decide) hn294 dX4_init_135 (fun q295 hq296 hqe297 => ?_)
  have h := h q295 hq296 hqe297
  obtain ⟨S298, eS298⟩ : ∃ z, z = wN S279 q295 11 640 := ⟨_, rfl⟩
  rw [← eS298]
  have h := h S298 eS298
  have hA299 : isA S298 5 o := by rw [eS298]; exact (isA_new (k := 11) (N := 640) hq296 hA280)
  have hA300 : isA S298 11 q9 := by rw [eS298]; exact (isA_new (k := 11) (N := 640) hq296 hA281)
  have hA301 : isA S298 11 q19 := by rw [eS298]; exact (isA_new (k := 11) (N := 640) hq296 hA282)
  have hA302 : isA S298 11 q31 := by rw [eS298]; exact (isA_new (k := 11) (N := 640) hq296 hA283)
  have hA303 : isA S298 12 q45 := by rw [eS298]; exact (isA_new (k := 11) (N := 640) hq296 hA284)
  have hA304 : isA S298 13 q61 := by rw [eS298]; exact (isA_new (k := 11) (N := 640) hq296 hA285)
  have hA305 : isA S298 11 q79 := by rw [eS298]; exact (isA_new (k := 11) (N := 640) hq296 hA286)
  have hA306 : isA S298 11 q99 := by rw [eS298]; exact (isA_new (k := 11) (N := 640) hq296 hA287)
  have hA307 : isA S298 11 q121 := by rw [eS298]; exact (isA_new (k := 11) (N := 640) hq296 hA288)
  have hA308 : isA S298 11 q145 := by rw [eS298]; exact (isA_new (k := 11) (N := 640) hq296 hA289)
  have hA309 : isA S298 11 q171 := by rw [eS298]; exact (isA_new (k := 11) (N := 640) hq296 hA290)
  have hA310 : isA S298 11 q199 := by rw [eS298]; exact (isA_new (k := 11) (N := 640) hq296 hA291)
  have hA311 : isA S298 11 q229 := by rw [eS298]; exact (isA_new (k := 11) (N := 640) hq296 hA292)
  have hA312 : isA S298 11 q261 := by rw [eS298]; exact (isA_new (k := 11) (N := 640) hq296 hA293)
  have hA313 : isA S298 11 q295 := by rw [eS298]; exact (isA_made (S := S279) (k := 11) (N := 640))
  refine fV_putR (k := 5) (i := 19) hF fK5 tyX4_ok nmX4 rfl hA299 (by decide) rfl fw_1174 (Or.inl rfl) (Or.inr ⟨rfl, hin, rfl⟩) (rf_nar _ _) (rf_fit (ty := tyX4 19) rfl _) dX4_init_137 ?_
  obtain ⟨S314, eS314⟩ : ∃ z, z = wR S298 o 19 (some q295) := ⟨_, rfl⟩
  rw [← eS314]
  have h := h S314 eS314
  have hA315 : isA S314 5 o := by rw [eS314]; exact hA299
  have hA316 : isA S314 11 q9 := by rw [eS314]; exact hA300
  have hA317 : isA S314 11 q19 := by rw [eS314]; exact hA301
  have hA318 : isA S314 11 q31 := by rw [eS314]; exact hA302
  have hA319 : isA S314 12 q45 := by rw [eS314]; exact hA303
  have hA320 : isA S314 13 q61 := by rw [eS314]; exact hA304
  have hA321 : isA S314 11 q79 := by rw [eS314]; exact hA305
  have hA322 : isA S314 11 q99 := by rw [eS314]; exact hA306
  have hA323 : isA S314 11 q121 := by rw [eS314]; exact hA307
  have hA324 : isA S314 11 q145 := by rw [eS314]; exact hA308
  have hA325 : isA S314 11 q171 := by rw [eS314]; exact hA309
  have hA326 : isA S314 11 q199 := by rw [eS314]; exact hA310
  have hA327 : isA S314 11 q229 := by rw [eS314]; exact hA311
  have hA328 : isA S314 11 q261 := by rw [eS314]; exact hA312
  have hA329 : isA S314 11 q295 := by rw [eS314]; exact hA313
  refine fV_aload_n hF dX4_init_140 rfl rfl ?_
  refine fV_bipush (v := 8) hF dX4_init_141 (by decide) ?_
  obtain ⟨hn330, h⟩ := h
  refine fV_newI (N := 8) hF (by omega) fw_1255 (by decide) (by decide) hn330 dX4_init_143 (fun q331 hq332 hqe333 => ?_)
  have h := h q331 hq332 hqe333
  obtain ⟨S334, eS334⟩ : ∃ z, z = wN S314 q331 11 8 := ⟨_, rfl⟩
  rw [← eS334]
  have h := h S334 eS334
  have hA335 : isA S334 5 o := by rw [eS334]; exact (isA_new (k := 11) (N := 8) hq332 hA315)
  have hA336 : isA S334 11 q9 := by rw [eS334]; exact (isA_new (k := 11) (N := 8) hq332 hA316)
  have hA337 : isA S334 11 q19 := by rw [eS334]; exact (isA_new (k := 11) (N := 8) hq332 hA317)
  have hA338 : isA S334 11 q31 := by rw [eS334]; exact (isA_new (k := 11) (N := 8) hq332 hA318)
  have hA339 : isA S334 12 q45 := by rw [eS334]; exact (isA_new (k := 11) (N := 8) hq332 hA319)
  have hA340 : isA S334 13 q61 := by rw [eS334]; exact (isA_new (k := 11) (N := 8) hq332 hA320)
  have hA341 : isA S334 11 q79 := by rw [eS334]; exact (isA_new (k := 11) (N := 8) hq332 hA321)
  have hA342 : isA S334 11 q99 := by rw [eS334]; exact (isA_new (k := 11) (N := 8) hq332 hA322)
  have hA343 : isA S334 11 q121 := by rw [eS334]; exact (isA_new (k := 11) (N := 8) hq332 hA323)
  have hA344 : isA S334 11 q145 := by rw [eS334]; exact (isA_new (k := 11) (N := 8) hq332 hA324)
  have hA345 : isA S334 11 q171 := by rw [eS334]; exact (isA_new (k := 11) (N := 8) hq332 hA325)
  have hA346 : isA S334 11 q199 := by rw [eS334]; exact (isA_new (k := 11) (N := 8) hq332 hA326)
  have hA347 : isA S334 11 q229 := by rw [eS334]; exact (isA_new (k := 11) (N := 8) hq332 hA327)
  have hA348 : isA S334 11 q261 := by rw [eS334]; exact (isA_new (k := 11) (N := 8) hq332 hA328)
  have hA349 : isA S334 11 q295 := by rw [eS334]; exact (isA_new (k := 11) (N := 8) hq332 hA329)
  have hA350 : isA S334 11 q331 := by rw [eS334]; exact (isA_made (S := S314) (k := 11) (N := 8))
  refine fV_putR (k := 5) (i := 23) hF fK5 tyX4_ok nmX4 rfl hA335 (by decide) rfl fw_1178 (Or.inl rfl) (Or.inr ⟨rfl, hin, rfl⟩) (rf_nar _ _) (rf_fit (ty := tyX4 23) rfl _) dX4_init_145 ?_
  obtain ⟨S351, eS351⟩ : ∃ z, z = wR S334 o 23 (some q331) := ⟨_, rfl⟩
  rw [← eS351]
  have h := h S351 eS351
  have hA352 : isA S351 5 o := by rw [eS351]; exact hA335
  have hA353 : isA S351 11 q9 := by rw [eS351]; exact hA336
  have hA354 : isA S351 11 q19 := by rw [eS351]; exact hA337
  have hA355 : isA S351 11 q31 := by rw [eS351]; exact hA338
  have hA356 : isA S351 12 q45 := by rw [eS351]; exact hA339
  have hA357 : isA S351 13 q61 := by rw [eS351]; exact hA340
  have hA358 : isA S351 11 q79 := by rw [eS351]; exact hA341
  have hA359 : isA S351 11 q99 := by rw [eS351]; exact hA342
  have hA360 : isA S351 11 q121 := by rw [eS351]; exact hA343
  have hA361 : isA S351 11 q145 := by rw [eS351]; exact hA344
  have hA362 : isA S351 11 q171 := by rw [eS351]; exact hA345
  have hA363 : isA S351 11 q199 := by rw [eS351]; exact hA346
  have hA364 : isA S351 11 q229 := by rw [eS351]; exact hA347
  have hA365 : isA S351 11 q261 := by rw [eS351]; exact hA348
  have hA366 : isA S351 11 q295 := by rw [eS351]; exact hA349
  have hA367 : isA S351 11 q331 := by rw [eS351]; exact hA350
  refine fV_aload_n hF dX4_init_148 rfl rfl ?_
  refine fV_bipush (v := 8) hF dX4_init_149 (by decide) ?_
  obtain ⟨hn368, h⟩ := h
  refine fV_newI (N := 8) hF (by omega) fw_1255 (by decide) (by decide) hn368 dX4_init_151 (fun q369 hq370 hqe371 => ?_)
  have h := h q369 hq370 hqe371
  obtain ⟨S372, eS372⟩ : ∃ z, z = wN S351 q369 11 8 := ⟨_, rfl⟩
  rw [← eS372]
  have h := h S372 eS372
  have hA373 : isA S372 5 o := by rw [eS372]; exact (isA_new (k := 11) (N := 8) hq370 hA352)
  have hA374 : isA S372 11 q9 := by rw [eS372]; exact (isA_new (k := 11) (N := 8) hq370 hA353)
  have hA375 : isA S372 11 q19 := by rw [eS372]; exact (isA_new (k := 11) (N := 8) hq370 hA354)
  have hA376 : isA S372 11 q31 := by rw [eS372]; exact (isA_new (k := 11) (N := 8) hq370 hA355)
  have hA377 : isA S372 12 q45 := by rw [eS372]; exact (isA_new (k := 11) (N := 8) hq370 hA356)
  have hA378 : isA S372 13 q61 := by rw [eS372]; exact (isA_new (k := 11) (N := 8) hq370 hA357)
  have hA379 : isA S372 11 q79 := by rw [eS372]; exact (isA_new (k := 11) (N := 8) hq370 hA358)
  have hA380 : isA S372 11 q99 := by rw [eS372]; exact (isA_new (k := 11) (N := 8) hq370 hA359)
  have hA381 : isA S372 11 q121 := by rw [eS372]; exact (isA_new (k := 11) (N := 8) hq370 hA360)
  have hA382 : isA S372 11 q145 := by rw [eS372]; exact (isA_new (k := 11) (N := 8) hq370 hA361)
  have hA383 : isA S372 11 q171 := by rw [eS372]; exact (isA_new (k := 11) (N := 8) hq370 hA362)
  have hA384 : isA S372 11 q199 := by rw [eS372]; exact (isA_new (k := 11) (N := 8) hq370 hA363)
  have hA385 : isA S372 11 q229 := by rw [eS372]; exact (isA_new (k := 11) (N := 8) hq370 hA364)
  have hA386 : isA S372 11 q261 := by rw [eS372]; exact (isA_new (k := 11) (N := 8) hq370 hA365)
  have hA387 : isA S372 11 q295 := by rw [eS372]; exact (isA_new (k := 11) (N := 8) hq370 hA366)
  have hA388 : isA S372 11 q331 := by rw [eS372]; exact (isA_new (k := 11) (N := 8) hq370 hA367)
  have hA389 : isA S372 11 q369 := by rw [eS372]; exact (isA_made (S := S351) (k := 11) (N := 8))
  refine fV_putR (k := 5) (i := 24) hF fK5 tyX4_ok nmX4 rfl hA373 (by decide) rfl fw_1179 (Or.inl rfl) (Or.inr ⟨rfl, hin, rfl⟩) (rf_nar _ _) (rf_fit (ty := tyX4 24) rfl _) dX4_init_153 ?_
  obtain ⟨S390, eS390⟩ : ∃ z, z = wR S372 o 24 (some q369) := ⟨_, rfl⟩
  rw [← eS390]
  have h := h S390 eS390
  have hA391 : isA S390 5 o := by rw [eS390]; exact hA373
  have hA392 : isA S390 11 q9 := by rw [eS390]; exact hA374
  have hA393 : isA S390 11 q19 := by rw [eS390]; exact hA375
  have hA394 : isA S390 11 q31 := by rw [eS390]; exact hA376
  have hA395 : isA S390 12 q45 := by rw [eS390]; exact hA377
  have hA396 : isA S390 13 q61 := by rw [eS390]; exact hA378
  have hA397 : isA S390 11 q79 := by rw [eS390]; exact hA379
  have hA398 : isA S390 11 q99 := by rw [eS390]; exact hA380
  have hA399 : isA S390 11 q121 := by rw [eS390]; exact hA381
  have hA400 : isA S390 11 q145 := by rw [eS390]; exact hA382
  have hA401 : isA S390 11 q171 := by rw [eS390]; exact hA383
  have hA402 : isA S390 11 q199 := by rw [eS390]; exact hA384
  have hA403 : isA S390 11 q229 := by rw [eS390]; exact hA385
  have hA404 : isA S390 11 q261 := by rw [eS390]; exact hA386
  have hA405 : isA S390 11 q295 := by rw [eS390]; exact hA387
  have hA406 : isA S390 11 q331 := by rw [eS390]; exact hA388
  have hA407 : isA S390 11 q369 := by rw [eS390]; exact hA389
  refine fV_aload_n hF dX4_init_156 rfl rfl ?_
  refine fV_bipush (v := 8) hF dX4_init_157 (by decide) ?_
  obtain ⟨hn408, h⟩ := h
  refine fV_newI (N := 8) hF (by omega) fw_1255 (by decide) (by decide) hn408 dX4_init_159 (fun q409 hq410 hqe411 => ?_)
  have h := h q409 hq410 hqe411
  obtain ⟨S412, eS412⟩ : ∃ z, z = wN S390 q409 11 8 := ⟨_, rfl⟩
  rw [← eS412]
  have h := h S412 eS412
  have hA413 : isA S412 5 o := by rw [eS412]; exact (isA_new (k := 11) (N := 8) hq410 hA391)
  have hA414 : isA S412 11 q9 := by rw [eS412]; exact (isA_new (k := 11) (N := 8) hq410 hA392)
  have hA415 : isA S412 11 q19 := by rw [eS412]; exact (isA_new (k := 11) (N := 8) hq410 hA393)
  have hA416 : isA S412 11 q31 := by rw [eS412]; exact (isA_new (k := 11) (N := 8) hq410 hA394)
  have hA417 : isA S412 12 q45 := by rw [eS412]; exact (isA_new (k := 11) (N := 8) hq410 hA395)
  have hA418 : isA S412 13 q61 := by rw [eS412]; exact (isA_new (k := 11) (N := 8) hq410 hA396)
  have hA419 : isA S412 11 q79 := by rw [eS412]; exact (isA_new (k := 11) (N := 8) hq410 hA397)
  have hA420 : isA S412 11 q99 := by rw [eS412]; exact (isA_new (k := 11) (N := 8) hq410 hA398)
  have hA421 : isA S412 11 q121 := by rw [eS412]; exact (isA_new (k := 11) (N := 8) hq410 hA399)
  have hA422 : isA S412 11 q145 := by rw [eS412]; exact (isA_new (k := 11) (N := 8) hq410 hA400)
  have hA423 : isA S412 11 q171 := by rw [eS412]; exact (isA_new (k := 11) (N := 8) hq410 hA401)
  have hA424 : isA S412 11 q199 := by rw [eS412]; exact (isA_new (k := 11) (N := 8) hq410 hA402)
  have hA425 : isA S412 11 q229 := by rw [eS412]; exact (isA_new (k := 11) (N := 8) hq410 hA403)
  have hA426 : isA S412 11 q261 := by rw [eS412]; exact (isA_new (k := 11) (N := 8) hq410 hA404)
  have hA427 : isA S412 11 q295 := by rw [eS412]; exact (isA_new (k := 11) (N := 8) hq410 hA405)
  have hA428 : isA S412 11 q331 := by rw [eS412]; exact (isA_new (k := 11) (N := 8) hq410 hA406)
  have hA429 : isA S412 11 q369 := by rw [eS412]; exact (isA_new (k := 11) (N := 8) hq410 hA407)
  have hA430 : isA S412 11 q409 := by rw [eS412]; exact (isA_made (S := S390) (k := 11) (N := 8))
  refine fV_putR (k := 5) (i := 25) hF fK5 tyX4_ok nmX4 rfl hA413 (by decide) rfl fw_1180 (Or.inl rfl) (Or.inr ⟨rfl, hin, rfl⟩) (rf_nar _ _) (rf_fit (ty := tyX4 25) rfl _) dX4_init_161 ?_
  obtain ⟨S431, eS431⟩ : ∃ z, z = wR S412 o 25 (some q409) := ⟨_, rfl⟩
  rw [← eS431]
  have h := h S431 eS431
  have hA432 : isA S431 5 o := by rw [eS431]; exact hA413
  have hA433 : isA S431 11 q9 := by rw [eS431]; exact hA414
  have hA434 : isA S431 11 q19 := by rw [eS431]; exact hA415
  have hA435 : isA S431 11 q31 := by rw [eS431]; exact hA416
  have hA436 : isA S431 12 q45 := by rw [eS431]; exact hA417
  have hA437 : isA S431 13 q61 := by rw [eS431]; exact hA418
  have hA438 : isA S431 11 q79 := by rw [eS431]; exact hA419
  have hA439 : isA S431 11 q99 := by rw [eS431]; exact hA420
  have hA440 : isA S431 11 q121 := by rw [eS431]; exact hA421
  have hA441 : isA S431 11 q145 := by rw [eS431]; exact hA422
  have hA442 : isA S431 11 q171 := by rw [eS431]; exact hA423
  have hA443 : isA S431 11 q199 := by rw [eS431]; exact hA424
  have hA444 : isA S431 11 q229 := by rw [eS431]; exact hA425
  have hA445 : isA S431 11 q261 := by rw [eS431]; exact hA426
  have hA446 : isA S431 11 q295 := by rw [eS431]; exact hA427
  have hA447 : isA S431 11 q331 := by rw [eS431]; exact hA428
  have hA448 : isA S431 11 q369 := by rw [eS431]; exact hA429
  have hA449 : isA S431 11 q409 := by rw [eS431]; exact hA430
  refine fV_aload_n hF dX4_init_164 rfl rfl ?_
  refine fV_bipush (v := 8) hF dX4_init_165 (by decide) ?_
  obtain ⟨hn450, h⟩ := h
  refine fV_newI (N := 8) hF (by omega) fw_1255 (by decide) (by decide) hn450 dX4_init_167 (fun q451 hq452 hqe453 => ?_)
  have h := h q451 hq452 hqe453
  obtain ⟨S454, eS454⟩ : ∃ z, z = wN S431 q451 11 8 := ⟨_, rfl⟩
  rw [← eS454]
  have h := h S454 eS454
  have hA455 : isA S454 5 o := by rw [eS454]; exact (isA_new (k := 11) (N := 8) hq452 hA432)
  have hA456 : isA S454 11 q9 := by rw [eS454]; exact (isA_new (k := 11) (N := 8) hq452 hA433)
  have hA457 : isA S454 11 q19 := by rw [eS454]; exact (isA_new (k := 11) (N := 8) hq452 hA434)
  have hA458 : isA S454 11 q31 := by rw [eS454]; exact (isA_new (k := 11) (N := 8) hq452 hA435)
  have hA459 : isA S454 12 q45 := by rw [eS454]; exact (isA_new (k := 11) (N := 8) hq452 hA436)
  have hA460 : isA S454 13 q61 := by rw [eS454]; exact (isA_new (k := 11) (N := 8) hq452 hA437)
  have hA461 : isA S454 11 q79 := by rw [eS454]; exact (isA_new (k := 11) (N := 8) hq452 hA438)
  have hA462 : isA S454 11 q99 := by rw [eS454]; exact (isA_new (k := 11) (N := 8) hq452 hA439)
  have hA463 : isA S454 11 q121 := by rw [eS454]; exact (isA_new (k := 11) (N := 8) hq452 hA440)
  have hA464 : isA S454 11 q145 := by rw [eS454]; exact (isA_new (k := 11) (N := 8) hq452 hA441)
  have hA465 : isA S454 11 q171 := by rw [eS454]; exact (isA_new (k := 11) (N := 8) hq452 hA442)
  have hA466 : isA S454 11 q199 := by rw [eS454]; exact (isA_new (k := 11) (N := 8) hq452 hA443)
  have hA467 : isA S454 11 q229 := by rw [eS454]; exact (isA_new (k := 11) (N := 8) hq452 hA444)
  have hA468 : isA S454 11 q261 := by rw [eS454]; exact (isA_new (k := 11) (N := 8) hq452 hA445)
  have hA469 : isA S454 11 q295 := by rw [eS454]; exact (isA_new (k := 11) (N := 8) hq452 hA446)
  have hA470 : isA S454 11 q331 := by rw [eS454]; exact (isA_new (k := 11) (N := 8) hq452 hA447)
  have hA471 : isA S454 11 q369 := by rw [eS454]; exact (isA_new (k := 11) (N := 8) hq452 hA448)
  have hA472 : isA S454 11 q409 := by rw [eS454]; exact (isA_new (k := 11) (N := 8) hq452 hA449)
  have hA473 : isA S454 11 q451 := by rw [eS454]; exact (isA_made (S := S431) (k := 11) (N := 8))
  refine fV_putR (k := 5) (i := 26) hF fK5 tyX4_ok nmX4 rfl hA455 (by decide) rfl fw_1181 (Or.inl rfl) (Or.inr ⟨rfl, hin, rfl⟩) (rf_nar _ _) (rf_fit (ty := tyX4 26) rfl _) dX4_init_169 ?_
  obtain ⟨S474, eS474⟩ : ∃ z, z = wR S454 o 26 (some q451) := ⟨_, rfl⟩
  rw [← eS474]
  have h := h S474 eS474
  have hA475 : isA S474 5 o := by rw [eS474]; exact hA455
  have hA476 : isA S474 11 q9 := by rw [eS474]; exact hA456
  have hA477 : isA S474 11 q19 := by rw [eS474]; exact hA457
  have hA478 : isA S474 11 q31 := by rw [eS474]; exact hA458
  have hA479 : isA S474 12 q45 := by rw [eS474]; exact hA459
  have hA480 : isA S474 13 q61 := by rw [eS474]; exact hA460
  have hA481 : isA S474 11 q79 := by rw [eS474]; exact hA461
  have hA482 : isA S474 11 q99 := by rw [eS474]; exact hA462
  have hA483 : isA S474 11 q121 := by rw [eS474]; exact hA463
  have hA484 : isA S474 11 q145 := by rw [eS474]; exact hA464
  have hA485 : isA S474 11 q171 := by rw [eS474]; exact hA465
  have hA486 : isA S474 11 q199 := by rw [eS474]; exact hA466
  have hA487 : isA S474 11 q229 := by rw [eS474]; exact hA467
  have hA488 : isA S474 11 q261 := by rw [eS474]; exact hA468
  have hA489 : isA S474 11 q295 := by rw [eS474]; exact hA469
  have hA490 : isA S474 11 q331 := by rw [eS474]; exact hA470
  have hA491 : isA S474 11 q369 := by rw [eS474]; exact hA471
  have hA492 : isA S474 11 q409 := by rw [eS474]; exact hA472
  have hA493 : isA S474 11 q451 := by rw [eS474]; exact hA473
  refine fV_aload_n hF dX4_init_172 rfl rfl ?_
  refine fV_bipush (v := 10) hF dX4_init_173 (by decide) ?_
  obtain ⟨hn494, h⟩ := h
  refine fV_newI (N := 10) hF (by omega) fw_1255 (by decide) (by decide) hn494 dX4_init_175 (fun q495 hq496 hqe497 => ?_)
  have h := h q495 hq496 hqe497
  obtain ⟨S498, eS498⟩ : ∃ z, z = wN S474 q495 11 10 := ⟨_, rfl⟩
  rw [← eS498]
  have h := h S498 eS498
  have hA499 : isA S498 5 o := by rw [eS498]; exact (isA_new (k := 11) (N := 10) hq496 hA475)
  have hA500 : isA S498 11 q9 := by rw [eS498]; exact (isA_new (k := 11) (N := 10) hq496 hA476)
  have hA501 : isA S498 11 q19 := by rw [eS498]; exact (isA_new (k := 11) (N := 10) hq496 hA477)
  have hA502 : isA S498 11 q31 := by rw [eS498]; exact (isA_new (k := 11) (N := 10) hq496 hA478)
  have hA503 : isA S498 12 q45 := by rw [eS498]; exact (isA_new (k := 11) (N := 10) hq496 hA479)
  have hA504 : isA S498 13 q61 := by rw [eS498]; exact (isA_new (k := 11) (N := 10) hq496 hA480)
  have hA505 : isA S498 11 q79 := by rw [eS498]; exact (isA_new (k := 11) (N := 10) hq496 hA481)
  have hA506 : isA S498 11 q99 := by rw [eS498]; exact (isA_new (k := 11) (N := 10) hq496 hA482)
  have hA507 : isA S498 11 q121 := by rw [eS498]; exact (isA_new (k := 11) (N := 10) hq496 hA483)
  have hA508 : isA S498 11 q145 := by rw [eS498]; exact (isA_new (k := 11) (N := 10) hq496 hA484)
  have hA509 : isA S498 11 q171 := by rw [eS498]; exact (isA_new (k := 11) (N := 10) hq496 hA485)
  have hA510 : isA S498 11 q199 := by rw [eS498]; exact (isA_new (k := 11) (N := 10) hq496 hA486)
  have hA511 : isA S498 11 q229 := by rw [eS498]; exact (isA_new (k := 11) (N := 10) hq496 hA487)
  have hA512 : isA S498 11 q261 := by rw [eS498]; exact (isA_new (k := 11) (N := 10) hq496 hA488)
  have hA513 : isA S498 11 q295 := by rw [eS498]; exact (isA_new (k := 11) (N := 10) hq496 hA489)
  have hA514 : isA S498 11 q331 := by rw [eS498]; exact (isA_new (k := 11) (N := 10) hq496 hA490)
  have hA515 : isA S498 11 q369 := by rw [eS498]; exact (isA_new (k := 11) (N := 10) hq496 hA491)
  have hA516 : isA S498 11 q409 := by rw [eS498]; exact (isA_new (k := 11) (N := 10) hq496 hA492)
  have hA517 : isA S498 11 q451 := by rw [eS498]; exact (isA_new (k := 11) (N := 10) hq496 hA493)
  have hA518 : isA S498 11 q495 := by rw [eS498]; exact (isA_made (S := S474) (k := 11) (N := 10))
  refine fV_putR (k := 5) (i := 27) hF fK5 tyX4_ok nmX4 rfl hA499 (by decide) rfl fw_1182 (Or.inl rfl) (Or.inr ⟨rfl, hin, rfl⟩) (rf_nar _ _) (rf_fit (ty := tyX4 27) rfl _) dX4_init_177 ?_
  obtain ⟨S519, eS519⟩ : ∃ z, z = wR S498 o 27 (some q495) := ⟨_, rfl⟩
  rw [← eS519]
  have h := h S519 eS519
  have hA520 : isA S519 5 o := by rw [eS519]; exact hA499
  have hA521 : isA S519 11 q9 := by rw [eS519]; exact hA500
  have hA522 : isA S519 11 q19 := by rw [eS519]; exact hA501
  have hA523 : isA S519 11 q31 := by rw [eS519]; exact hA502
  have hA524 : isA S519 12 q45 := by rw [eS519]; exact hA503
  have hA525 : isA S519 13 q61 := by rw [eS519]; exact hA504
  have hA526 : isA S519 11 q79 := by rw [eS519]; exact hA505
  have hA527 : isA S519 11 q99 := by rw [eS519]; exact hA506
  have hA528 : isA S519 11 q121 := by rw [eS519]; exact hA507
  have hA529 : isA S519 11 q145 := by rw [eS519]; exact hA508
  have hA530 : isA S519 11 q171 := by rw [eS519]; exact hA509
  have hA531 : isA S519 11 q199 := by rw [eS519]; exact hA510
  have hA532 : isA S519 11 q229 := by rw [eS519]; exact hA511
  have hA533 : isA S519 11 q261 := by rw [eS519]; exact hA512
  have hA534 : isA S519 11 q295 := by rw [eS519]; exact hA513
  have hA535 : isA S519 11 q331 := by rw [eS519]; exact hA514
  have hA536 : isA S519 11 q369 := by rw [eS519]; exact hA515
  have hA537 : isA S519 11 q409 := by rw [eS519]; exact hA516
  have hA538 : isA S519 11 q451 := by rw [eS519]; exact hA517
  have hA539 : isA S519 11 q495 := by rw [eS519]; exact hA518
  refine fV_aload_n hF dX4_init_180 rfl rfl ?_
  refine fV_bipush (v := 10) hF dX4_init_181 (by decide) ?_
  obtain ⟨hn540, h⟩ := h
  refine fV_newI (N := 10) hF (by omega) fw_1255 (by decide) (by decide) hn540 dX4_init_183 (fun q541 hq542 hqe543 => ?_)
  have h := h q541 hq542 hqe543
  obtain ⟨S544, eS544⟩ : ∃ z, z = wN S519 q541 11 10 := ⟨_, rfl⟩
  rw [← eS544]
  have h := h S544 eS544
  have hA545 : isA S544 5 o := by rw [eS544]; exact (isA_new (k := 11) (N := 10) hq542 hA520)
  have hA546 : isA S544 11 q9 := by rw [eS544]; exact (isA_new (k := 11) (N := 10) hq542 hA521)
  have hA547 : isA S544 11 q19 := by rw [eS544]; exact (isA_new (k := 11) (N := 10) hq542 hA522)
  have hA548 : isA S544 11 q31 := by rw [eS544]; exact (isA_new (k := 11) (N := 10) hq542 hA523)
  have hA549 : isA S544 12 q45 := by rw [eS544]; exact (isA_new (k := 11) (N := 10) hq542 hA524)
  have hA550 : isA S544 13 q61 := by rw [eS544]; exact (isA_new (k := 11) (N := 10) hq542 hA525)
  have hA551 : isA S544 11 q79 := by rw [eS544]; exact (isA_new (k := 11) (N := 10) hq542 hA526)
  have hA552 : isA S544 11 q99 := by rw [eS544]; exact (isA_new (k := 11) (N := 10) hq542 hA527)
  have hA553 : isA S544 11 q121 := by rw [eS544]; exact (isA_new (k := 11) (N := 10) hq542 hA528)
  have hA554 : isA S544 11 q145 := by rw [eS544]; exact (isA_new (k := 11) (N := 10) hq542 hA529)
  have hA555 : isA S544 11 q171 := by rw [eS544]; exact (isA_new (k := 11) (N := 10) hq542 hA530)
  have hA556 : isA S544 11 q199 := by rw [eS544]; exact (isA_new (k := 11) (N := 10) hq542 hA531)
  have hA557 : isA S544 11 q229 := by rw [eS544]; exact (isA_new (k := 11) (N := 10) hq542 hA532)
  have hA558 : isA S544 11 q261 := by rw [eS544]; exact (isA_new (k := 11) (N := 10) hq542 hA533)
  have hA559 : isA S544 11 q295 := by rw [eS544]; exact (isA_new (k := 11) (N := 10) hq542 hA534)
  have hA560 : isA S544 11 q331 := by rw [eS544]; exact (isA_new (k := 11) (N := 10) hq542 hA535)
  have hA561 : isA S544 11 q369 := by rw [eS544]; exact (isA_new (k := 11) (N := 10) hq542 hA536)
  have hA562 : isA S544 11 q409 := by rw [eS544]; exact (isA_new (k := 11) (N := 10) hq542 hA537)
  have hA563 : isA S544 11 q451 := by rw [eS544]; exact (isA_new (k := 11) (N := 10) hq542 hA538)
  have hA564 : isA S544 11 q495 := by rw [eS544]; exact (isA_new (k := 11) (N := 10) hq542 hA539)
  have hA565 : isA S544 11 q541 := by rw [eS544]; exact (isA_made (S := S519) (k := 11) (N := 10))
  refine fV_putR (k := 5) (i := 28) hF fK5 tyX4_ok nmX4 rfl hA545 (by decide) rfl fw_1183 (Or.inl rfl) (Or.inr ⟨rfl, hin, rfl⟩) (rf_nar _ _) (rf_fit (ty := tyX4 28) rfl _) dX4_init_185 ?_
  obtain ⟨S566, eS566⟩ : ∃ z, z = wR S544 o 28 (some q541) := ⟨_, rfl⟩
  rw [← eS566]
  have h := h S566 eS566
  have hA567 : isA S566 5 o := by rw [eS566]; exact hA545
  have hA568 : isA S566 11 q9 := by rw [eS566]; exact hA546
  have hA569 : isA S566 11 q19 := by rw [eS566]; exact hA547
  have hA570 : isA S566 11 q31 := by rw [eS566]; exact hA548
  have hA571 : isA S566 12 q45 := by rw [eS566]; exact hA549
  have hA572 : isA S566 13 q61 := by rw [eS566]; exact hA550
  have hA573 : isA S566 11 q79 := by rw [eS566]; exact hA551
  have hA574 : isA S566 11 q99 := by rw [eS566]; exact hA552
  have hA575 : isA S566 11 q121 := by rw [eS566]; exact hA553
  have hA576 : isA S566 11 q145 := by rw [eS566]; exact hA554
  have hA577 : isA S566 11 q171 := by rw [eS566]; exact hA555
  have hA578 : isA S566 11 q199 := by rw [eS566]; exact hA556
  have hA579 : isA S566 11 q229 := by rw [eS566]; exact hA557
  have hA580 : isA S566 11 q261 := by rw [eS566]; exact hA558
  have hA581 : isA S566 11 q295 := by rw [eS566]; exact hA559
  have hA582 : isA S566 11 q331 := by rw [eS566]; exact hA560
  have hA583 : isA S566 11 q369 := by rw [eS566]; exact hA561
  have hA584 : isA S566 11 q409 := by rw [eS566]; exact hA562
  have hA585 : isA S566 11 q451 := by rw [eS566]; exact hA563
  have hA586 : isA S566 11 q495 := by rw [eS566]; exact hA564
  have hA587 : isA S566 11 q541 := by rw [eS566]; exact hA565
  refine fV_aload_n hF dX4_init_188 rfl rfl ?_
  refine fV_bipush (v := 10) hF dX4_init_189 (by decide) ?_
  obtain ⟨hn588, h⟩ := h
  refine fV_newI (N := 10) hF (by omega) fw_1255 (by decide) (by decide) hn588 dX4_init_191 (fun q589 hq590 hqe591 => ?_)
  have h := h q589 hq590 hqe591
  obtain ⟨S592, eS592⟩ : ∃ z, z = wN S566 q589 11 10 := ⟨_, rfl⟩
  rw [← eS592]
  have h := h S592 eS592
  have hA593 : isA S592 5 o := by rw [eS592]; exact (isA_new (k := 11) (N := 10) hq590 hA567)
  have hA594 : isA S592 11 q9 := by rw [eS592]; exact (isA_new (k := 11) (N := 10) hq590 hA568)
  have hA595 : isA S592 11 q19 := by rw [eS592]; exact (isA_new (k := 11) (N := 10) hq590 hA569)
  have hA596 : isA S592 11 q31 := by rw [eS592]; exact (isA_new (k := 11) (N := 10) hq590 hA570)
  have hA597 : isA S592 12 q45 := by rw [eS592]; exact (isA_new (k := 11) (N := 10) hq590 hA571)
  have hA598 : isA S592 13 q61 := by rw [eS592]; exact (isA_new (k := 11) (N := 10) hq590 hA572)
  have hA599 : isA S592 11 q79 := by rw [eS592]; exact (isA_new (k := 11) (N := 10) hq590 hA573)
  have hA600 : isA S592 11 q99 := by rw [eS592]; exact (isA_new (k := 11) (N := 10) hq590 hA574)
  have hA601 : isA S592 11 q121 := by rw [eS592]; exact (isA_new (k := 11) (N := 10) hq590 hA575)
  have hA602 : isA S592 11 q145 := by rw [eS592]; exact (isA_new (k := 11) (N := 10) hq590 hA576)
  have hA603 : isA S592 11 q171 := by rw [eS592]; exact (isA_new (k := 11) (N := 10) hq590 hA577)
  have hA604 : isA S592 11 q199 := by rw [eS592]; exact (isA_new (k := 11) (N := 10) hq590 hA578)
  have hA605 : isA S592 11 q229 := by rw [eS592]; exact (isA_new (k := 11) (N := 10) hq590 hA579)
  have hA606 : isA S592 11 q261 := by rw [eS592]; exact (isA_new (k := 11) (N := 10) hq590 hA580)
  have hA607 : isA S592 11 q295 := by rw [eS592]; exact (isA_new (k := 11) (N := 10) hq590 hA581)
  have hA608 : isA S592 11 q331 := by rw [eS592]; exact (isA_new (k := 11) (N := 10) hq590 hA582)
  have hA609 : isA S592 11 q369 := by rw [eS592]; exact (isA_new (k := 11) (N := 10) hq590 hA583)
  have hA610 : isA S592 11 q409 := by rw [eS592]; exact (isA_new (k := 11) (N := 10) hq590 hA584)
  have hA611 : isA S592 11 q451 := by rw [eS592]; exact (isA_new (k := 11) (N := 10) hq590 hA585)
  have hA612 : isA S592 11 q495 := by rw [eS592]; exact (isA_new (k := 11) (N := 10) hq590 hA586)
  have hA613 : isA S592 11 q541 := by rw [eS592]; exact (isA_new (k := 11) (N := 10) hq590 hA587)
  have hA614 : isA S592 11 q589 := by rw [eS592]; exact (isA_made (S := S566) (k := 11) (N := 10))
  refine fV_putR (k := 5) (i := 29) hF fK5 tyX4_ok nmX4 rfl hA593 (by decide) rfl fw_1184 (Or.inl rfl) (Or.inr ⟨rfl, hin, rfl⟩) (rf_nar _ _) (rf_fit (ty := tyX4 29) rfl _) dX4_init_193 ?_
  obtain ⟨S615, eS615⟩ : ∃ z, z = wR S592 o 29 (some q589) := ⟨_, rfl⟩
  rw [← eS615]
  have h := h S615 eS615
  have hA616 : isA S615 5 o := by rw [eS615]; exact hA593
  have hA617 : isA S615 11 q9 := by rw [eS615]; exact hA594
  have hA618 : isA S615 11 q19 := by rw [eS615]; exact hA595
  have hA619 : isA S615 11 q31 := by rw [eS615]; exact hA596
  have hA620 : isA S615 12 q45 := by rw [eS615]; exact hA597
  have hA621 : isA S615 13 q61 := by rw [eS615]; exact hA598
  have hA622 : isA S615 11 q79 := by rw [eS615]; exact hA599
  have hA623 : isA S615 11 q99 := by rw [eS615]; exact hA600
  have hA624 : isA S615 11 q121 := by rw [eS615]; exact hA601
  have hA625 : isA S615 11 q145 := by rw [eS615]; exact hA602
  have hA626 : isA S615 11 q171 := by rw [eS615]; exact hA603
  have hA627 : isA S615 11 q199 := by rw [eS615]; exact hA604
  have hA628 : isA S615 11 q229 := by rw [eS615]; exact hA605
  have hA629 : isA S615 11 q261 := by rw [eS615]; exact hA606
  have hA630 : isA S615 11 q295 := by rw [eS615]; exact hA607
  have hA631 : isA S615 11 q331 := by rw [eS615]; exact hA608
  have hA632 : isA S615 11 q369 := by rw [eS615]; exact hA609
  have hA633 : isA S615 11 q409 := by rw [eS615]; exact hA610
  have hA634 : isA S615 11 q451 := by rw [eS615]; exact hA611
  have hA635 : isA S615 11 q495 := by rw [eS615]; exact hA612
  have hA636 : isA S615 11 q541 := by rw [eS615]; exact hA613
  have hA637 : isA S615 11 q589 := by rw [eS615]; exact hA614
  refine fV_aload_n hF dX4_init_196 rfl rfl ?_
  refine fV_bipush (v := 40) hF dX4_init_197 (by decide) ?_
  obtain ⟨hn638, h⟩ := h
  refine fV_newI (N := 40) hF (by omega) fw_1255 (by decide) (by decide) hn638 dX4_init_199 (fun q639 hq640 hqe641 => ?_)
  have h := h q639 hq640 hqe641
  obtain ⟨S642, eS642⟩ : ∃ z, z = wN S615 q639 11 40 := ⟨_, rfl⟩
  rw [← eS642]
  have h := h S642 eS642
  have hA643 : isA S642 5 o := by rw [eS642]; exact (isA_new (k := 11) (N := 40) hq640 hA616)
  have hA644 : isA S642 11 q9 := by rw [eS642]; exact (isA_new (k := 11) (N := 40) hq640 hA617)
  have hA645 : isA S642 11 q19 := by rw [eS642]; exact (isA_new (k := 11) (N := 40) hq640 hA618)
  have hA646 : isA S642 11 q31 := by rw [eS642]; exact (isA_new (k := 11) (N := 40) hq640 hA619)
  have hA647 : isA S642 12 q45 := by rw [eS642]; exact (isA_new (k := 11) (N := 40) hq640 hA620)
  have hA648 : isA S642 13 q61 := by rw [eS642]; exact (isA_new (k := 11) (N := 40) hq640 hA621)
  have hA649 : isA S642 11 q79 := by rw [eS642]; exact (isA_new (k := 11) (N := 40) hq640 hA622)
  have hA650 : isA S642 11 q99 := by rw [eS642]; exact (isA_new (k := 11) (N := 40) hq640 hA623)
  have hA651 : isA S642 11 q121 := by rw [eS642]; exact (isA_new (k := 11) (N := 40) hq640 hA624)
  have hA652 : isA S642 11 q145 := by rw [eS642]; exact (isA_new (k := 11) (N := 40) hq640 hA625)
  have hA653 : isA S642 11 q171 := by rw [eS642]; exact (isA_new (k := 11) (N := 40) hq640 hA626)
  have hA654 : isA S642 11 q199 := by rw [eS642]; exact (isA_new (k := 11) (N := 40) hq640 hA627)
  have hA655 : isA S642 11 q229 := by rw [eS642]; exact (isA_new (k := 11) (N := 40) hq640 hA628)
  have hA656 : isA S642 11 q261 := by rw [eS642]; exact (isA_new (k := 11) (N := 40) hq640 hA629)
  have hA657 : isA S642 11 q295 := by rw [eS642]; exact (isA_new (k := 11) (N := 40) hq640 hA630)
  have hA658 : isA S642 11 q331 := by rw [eS642]; exact (isA_new (k := 11) (N := 40) hq640 hA631)
  have hA659 : isA S642 11 q369 := by rw [eS642]; exact (isA_new (k := 11) (N := 40) hq640 hA632)
  have hA660 : isA S642 11 q409 := by rw [eS642]; exact (isA_new (k := 11) (N := 40) hq640 hA633)
  have hA661 : isA S642 11 q451 := by rw [eS642]; exact (isA_new (k := 11) (N := 40) hq640 hA634)
  have hA662 : isA S642 11 q495 := by rw [eS642]; exact (isA_new (k := 11) (N := 40) hq640 hA635)
  have hA663 : isA S642 11 q541 := by rw [eS642]; exact (isA_new (k := 11) (N := 40) hq640 hA636)
  have hA664 : isA S642 11 q589 := by rw [eS642]; exact (isA_new (k := 11) (N := 40) hq640 hA637)
  have hA665 : isA S642 11 q639 := by rw [eS642]; exact (isA_made (S := S615) (k := 11) (N := 40))
  refine fV_putR (k := 5) (i := 31) hF fK5 tyX4_ok nmX4 rfl hA643 (by decide) rfl fw_1186 (Or.inl rfl) (Or.inr ⟨rfl, hin, rfl⟩) (rf_nar _ _) (rf_fit (ty := tyX4 31) rfl _) dX4_init_201 ?_
  obtain ⟨S666, eS666⟩ : ∃ z, z = wR S642 o 31 (some q639) := ⟨_, rfl⟩
  rw [← eS666]
  have h := h S666 eS666
  have hA667 : isA S666 5 o := by rw [eS666]; exact hA643
  have hA668 : isA S666 11 q9 := by rw [eS666]; exact hA644
  have hA669 : isA S666 11 q19 := by rw [eS666]; exact hA645
  have hA670 : isA S666 11 q31 := by rw [eS666]; exact hA646
  have hA671 : isA S666 12 q45 := by rw [eS666]; exact hA647
  have hA672 : isA S666 13 q61 := by rw [eS666]; exact hA648
  have hA673 : isA S666 11 q79 := by rw [eS666]; exact hA649
  have hA674 : isA S666 11 q99 := by rw [eS666]; exact hA650
  have hA675 : isA S666 11 q121 := by rw [eS666]; exact hA651
  have hA676 : isA S666 11 q145 := by rw [eS666]; exact hA652
  have hA677 : isA S666 11 q171 := by rw [eS666]; exact hA653
  have hA678 : isA S666 11 q199 := by rw [eS666]; exact hA654
  have hA679 : isA S666 11 q229 := by rw [eS666]; exact hA655
  have hA680 : isA S666 11 q261 := by rw [eS666]; exact hA656
  have hA681 : isA S666 11 q295 := by rw [eS666]; exact hA657
  have hA682 : isA S666 11 q331 := by rw [eS666]; exact hA658
  have hA683 : isA S666 11 q369 := by rw [eS666]; exact hA659
  have hA684 : isA S666 11 q409 := by rw [eS666]; exact hA660
  have hA685 : isA S666 11 q451 := by rw [eS666]; exact hA661
  have hA686 : isA S666 11 q495 := by rw [eS666]; exact hA662
  have hA687 : isA S666 11 q541 := by rw [eS666]; exact hA663
  have hA688 : isA S666 11 q589 := by rw [eS666]; exact hA664
  have hA689 : isA S666 11 q639 := by rw [eS666]; exact hA665
  refine fV_aload_n hF dX4_init_204 rfl rfl ?_
  refine fV_getR (k := 5) (i := 6) hF fK5 rfl hA667 (by decide) fw_1161 (Or.inl rfl) rfl dX4_init_205 ?_
  refine fV_iconst (v := 0) hF dX4_init_208 (by decide) ?_
  refine fV_iconst (v := 1) hF dX4_init_209 (by decide) ?_
  obtain ⟨a690, e691, hA692, h⟩ := h
  obtain ⟨hix693, h⟩ := h
  refine fV_iast hF e691 hA692 hix693 dX4_init_210 ?_
  obtain ⟨S694, eS694⟩ : ∃ z, z = wI S666 a690 (Int32.toNatClampNeg (0 : Int32)) (1 : Int32) := ⟨_, rfl⟩
  rw [← eS694]
  have h := h S694 eS694
  have hA695 : isA S694 5 o := by rw [eS694]; exact hA667
  have hA696 : isA S694 11 q9 := by rw [eS694]; exact hA668
  have hA697 : isA S694 11 q19 := by rw [eS694]; exact hA669
  have hA698 : isA S694 11 q31 := by rw [eS694]; exact hA670
  have hA699 : isA S694 12 q45 := by rw [eS694]; exact hA671
  have hA700 : isA S694 13 q61 := by rw [eS694]; exact hA672
  have hA701 : isA S694 11 q79 := by rw [eS694]; exact hA673
  have hA702 : isA S694 11 q99 := by rw [eS694]; exact hA674
  have hA703 : isA S694 11 q121 := by rw [eS694]; exact hA675
  have hA704 : isA S694 11 q145 := by rw [eS694]; exact hA676
  have hA705 : isA S694 11 q171 := by rw [eS694]; exact hA677
  have hA706 : isA S694 11 q199 := by rw [eS694]; exact hA678
  have hA707 : isA S694 11 q229 := by rw [eS694]; exact hA679
  have hA708 : isA S694 11 q261 := by rw [eS694]; exact hA680
  have hA709 : isA S694 11 q295 := by rw [eS694]; exact hA681
  have hA710 : isA S694 11 q331 := by rw [eS694]; exact hA682
  have hA711 : isA S694 11 q369 := by rw [eS694]; exact hA683
  have hA712 : isA S694 11 q409 := by rw [eS694]; exact hA684
  have hA713 : isA S694 11 q451 := by rw [eS694]; exact hA685
  have hA714 : isA S694 11 q495 := by rw [eS694]; exact hA686
  have hA715 : isA S694 11 q541 := by rw [eS694]; exact hA687
  have hA716 : isA S694 11 q589 := by rw [eS694]; exact hA688
  have hA717 : isA S694 11 q639 := by rw [eS694]; exact hA689
  have hA718 : isA S694 11 a690 := by rw [eS694]; exact hA692
  refine fV_aload_n hF dX4_init_211 rfl rfl ?_
  refine fV_getR (k := 5) (i := 5) hF fK5 rfl hA695 (by decide) fw_1160 (Or.inl rfl) rfl dX4_init_212 ?_
  refine fV_iconst (v := 0) hF dX4_init_215 (by decide) ?_
  refine fV_iconst (v := -1) hF dX4_init_216 (by decide) ?_
  obtain ⟨a719, e720, hA721, h⟩ := h
  obtain ⟨hix722, h⟩ := h
  refine fV_iast hF e720 hA721 hix722 dX4_init_217 ?_
  obtain ⟨S723, eS723⟩ : ∃ z, z = wI S694 a719 (Int32.toNatClampNeg (0 : Int32)) (-1 : Int32) := ⟨_, rfl⟩
  rw [← eS723]
  have h := h S723 eS723
  have hA724 : isA S723 5 o := by rw [eS723]; exact hA695
  have hA725 : isA S723 11 q9 := by rw [eS723]; exact hA696
  have hA726 : isA S723 11 q19 := by rw [eS723]; exact hA697
  have hA727 : isA S723 11 q31 := by rw [eS723]; exact hA698
  have hA728 : isA S723 12 q45 := by rw [eS723]; exact hA699
  have hA729 : isA S723 13 q61 := by rw [eS723]; exact hA700
  have hA730 : isA S723 11 q79 := by rw [eS723]; exact hA701
  have hA731 : isA S723 11 q99 := by rw [eS723]; exact hA702
  have hA732 : isA S723 11 q121 := by rw [eS723]; exact hA703
  have hA733 : isA S723 11 q145 := by rw [eS723]; exact hA704
  have hA734 : isA S723 11 q171 := by rw [eS723]; exact hA705
  have hA735 : isA S723 11 q199 := by rw [eS723]; exact hA706
  have hA736 : isA S723 11 q229 := by rw [eS723]; exact hA707
  have hA737 : isA S723 11 q261 := by rw [eS723]; exact hA708
  have hA738 : isA S723 11 q295 := by rw [eS723]; exact hA709
  have hA739 : isA S723 11 q331 := by rw [eS723]; exact hA710
  have hA740 : isA S723 11 q369 := by rw [eS723]; exact hA711
  have hA741 : isA S723 11 q409 := by rw [eS723]; exact hA712
  have hA742 : isA S723 11 q451 := by rw [eS723]; exact hA713
  have hA743 : isA S723 11 q495 := by rw [eS723]; exact hA714
  have hA744 : isA S723 11 q541 := by rw [eS723]; exact hA715
  have hA745 : isA S723 11 q589 := by rw [eS723]; exact hA716
  have hA746 : isA S723 11 q639 := by rw [eS723]; exact hA717
  have hA747 : isA S723 11 a690 := by rw [eS723]; exact hA718
  have hA748 : isA S723 11 a719 := by rw [eS723]; exact hA721
  refine fV_aload_n hF dX4_init_218 rfl rfl ?_
  refine fV_getR (k := 5) (i := 7) hF fK5 rfl hA724 (by decide) fw_1162 (Or.inl rfl) rfl dX4_init_219 ?_
  refine fV_iconst (v := 0) hF dX4_init_222 (by decide) ?_
  refine fV_sipush (v := 500) hF dX4_init_223 (by decide) ?_
  obtain ⟨a749, e750, hA751, h⟩ := h
  obtain ⟨hix752, h⟩ := h
  refine fV_iast hF e750 hA751 hix752 dX4_init_226 ?_
  obtain ⟨S753, eS753⟩ : ∃ z, z = wI S723 a749 (Int32.toNatClampNeg (0 : Int32)) (500 : Int32) := ⟨_, rfl⟩
  rw [← eS753]
  have h := h S753 eS753
  have hA754 : isA S753 5 o := by rw [eS753]; exact hA724
  have hA755 : isA S753 11 q9 := by rw [eS753]; exact hA725
  have hA756 : isA S753 11 q19 := by rw [eS753]; exact hA726
  have hA757 : isA S753 11 q31 := by rw [eS753]; exact hA727
  have hA758 : isA S753 12 q45 := by rw [eS753]; exact hA728
  have hA759 : isA S753 13 q61 := by rw [eS753]; exact hA729
  have hA760 : isA S753 11 q79 := by rw [eS753]; exact hA730
  have hA761 : isA S753 11 q99 := by rw [eS753]; exact hA731
  have hA762 : isA S753 11 q121 := by rw [eS753]; exact hA732
  have hA763 : isA S753 11 q145 := by rw [eS753]; exact hA733
  have hA764 : isA S753 11 q171 := by rw [eS753]; exact hA734
  have hA765 : isA S753 11 q199 := by rw [eS753]; exact hA735
  have hA766 : isA S753 11 q229 := by rw [eS753]; exact hA736
  have hA767 : isA S753 11 q261 := by rw [eS753]; exact hA737
  have hA768 : isA S753 11 q295 := by rw [eS753]; exact hA738
  have hA769 : isA S753 11 q331 := by rw [eS753]; exact hA739
  have hA770 : isA S753 11 q369 := by rw [eS753]; exact hA740
  have hA771 : isA S753 11 q409 := by rw [eS753]; exact hA741
  have hA772 : isA S753 11 q451 := by rw [eS753]; exact hA742
  have hA773 : isA S753 11 q495 := by rw [eS753]; exact hA743
  have hA774 : isA S753 11 q541 := by rw [eS753]; exact hA744
  have hA775 : isA S753 11 q589 := by rw [eS753]; exact hA745
  have hA776 : isA S753 11 q639 := by rw [eS753]; exact hA746
  have hA777 : isA S753 11 a690 := by rw [eS753]; exact hA747
  have hA778 : isA S753 11 a719 := by rw [eS753]; exact hA748
  have hA779 : isA S753 11 a749 := by rw [eS753]; exact hA751
  exact fV_vret hF hE.s (by omega) hr dX4_init_227 ⟨rfl, h⟩
set_option maxRecDepth 100000 in
set_option maxHeartbeats 4000000 in
theorem mc_X4_thrown {l : Launch} (hfl : l.stackTraces = false) {G : fG} {S : fMS} {n : Nat} {o : Nat} {post : Int32 → Prop} (h : wp_X4_thrown S o post) : fCM l yX4_thrown (.code yX4_thrown cX4_thrown 1 (some .int)) 1 G [(aR (some o))] S n (fPI (fun x S' n' => S = S' ∧ n = n' ∧ post x)) := by
  refine fCM_of hfl (by decide) (by intro v hv; simp only [List.mem_cons, List.not_mem_nil, or_false] at hv; rcases hv with rfl <;> rfl) (Nat.le_of_ble_eq_true rfl) (fun F hF hxn hl hG hr hin hE => ?_)
  subst hl hG
  have hlv : 1 ≤ 1 := Nat.le_refl _
  show fV F S n 0 [some (aR (some o))] []
  unfold wp_X4_thrown at h
  refine fV_aload_n hF dX4_thrown_0 rfl rfl ?_
  obtain ⟨hA1, h⟩ := h
  refine fV_getI (k := 5) (i := 0) hF fK5 rfl hA1 (by decide) fw_1155 (Or.inl rfl) rfl dX4_thrown_1 ?_
  exact fV_iret hF hE.s (by omega) hr rfl dX4_thrown_4 ⟨_, rfl, rfl, rfl, h⟩
set_option maxRecDepth 100000 in
set_option maxHeartbeats 4000000 in
theorem mc_X4_in {l : Launch} (hfl : l.stackTraces = false) {G : fG} {S : fMS} {n : Nat} {p0 : Int32} {p1 : Int32} {p2 : Int32} {post : Int32 → Prop} (h : wp_X4_in S p0 p1 p2 post) : fCM l yX4_in (.code yX4_in cX4_in 3 (some .boolean)) 1 G [(aI p0), (aI p1), (aI p2)] S n (fPI (fun x S' n' => S = S' ∧ n = n' ∧ post x)) := by
  refine fCM_of hfl (by decide) (by intro v hv; simp only [List.mem_cons, List.not_mem_nil, or_false] at hv; rcases hv with rfl | rfl | rfl <;> rfl) (Nat.le_of_ble_eq_true rfl) (fun F hF hxn hl hG hr hin hE => ?_)
  subst hl hG
  have hlv : 1 ≤ 1 := Nat.le_refl _
  show fV F S n 0 [some (aI p0), some (aI p1), some (aI p2)] []
  unfold wp_X4_in at h
  refine fV_iload_n hF dX4_in_0 rfl rfl ?_
  refine fV_iload_n hF dX4_in_1 rfl rfl ?_
  refine fV_icmp_lt (tgt := 14) hF dX4_in_2 (by decide) (fun c1 => ?_) (fun c1 => ?_)
  · have h := h.1 c1
    refine fV_iconst (v := 0) hF dX4_in_14 (by decide) ?_
    exact fV_iret hF hE.s (by omega) hr (by decide) dX4_in_15 ⟨_, rfl, rfl, rfl, h⟩
  · have h := h.2 c1
    refine fV_iload_n hF dX4_in_5 rfl rfl ?_
    refine fV_iload_n hF dX4_in_6 rfl rfl ?_
    refine fV_icmp_gt (tgt := 14) hF dX4_in_7 (by decide) (fun c2 => ?_) (fun c2 => ?_)
    · have h := h.1 c2
      refine fV_iconst (v := 0) hF dX4_in_14 (by decide) ?_
      exact fV_iret hF hE.s (by omega) hr (by decide) dX4_in_15 ⟨_, rfl, rfl, rfl, h⟩
    · have h := h.2 c2
      refine fV_iconst (v := 1) hF dX4_in_10 (by decide) ?_
      refine fV_goto (tgt := 15) hF dX4_in_11 (by decide) ?_
      exact fV_iret hF hE.s (by omega) hr (by decide) dX4_in_15 ⟨_, rfl, rfl, rfl, h⟩
set_option maxRecDepth 100000 in
set_option maxHeartbeats 4000000 in
theorem mc_X4_goesOn {l : Launch} (hfl : l.stackTraces = false) {G : fG} {S : fMS} {n : Nat} {o : Nat} {p1 : Int32} {post : Int32 → fMS → Nat → Prop} (h : wp_X4_goesOn S n o p1 post) : fCM l yX4_goesOn (.code yX4_goesOn cX4_goesOn 2 (some .boolean)) 1 G [(aR (some o)), (aI p1)] S n (fPI post) := by
  refine fCM_of hfl (by decide) (by intro v hv; simp only [List.mem_cons, List.not_mem_nil, or_false] at hv; rcases hv with rfl | rfl <;> rfl) (Nat.le_of_ble_eq_true rfl) (fun F hF hxn hl hG hr hin hE => ?_)
  subst hl hG
  have hlv : 1 ≤ 1 := Nat.le_refl _
  show fV F S n 0 [some (aR (some o)), some (aI p1)] []
  unfold wp_X4_goesOn at h
  refine fV_aload_n hF dX4_goesOn_0 rfl rfl ?_
  refine fV_iload_n hF dX4_goesOn_1 rfl rfl ?_
  obtain ⟨hA1, h⟩ := h
  refine fV_putI (k := 5) (i := 0) hF fK5 tyX4_ok nmX4 rfl hA1 (by decide) rfl fw_1155 (Or.inl rfl) (Or.inl rfl) rfl rfl dX4_goesOn_2 ?_
  refine fV_iload_n hF dX4_goesOn_5 rfl rfl ?_
  refine fV_if_ne (tgt := 13) hF dX4_goesOn_6 (by decide) (fun c2 => ?_) (fun c2 => ?_)
  · have h := h.1 c2
    refine fV_iconst (v := 0) hF dX4_goesOn_13 (by decide) ?_
    exact fV_iret hF hE.s (by omega) hr (by decide) dX4_goesOn_14 ⟨_, rfl, h⟩
  · have h := h.2 c2
    refine fV_iconst (v := 1) hF dX4_goesOn_9 (by decide) ?_
    refine fV_goto (tgt := 14) hF dX4_goesOn_10 (by decide) ?_
    exact fV_iret hF hE.s (by omega) hr (by decide) dX4_goesOn_14 ⟨_, rfl, h⟩
set_option maxRecDepth 100000 in
set_option maxHeartbeats 4000000 in
theorem mc_X4_isTeam {l : Launch} (hfl : l.stackTraces = false) {G : fG} {S : fMS} {n : Nat} {o : Nat} {p1 : Int32} {post : Int32 → Prop} (h : wp_X4_isTeam S o p1 post) : fCM l yX4_isTeam (.code yX4_isTeam cX4_isTeam 2 (some .boolean)) 2 G [(aR (some o)), (aI p1)] S n (fPI (fun x S' n' => S = S' ∧ n = n' ∧ post x)) := by
  refine fCM_of hfl (by decide) (by intro v hv; simp only [List.mem_cons, List.not_mem_nil, or_false] at hv; rcases hv with rfl | rfl <;> rfl) (Nat.le_of_ble_eq_true rfl) (fun F hF hxn hl hG hr hin hE => ?_)
  subst hl hG
  have hlv : 2 ≤ 2 := Nat.le_refl _
  show fV F S n 0 [some (aR (some o)), some (aI p1)] []
  unfold wp_X4_isTeam at h
  refine fV_iload_n hF dX4_isTeam_0 rfl rfl ?_
  refine fV_iconst (v := 0) hF dX4_isTeam_1 (by decide) ?_
  refine fV_aload_n hF dX4_isTeam_2 rfl rfl ?_
  obtain ⟨hA1, h⟩ := h
  refine fV_getI (k := 5) (i := 4) hF fK5 rfl hA1 (by decide) fw_1159 (Or.inl rfl) rfl dX4_isTeam_3 ?_
  refine fV_iconst (v := 1) hF dX4_isTeam_6 (by decide) ?_
  refine fV_isub hF dX4_isTeam_7 ?_
  refine fV_callS (As := [(aI p1), (aI (0 : Int32)), (aI ((sI S o 4) - (1 : Int32)))]) hF (mc_X4_in hF.2.2.2.2.2.2.2.2.1 h) (by omega) fw_1272 fw_1270 fw_1271 fw_10 ⟨by decide, by decide, by decide +kernel⟩ (na := 3) rfl (by decide) (Nat.le_of_ble_eq_true rfl) dX4_isTeam_8 rfl (fun rv S9 n9 hp => ?_)
  obtain ⟨v2, rfl, rfl, rfl, h⟩ := hp
  obtain ⟨hnr3, h⟩ := h
  exact fV_iret hF hE.s (by omega) hr hnr3 dX4_isTeam_11 ⟨_, rfl, rfl, rfl, h⟩
set_option maxRecDepth 100000 in
set_option maxHeartbeats 4000000 in
theorem mB_X4_childrenOf_4 {F : fX} {lv : Nat} (hlv : 1 ≤ lv) (hF : fOk F cX4_childrenOf RX4 lv) (hxn : xn F = 4) (hr : (xM F).sig.returnType = (some .int)) {S : fMS} {n : Nat} {post : Int32 → Prop} {o : Nat} {p1 : Int32} (hE : fEnd F lv (fPI (fun x S' n' => S = S' ∧ n = n' ∧ post x))) : ∀ (f : Nat) (x2 : Int32) (x3 : Int32) (h : wB_X4_childrenOf_4 S post o p1 f x2 x3), fV F S n 4 [some (aR (some o)), some (aI p1), some (aI x2), some (aI x3)] [] := by
  intro f
  induction f with
  | zero => intro _ _ h; exact h.elim
  | succ f ih =>
    intro x2 x3 h
    simp only [wB_X4_childrenOf_4] at h
    refine fV_iload_n hF dX4_childrenOf_4 rfl rfl ?_
    refine fV_aload_n hF dX4_childrenOf_5 rfl rfl ?_
    obtain ⟨hA1, h⟩ := h
    refine fV_getI (k := 5) (i := 4) hF fK5 rfl hA1 (by decide) fw_1159 (Or.inl rfl) rfl dX4_childrenOf_6 ?_
    refine fV_icmp_ge (tgt := 36) hF dX4_childrenOf_9 (by decide) (fun c2 => ?_) (fun c2 => ?_)
    · have h := h.1 c2
      refine fV_iload_n hF dX4_childrenOf_36 rfl rfl ?_
      exact fV_iret hF hE.s (by omega) hr rfl dX4_childrenOf_37 ⟨_, rfl, rfl, rfl, h⟩
    · have h := h.2 c2
      refine fV_iload_n hF dX4_childrenOf_12 rfl rfl ?_
      refine fV_aload_n hF dX4_childrenOf_13 rfl rfl ?_
      refine fV_getR (k := 5) (i := 5) hF fK5 rfl hA1 (by decide) fw_1160 (Or.inl rfl) rfl dX4_childrenOf_14 ?_
      refine fV_iload_n hF dX4_childrenOf_17 rfl rfl ?_
      obtain ⟨a3, e4, hA5, h⟩ := h
      obtain ⟨hix6, h⟩ := h
      refine fV_iald hF e4 hA5 hix6 dX4_childrenOf_18 ?_
      refine fV_iload_n hF dX4_childrenOf_19 rfl rfl ?_
      refine fV_icmp_ne (tgt := 27) hF dX4_childrenOf_20 (by decide) (fun c7 => ?_) (fun c7 => ?_)
      · have h := h.1 c7
        refine fV_iconst (v := 0) hF dX4_childrenOf_27 (by decide) ?_
        refine fV_iadd hF dX4_childrenOf_28 ?_
        refine fV_istore_n hF (fun y => [some (aR (some o)), some (aI p1), some (aI y), some (aI x3)]) dX4_childrenOf_29 rfl (by rw [hxn]; decide) rfl (fun _ => rfl) (fun v8 ev8 => ?_)
        have h := h v8 ev8
        refine fV_iinc (v := 1) hF (fun y => [some (aR (some o)), some (aI p1), some (aI v8), some (aI y)]) dX4_childrenOf_30 rfl (by decide) (by rw [hxn]; decide) rfl (fun _ => rfl) (fun v9 ev9 => ?_)
        have h := h v9 ev9
        refine fV_goto (tgt := 4) hF dX4_childrenOf_33 (by decide) ?_
        refine fV.sub (l' := [some (aR (some o)), some (aI p1), some (aI v8), some (aI v9)]) ⟨rfl, ⟨rfl, ⟨rfl, ⟨rfl, trivial⟩⟩⟩⟩ ?_
        exact ih v8 v9 h
      · have h := h.2 c7
        refine fV_iconst (v := 1) hF dX4_childrenOf_23 (by decide) ?_
        refine fV_goto (tgt := 28) hF dX4_childrenOf_24 (by decide) ?_
        refine fV_iadd hF dX4_childrenOf_28 ?_
        refine fV_istore_n hF (fun y => [some (aR (some o)), some (aI p1), some (aI y), some (aI x3)]) dX4_childrenOf_29 rfl (by rw [hxn]; decide) rfl (fun _ => rfl) (fun v10 ev10 => ?_)
        have h := h v10 ev10
        refine fV_iinc (v := 1) hF (fun y => [some (aR (some o)), some (aI p1), some (aI v10), some (aI y)]) dX4_childrenOf_30 rfl (by decide) (by rw [hxn]; decide) rfl (fun _ => rfl) (fun v11 ev11 => ?_)
        have h := h v11 ev11
        refine fV_goto (tgt := 4) hF dX4_childrenOf_33 (by decide) ?_
        refine fV.sub (l' := [some (aR (some o)), some (aI p1), some (aI v10), some (aI v11)]) ⟨rfl, ⟨rfl, ⟨rfl, ⟨rfl, trivial⟩⟩⟩⟩ ?_
        exact ih v10 v11 h
set_option maxRecDepth 100000 in
set_option maxHeartbeats 4000000 in
theorem mc_X4_childrenOf {l : Launch} (hfl : l.stackTraces = false) {G : fG} {S : fMS} {n : Nat} {o : Nat} {p1 : Int32} {post : Int32 → Prop} (h : wp_X4_childrenOf S o p1 post) : fCM l yX4_childrenOf (.code yX4_childrenOf cX4_childrenOf 4 (some .int)) 1 G [(aR (some o)), (aI p1)] S n (fPI (fun x S' n' => S = S' ∧ n = n' ∧ post x)) := by
  refine fCM_of hfl (by decide) (by intro v hv; simp only [List.mem_cons, List.not_mem_nil, or_false] at hv; rcases hv with rfl | rfl <;> rfl) (Nat.le_of_ble_eq_true rfl) (fun F hF hxn hl hG hr hin hE => ?_)
  subst hl hG
  have hlv : 1 ≤ 1 := Nat.le_refl _
  show fV F S n 0 [some (aR (some o)), some (aI p1), none, none] []
  unfold wp_X4_childrenOf at h
  refine fV_iconst (v := 0) hF dX4_childrenOf_0 (by decide) ?_
  refine fV_istore_n0 hF [some (aR (some o)), some (aI p1), some (aI (0 : Int32)), none] dX4_childrenOf_1 rfl (by rw [hxn]; decide) rfl rfl ?_
  refine fV_iconst (v := 1) hF dX4_childrenOf_2 (by decide) ?_
  refine fV_istore_n0 hF [some (aR (some o)), some (aI p1), some (aI (0 : Int32)), some (aI (1 : Int32))] dX4_childrenOf_3 rfl (by rw [hxn]; decide) rfl rfl ?_
  obtain ⟨f1, h⟩ := h
  refine fV.sub (l' := [some (aR (some o)), some (aI p1), some (aI (0 : Int32)), some (aI (1 : Int32))]) ⟨rfl, ⟨rfl, ⟨rfl, ⟨rfl, trivial⟩⟩⟩⟩ ?_
  exact mB_X4_childrenOf_4 hlv hF hxn hr hE  f1 (0 : Int32) (1 : Int32) h
set_option maxRecDepth 100000 in
set_option maxHeartbeats 4000000 in
theorem mc_X4_isLeaf {l : Launch} (hfl : l.stackTraces = false) {G : fG} {S : fMS} {n : Nat} {o : Nat} {p1 : Int32} {post : Int32 → Prop} (h : wp_X4_isLeaf S o p1 post) : fCM l yX4_isLeaf (.code yX4_isLeaf cX4_isLeaf 2 (some .boolean)) 2 G [(aR (some o)), (aI p1)] S n (fPI (fun x S' n' => S = S' ∧ n = n' ∧ post x)) := by
  refine fCM_of hfl (by decide) (by intro v hv; simp only [List.mem_cons, List.not_mem_nil, or_false] at hv; rcases hv with rfl | rfl <;> rfl) (Nat.le_of_ble_eq_true rfl) (fun F hF hxn hl hG hr hin hE => ?_)
  subst hl hG
  have hlv : 2 ≤ 2 := Nat.le_refl _
  show fV F S n 0 [some (aR (some o)), some (aI p1)] []
  unfold wp_X4_isLeaf at h
  refine fV_aload_n hF dX4_isLeaf_0 rfl rfl ?_
  refine fV_iload_n hF dX4_isLeaf_1 rfl rfl ?_
  obtain ⟨hA1, h⟩ := h
  refine fV_callV (k := 5) (As := [(aI p1)]) hF (mc_X4_childrenOf hF.2.2.2.2.2.2.2.2.1 h) fK5 rfl hA1 (by omega) fw_1296 fw_1293 fw_1295 fwp_47 fw_10 ⟨rfl, by decide, by decide, by decide +kernel⟩ (na := 1) rfl (by decide) (Nat.le_of_ble_eq_true rfl) dX4_isLeaf_2 rfl (fun rv S9 n9 hp => ?_)
  obtain ⟨v2, rfl, rfl, rfl, h⟩ := hp
  refine fV_if_ne (tgt := 12) hF dX4_isLeaf_5 (by decide) (fun c3 => ?_) (fun c3 => ?_)
  · have h := h.1 c3
    refine fV_iconst (v := 0) hF dX4_isLeaf_12 (by decide) ?_
    exact fV_iret hF hE.s (by omega) hr (by decide) dX4_isLeaf_13 ⟨_, rfl, rfl, rfl, h⟩
  · have h := h.2 c3
    refine fV_iconst (v := 1) hF dX4_isLeaf_8 (by decide) ?_
    refine fV_goto (tgt := 13) hF dX4_isLeaf_9 (by decide) ?_
    exact fV_iret hF hE.s (by omega) hr (by decide) dX4_isLeaf_13 ⟨_, rfl, rfl, rfl, h⟩
set_option maxRecDepth 100000 in
set_option maxHeartbeats 4000000 in
theorem mc_X4_leafFault {l : Launch} (hfl : l.stackTraces = false) {G : fG} {S : fMS} {n : Nat} {o : Nat} {p1 : Int32} {post : Int32 → Prop} (h : wp_X4_leafFault S o p1 post) : fCM l yX4_leafFault (.code yX4_leafFault cX4_leafFault 2 (some .int)) 3 G [(aR (some o)), (aI p1)] S n (fPI (fun x S' n' => S = S' ∧ n = n' ∧ post x)) := by
  refine fCM_of hfl (by decide) (by intro v hv; simp only [List.mem_cons, List.not_mem_nil, or_false] at hv; rcases hv with rfl | rfl <;> rfl) (Nat.le_of_ble_eq_true rfl) (fun F hF hxn hl hG hr hin hE => ?_)
  subst hl hG
  have hlv : 3 ≤ 3 := Nat.le_refl _
  show fV F S n 0 [some (aR (some o)), some (aI p1)] []
  unfold wp_X4_leafFault at h
  refine fV_aload_n hF dX4_leafFault_0 rfl rfl ?_
  refine fV_iload_n hF dX4_leafFault_1 rfl rfl ?_
  obtain ⟨hA1, h⟩ := h
  refine fV_callV (k := 5) (As := [(aI p1)]) hF (mc_X4_isTeam hF.2.2.2.2.2.2.2.2.1 h) fK5 rfl hA1 (by omega) fw_1269 fw_1266 fw_1268 fwp_41 fw_10 ⟨rfl, by decide, by decide, by decide +kernel⟩ (na := 1) rfl (by decide) (Nat.le_of_ble_eq_true rfl) dX4_leafFault_2 rfl (fun rv S9 n9 hp => ?_)
  obtain ⟨v2, rfl, rfl, rfl, h⟩ := hp
  refine fV_if_ne (tgt := 12) hF dX4_leafFault_5 (by decide) (fun c3 => ?_) (fun c3 => ?_)
  · have h := h.1 c3
    refine fV_aload_n hF dX4_leafFault_12 rfl rfl ?_
    refine fV_iload_n hF dX4_leafFault_13 rfl rfl ?_
    refine fV_callV (k := 5) (As := [(aI p1)]) hF (mc_X4_isLeaf hF.2.2.2.2.2.2.2.2.1 h) fK5 rfl hA1 (by omega) fw_1292 fw_1289 fw_1291 fwp_46 fw_10 ⟨rfl, by decide, by decide, by decide +kernel⟩ (na := 1) rfl (by decide) (Nat.le_of_ble_eq_true rfl) dX4_leafFault_14 rfl (fun rv S9 n9 hp => ?_)
    obtain ⟨v4, rfl, rfl, rfl, h⟩ := hp
    refine fV_if_ne (tgt := 24) hF dX4_leafFault_17 (by decide) (fun c5 => ?_) (fun c5 => ?_)
    · have h := h.1 c5
      refine fV_iconst (v := 0) hF dX4_leafFault_24 (by decide) ?_
      exact fV_iret hF hE.s (by omega) hr rfl dX4_leafFault_25 ⟨_, rfl, rfl, rfl, h⟩
    · have h := h.2 c5
      refine fV_iconst (v := 2) hF dX4_leafFault_20 (by decide) ?_
      refine fV_goto (tgt := 25) hF dX4_leafFault_21 (by decide) ?_
      exact fV_iret hF hE.s (by omega) hr rfl dX4_leafFault_25 ⟨_, rfl, rfl, rfl, h⟩
  · have h := h.2 c3
    refine fV_iconst (v := 1) hF dX4_leafFault_8 (by decide) ?_
    refine fV_goto (tgt := 25) hF dX4_leafFault_9 (by decide) ?_
    exact fV_iret hF hE.s (by omega) hr rfl dX4_leafFault_25 ⟨_, rfl, rfl, rfl, h⟩
set_option maxRecDepth 100000 in
set_option maxHeartbeats 4000000 in
theorem mB_X4_demandOf_28 {F : fX} {lv : Nat} (hlv : 3 ≤ lv) (hF : fOk F cX4_demandOf RX4 lv) (hxn : xn F = 4) (hr : (xM F).sig.returnType = (some .int)) {S : fMS} {n : Nat} {post : Int32 → Prop} {Rc : fMS → Nat → Int32 → (Int32 → Prop) → Prop} {o : Nat} {p1 : Int32} (hE : fEnd F lv (fPI (fun x S' n' => S = S' ∧ n = n' ∧ post x))) {lr : Nat} (hlr : lr + 1 ≤ lv) (ihd : ∀ {n : Nat} {S : fMS} {o : Nat} {p1 : Int32} {post : Int32 → Prop}, Rc S o p1 post → fCM (xl F) yX4_demandOf (.code yX4_demandOf cX4_demandOf 4 (some .int)) lr (xG F) [(aR (some o)), (aI p1)] S n (fPI (fun x S' n' => S = S' ∧ n = n' ∧ post x))) : ∀ (f : Nat) (x2 : Int32) (x3 : Int32) (h : wB_X4_demandOf_28 S post Rc o p1 f x2 x3), fV F S n 28 [some (aR (some o)), some (aI p1), some (aI x2), some (aI x3)] [] := by
  intro f
  induction f with
  | zero => intro _ _ h; exact h.elim
  | succ f ih =>
    intro x2 x3 h
    simp only [wB_X4_demandOf_28] at h
    refine fV_iload_n hF dX4_demandOf_28 rfl rfl ?_
    refine fV_aload_n hF dX4_demandOf_29 rfl rfl ?_
    obtain ⟨hA1, h⟩ := h
    refine fV_getI (k := 5) (i := 4) hF fK5 rfl hA1 (by decide) fw_1159 (Or.inl rfl) rfl dX4_demandOf_30 ?_
    refine fV_icmp_ge (tgt := 64) hF dX4_demandOf_33 (by decide) (fun c2 => ?_) (fun c2 => ?_)
    · have h := h.1 c2
      refine fV_iload_n hF dX4_demandOf_64 rfl rfl ?_
      refine fV_if_le (tgt := 87) hF dX4_demandOf_65 (by decide) (fun c3 => ?_) (fun c3 => ?_)
      · have h := h.1 c3
        refine fV_iload_n hF dX4_demandOf_87 rfl rfl ?_
        exact fV_iret hF hE.s (by omega) hr rfl dX4_demandOf_88 ⟨_, rfl, rfl, rfl, h⟩
      · have h := h.2 c3
        refine fV_iload_n hF dX4_demandOf_68 rfl rfl ?_
        refine fV_aload_n hF dX4_demandOf_69 rfl rfl ?_
        refine fV_getR (k := 5) (i := 7) hF fK5 rfl hA1 (by decide) fw_1162 (Or.inl rfl) rfl dX4_demandOf_70 ?_
        refine fV_iload_n hF dX4_demandOf_73 rfl rfl ?_
        obtain ⟨a4, e5, hA6, h⟩ := h
        obtain ⟨hix7, h⟩ := h
        refine fV_iald hF e5 hA6 hix7 dX4_demandOf_74 ?_
        refine fV_icmp_le (tgt := 87) hF dX4_demandOf_75 (by decide) (fun c8 => ?_) (fun c8 => ?_)
        · have h := h.1 c8
          refine fV_iload_n hF dX4_demandOf_87 rfl rfl ?_
          exact fV_iret hF hE.s (by omega) hr rfl dX4_demandOf_88 ⟨_, rfl, rfl, rfl, h⟩
        · have h := h.2 c8
          refine fV_aload_n hF dX4_demandOf_78 rfl rfl ?_
          refine fV_getR (k := 5) (i := 7) hF fK5 rfl hA1 (by decide) fw_1162 (Or.inl rfl) rfl dX4_demandOf_79 ?_
          refine fV_iload_n hF dX4_demandOf_82 rfl rfl ?_
          obtain ⟨hix9, h⟩ := h
          refine fV_iald hF e5 hA6 hix9 dX4_demandOf_83 ?_
          refine fV_goto (tgt := 88) hF dX4_demandOf_84 (by decide) ?_
          exact fV_iret hF hE.s (by omega) hr rfl dX4_demandOf_88 ⟨_, rfl, rfl, rfl, h⟩
    · have h := h.2 c2
      refine fV_iload_n hF dX4_demandOf_36 rfl rfl ?_
      refine fV_aload_n hF dX4_demandOf_37 rfl rfl ?_
      refine fV_getR (k := 5) (i := 5) hF fK5 rfl hA1 (by decide) fw_1160 (Or.inl rfl) rfl dX4_demandOf_38 ?_
      refine fV_iload_n hF dX4_demandOf_41 rfl rfl ?_
      obtain ⟨a10, e11, hA12, h⟩ := h
      obtain ⟨hix13, h⟩ := h
      refine fV_iald hF e11 hA12 hix13 dX4_demandOf_42 ?_
      refine fV_iload_n hF dX4_demandOf_43 rfl rfl ?_
      refine fV_icmp_ne (tgt := 55) hF dX4_demandOf_44 (by decide) (fun c14 => ?_) (fun c14 => ?_)
      · have h := h.1 c14
        refine fV_iconst (v := 0) hF dX4_demandOf_55 (by decide) ?_
        refine fV_iadd hF dX4_demandOf_56 ?_
        refine fV_istore_n hF (fun y => [some (aR (some o)), some (aI p1), some (aI y), some (aI x3)]) dX4_demandOf_57 rfl (by rw [hxn]; decide) rfl (fun _ => rfl) (fun v15 ev15 => ?_)
        have h := h v15 ev15
        refine fV_iinc (v := 1) hF (fun y => [some (aR (some o)), some (aI p1), some (aI v15), some (aI y)]) dX4_demandOf_58 rfl (by decide) (by rw [hxn]; decide) rfl (fun _ => rfl) (fun v16 ev16 => ?_)
        have h := h v16 ev16
        refine fV_goto (tgt := 28) hF dX4_demandOf_61 (by decide) ?_
        refine fV.sub (l' := [some (aR (some o)), some (aI p1), some (aI v15), some (aI v16)]) ⟨rfl, ⟨rfl, ⟨rfl, ⟨rfl, trivial⟩⟩⟩⟩ ?_
        exact ih v15 v16 h
      · have h := h.2 c14
        refine fV_aload_n hF dX4_demandOf_47 rfl rfl ?_
        refine fV_iload_n hF dX4_demandOf_48 rfl rfl ?_
        refine fV_callV (k := 5) (As := [(aI x3)]) hF (ihd h) fK5 rfl hA1 hlr fw_1288 fw_1285 fw_1287 fwp_45 fw_10 ⟨rfl, by decide, by decide, by decide +kernel⟩ (na := 1) rfl (by decide) (Nat.le_of_ble_eq_true rfl) dX4_demandOf_49 rfl (fun rv S9 n9 hp => ?_)
        obtain ⟨v17, rfl, rfl, rfl, h⟩ := hp
        refine fV_goto (tgt := 56) hF dX4_demandOf_52 (by decide) ?_
        refine fV_iadd hF dX4_demandOf_56 ?_
        refine fV_istore_n hF (fun y => [some (aR (some o)), some (aI p1), some (aI y), some (aI x3)]) dX4_demandOf_57 rfl (by rw [hxn]; decide) rfl (fun _ => rfl) (fun v18 ev18 => ?_)
        have h := h v18 ev18
        refine fV_iinc (v := 1) hF (fun y => [some (aR (some o)), some (aI p1), some (aI v18), some (aI y)]) dX4_demandOf_58 rfl (by decide) (by rw [hxn]; decide) rfl (fun _ => rfl) (fun v19 ev19 => ?_)
        have h := h v19 ev19
        refine fV_goto (tgt := 28) hF dX4_demandOf_61 (by decide) ?_
        refine fV.sub (l' := [some (aR (some o)), some (aI p1), some (aI v18), some (aI v19)]) ⟨rfl, ⟨rfl, ⟨rfl, ⟨rfl, trivial⟩⟩⟩⟩ ?_
        exact ih v18 v19 h
set_option maxRecDepth 100000 in
set_option maxHeartbeats 4000000 in
theorem mc_X4_demandOf : ∀ (d : Nat) {l : Launch} (hfl : l.stackTraces = false) {G : fG} {S : fMS} {n : Nat} {o : Nat} {p1 : Int32} {post : Int32 → Prop} (h : wp_X4_demandOf d S o p1 post), fCM l yX4_demandOf (.code yX4_demandOf cX4_demandOf 4 (some .int)) (3 + d) G [(aR (some o)), (aI p1)] S n (fPI (fun x S' n' => S = S' ∧ n = n' ∧ post x)) := by
  intro d
  induction d with
  | zero => intro l hfl G S n o p1 post h; exact h.elim
  | succ d ihd0 =>
    intro l hfl G S n o p1 post h
    refine fCM_of hfl (by decide) (by intro v hv; simp only [List.mem_cons, List.not_mem_nil, or_false] at hv; rcases hv with rfl | rfl <;> rfl) (Nat.le_of_ble_eq_true rfl) (fun F hF hxn hl hG hr hin hE => ?_)
    subst hl hG
    have hlv : 3 ≤ 3 + (d + 1) := by omega
    have hlr : 3 + d + 1 ≤ 3 + (d + 1) := by omega
    have ihd : ∀ {n : Nat} {S : fMS} {o : Nat} {p1 : Int32} {post : Int32 → Prop}, wp_X4_demandOf d S o p1 post → fCM (xl F) yX4_demandOf (.code yX4_demandOf cX4_demandOf 4 (some .int)) (3 + d) (xG F) [(aR (some o)), (aI p1)] S n (fPI (fun x S' n' => S = S' ∧ n = n' ∧ post x)) := fun h => ihd0 hF.2.2.2.2.2.2.2.2.1 h
    show fV F S n 0 [some (aR (some o)), some (aI p1), none, none] []
    simp only [wp_X4_demandOf] at h
    refine fV_aload_n hF dX4_demandOf_0 rfl rfl ?_
    refine fV_iload_n hF dX4_demandOf_1 rfl rfl ?_
    obtain ⟨hA1, h⟩ := h
    refine fV_callV (k := 5) (As := [(aI p1)]) hF (mc_X4_isLeaf hF.2.2.2.2.2.2.2.2.1 h) fK5 rfl hA1 (by omega) fw_1292 fw_1289 fw_1291 fwp_46 fw_10 ⟨rfl, by decide, by decide, by decide +kernel⟩ (na := 1) rfl (by decide) (Nat.le_of_ble_eq_true rfl) dX4_demandOf_2 rfl (fun rv S9 n9 hp => ?_)
    obtain ⟨v2, rfl, rfl, rfl, h⟩ := hp
    refine fV_if_eq (tgt := 24) hF dX4_demandOf_5 (by decide) (fun c3 => ?_) (fun c3 => ?_)
    · have h := h.1 c3
      refine fV_iconst (v := 0) hF dX4_demandOf_24 (by decide) ?_
      refine fV_istore_n0 hF [some (aR (some o)), some (aI p1), some (aI (0 : Int32)), none] dX4_demandOf_25 rfl (by rw [hxn]; decide) rfl rfl ?_
      refine fV_iconst (v := 1) hF dX4_demandOf_26 (by decide) ?_
      refine fV_istore_n0 hF [some (aR (some o)), some (aI p1), some (aI (0 : Int32)), some (aI (1 : Int32))] dX4_demandOf_27 rfl (by rw [hxn]; decide) rfl rfl ?_
      obtain ⟨f1, h⟩ := h
      refine fV.sub (l' := [some (aR (some o)), some (aI p1), some (aI (0 : Int32)), some (aI (1 : Int32))]) ⟨rfl, ⟨rfl, ⟨rfl, ⟨rfl, trivial⟩⟩⟩⟩ ?_
      exact mB_X4_demandOf_28 hlv hF hxn hr hE hlr ihd  f1 (0 : Int32) (1 : Int32) h
    · have h := h.2 c3
      refine fV_aload_n hF dX4_demandOf_8 rfl rfl ?_
      refine fV_getR (k := 5) (i := 11) hF fK5 rfl hA1 (by decide) fw_1166 (Or.inl rfl) rfl dX4_demandOf_9 ?_
      refine fV_iload_n hF dX4_demandOf_12 rfl rfl ?_
      obtain ⟨a4, e5, hA6, h⟩ := h
      obtain ⟨hix7, h⟩ := h
      refine fV_iald hF e5 hA6 hix7 dX4_demandOf_13 ?_
      refine fV_aload_n hF dX4_demandOf_14 rfl rfl ?_
      refine fV_getR (k := 5) (i := 10) hF fK5 rfl hA1 (by decide) fw_1165 (Or.inl rfl) rfl dX4_demandOf_15 ?_
      refine fV_iload_n hF dX4_demandOf_18 rfl rfl ?_
      obtain ⟨a8, e9, hA10, h⟩ := h
      obtain ⟨hix11, h⟩ := h
      refine fV_iald hF e9 hA10 hix11 dX4_demandOf_19 ?_
      refine fV_iadd hF dX4_demandOf_20 ?_
      refine fV_goto (tgt := 25) hF dX4_demandOf_21 (by decide) ?_
      refine fV_istore_n hF (fun y => [some (aR (some o)), some (aI p1), some (aI y), none]) dX4_demandOf_25 rfl (by rw [hxn]; decide) rfl (fun _ => rfl) (fun v12 ev12 => ?_)
      have h := h v12 ev12
      refine fV_iconst (v := 1) hF dX4_demandOf_26 (by decide) ?_
      refine fV_istore_n0 hF [some (aR (some o)), some (aI p1), some (aI v12), some (aI (1 : Int32))] dX4_demandOf_27 rfl (by rw [hxn]; decide) rfl rfl ?_
      obtain ⟨f1, h⟩ := h
      refine fV.sub (l' := [some (aR (some o)), some (aI p1), some (aI v12), some (aI (1 : Int32))]) ⟨rfl, ⟨rfl, ⟨rfl, ⟨rfl, trivial⟩⟩⟩⟩ ?_
      exact mB_X4_demandOf_28 hlv hF hxn hr hE hlr ihd  f1 v12 (1 : Int32) h
set_option maxRecDepth 100000 in
set_option maxHeartbeats 4000000 in
theorem mB_X4_gives_17 {F : fX} {lv : Nat} (hlv : 1 ≤ lv) (hF : fOk F cX4_gives RX4 lv) (hxn : xn F = 5) (hr : (xM F).sig.returnType = none) {post : fMS → Nat → Prop} {K2 : fMS → Nat → Int32 → Prop} {o : Nat} {p1 : Int32} (hE : fEnd F lv (fPV post)) (hK2 : ∀ (S : fMS) (n : Nat) (x2 : Int32), K2 S n x2 → fV F S n 2 [some (aR (some o)), some (aI p1), some (aI x2), none, none] []) : ∀ (f : Nat) (S : fMS) (n : Nat) (x2 : Int32) (x3 : Int32) (x4 : Int32) (h : wB_X4_gives_17 post K2 o p1 f S n x2 x3 x4), fV F S n 17 [some (aR (some o)), some (aI p1), some (aI x2), some (aI x3), some (aI x4)] [] := by
  intro f
  induction f with
  | zero => intro _ _ _ _ _ h; exact h.elim
  | succ f ih =>
    intro S n x2 x3 x4 h
    simp only [wB_X4_gives_17] at h
    refine fV_iload hF dX4_gives_17 rfl ?_
    refine fV_aload_n hF dX4_gives_19 rfl rfl ?_
    obtain ⟨hA1, h⟩ := h
    refine fV_getI (k := 5) (i := 4) hF fK5 rfl hA1 (by decide) fw_1159 (Or.inl rfl) rfl dX4_gives_20 ?_
    refine fV_icmp_ge (tgt := 99) hF dX4_gives_23 (by decide) (fun c2 => ?_) (fun c2 => ?_)
    · have h := h.1 c2
      refine fV_iload_n hF dX4_gives_99 rfl rfl ?_
      refine fV_iconst (v := -1) hF dX4_gives_100 (by decide) ?_
      refine fV_icmp_eq (tgt := 114) hF dX4_gives_101 (by decide) (fun c3 => ?_) (fun c3 => ?_)
      · have h := h.1 c3
        refine fV_iinc (v := 1) hF (fun y => [some (aR (some o)), some (aI p1), some (aI y), some (aI x3), some (aI x4)]) dX4_gives_114 rfl (by decide) (by rw [hxn]; decide) rfl (fun _ => rfl) (fun v4 ev4 => ?_)
        have h := h v4 ev4
        refine fV_goto (tgt := 2) hF dX4_gives_117 (by decide) ?_
        refine fV.sub (l' := [some (aR (some o)), some (aI p1), some (aI v4), none, none]) ⟨rfl, ⟨rfl, ⟨rfl, trivial⟩⟩⟩ ?_
        exact hK2 S n v4 h
      · have h := h.2 c3
        refine fV_aload_n hF dX4_gives_104 rfl rfl ?_
        refine fV_getR (k := 5) (i := 28) hF fK5 rfl hA1 (by decide) fw_1183 (Or.inl rfl) rfl dX4_gives_105 ?_
        refine fV_iload_n hF dX4_gives_108 rfl rfl ?_
        refine fV_dup2 hF dX4_gives_109 rfl rfl ?_
        obtain ⟨a5, e6, hA7, h⟩ := h
        obtain ⟨hix8, h⟩ := h
        refine fV_iald hF e6 hA7 hix8 dX4_gives_110 ?_
        refine fV_iconst (v := 1) hF dX4_gives_111 (by decide) ?_
        refine fV_iadd hF dX4_gives_112 ?_
        obtain ⟨hix9, h⟩ := h
        refine fV_iast hF e6 hA7 hix9 dX4_gives_113 ?_
        refine fV_iinc (v := 1) hF (fun y => [some (aR (some o)), some (aI p1), some (aI y), some (aI x3), some (aI x4)]) dX4_gives_114 rfl (by decide) (by rw [hxn]; decide) rfl (fun _ => rfl) (fun v10 ev10 => ?_)
        have h := h v10 ev10
        refine fV_goto (tgt := 2) hF dX4_gives_117 (by decide) ?_
        refine fV.sub (l' := [some (aR (some o)), some (aI p1), some (aI v10), none, none]) ⟨rfl, ⟨rfl, ⟨rfl, trivial⟩⟩⟩ ?_
        exact hK2 (wI S a5 (Int32.toNatClampNeg x3) ((sI S a5 (Int32.toNatClampNeg x3)) + (1 : Int32))) n v10 h
    · have h := h.2 c2
      refine fV_aload_n hF dX4_gives_26 rfl rfl ?_
      refine fV_getR (k := 5) (i := 5) hF fK5 rfl hA1 (by decide) fw_1160 (Or.inl rfl) rfl dX4_gives_27 ?_
      refine fV_iload hF dX4_gives_30 rfl ?_
      obtain ⟨a11, e12, hA13, h⟩ := h
      obtain ⟨hix14, h⟩ := h
      refine fV_iald hF e12 hA13 hix14 dX4_gives_32 ?_
      refine fV_iload_n hF dX4_gives_33 rfl rfl ?_
      refine fV_icmp_ne (tgt := 93) hF dX4_gives_34 (by decide) (fun c15 => ?_) (fun c15 => ?_)
      · have h := h.1 c15
        refine fV_iinc (v := 1) hF (fun y => [some (aR (some o)), some (aI p1), some (aI x2), some (aI x3), some (aI y)]) dX4_gives_93 rfl (by decide) (by rw [hxn]; decide) rfl (fun _ => rfl) (fun v16 ev16 => ?_)
        have h := h v16 ev16
        refine fV_goto (tgt := 17) hF dX4_gives_96 (by decide) ?_
        refine fV.sub (l' := [some (aR (some o)), some (aI p1), some (aI x2), some (aI x3), some (aI v16)]) ⟨rfl, ⟨rfl, ⟨rfl, ⟨rfl, ⟨rfl, trivial⟩⟩⟩⟩⟩ ?_
        exact ih S n x2 x3 v16 h
      · have h := h.2 c15
        refine fV_aload_n hF dX4_gives_37 rfl rfl ?_
        refine fV_getR (k := 5) (i := 28) hF fK5 rfl hA1 (by decide) fw_1183 (Or.inl rfl) rfl dX4_gives_38 ?_
        refine fV_iload hF dX4_gives_41 rfl ?_
        obtain ⟨a17, e18, hA19, h⟩ := h
        obtain ⟨hix20, h⟩ := h
        refine fV_iald hF e18 hA19 hix20 dX4_gives_43 ?_
        refine fV_aload_n hF dX4_gives_44 rfl rfl ?_
        refine fV_getR (k := 5) (i := 27) hF fK5 rfl hA1 (by decide) fw_1182 (Or.inl rfl) rfl dX4_gives_45 ?_
        refine fV_iload hF dX4_gives_48 rfl ?_
        obtain ⟨a21, e22, hA23, h⟩ := h
        obtain ⟨hix24, h⟩ := h
        refine fV_iald hF e22 hA23 hix24 dX4_gives_50 ?_
        refine fV_icmp_ge (tgt := 93) hF dX4_gives_51 (by decide) (fun c25 => ?_) (fun c25 => ?_)
        · have h := h.1 c25
          refine fV_iinc (v := 1) hF (fun y => [some (aR (some o)), some (aI p1), some (aI x2), some (aI x3), some (aI y)]) dX4_gives_93 rfl (by decide) (by rw [hxn]; decide) rfl (fun _ => rfl) (fun v26 ev26 => ?_)
          have h := h v26 ev26
          refine fV_goto (tgt := 17) hF dX4_gives_96 (by decide) ?_
          refine fV.sub (l' := [some (aR (some o)), some (aI p1), some (aI x2), some (aI x3), some (aI v26)]) ⟨rfl, ⟨rfl, ⟨rfl, ⟨rfl, ⟨rfl, trivial⟩⟩⟩⟩⟩ ?_
          exact ih S n x2 x3 v26 h
        · have h := h.2 c25
          refine fV_iload_n hF dX4_gives_54 rfl rfl ?_
          refine fV_iconst (v := -1) hF dX4_gives_55 (by decide) ?_
          refine fV_icmp_eq (tgt := 90) hF dX4_gives_56 (by decide) (fun c27 => ?_) (fun c27 => ?_)
          · have h := h.1 c27
            refine fV_iload hF dX4_gives_90 rfl ?_
            refine fV_istore_n0 hF [some (aR (some o)), some (aI p1), some (aI x2), some (aI x4), some (aI x4)] dX4_gives_92 rfl (by rw [hxn]; decide) rfl rfl ?_
            refine fV_iinc (v := 1) hF (fun y => [some (aR (some o)), some (aI p1), some (aI x2), some (aI x4), some (aI y)]) dX4_gives_93 rfl (by decide) (by rw [hxn]; decide) rfl (fun _ => rfl) (fun v28 ev28 => ?_)
            have h := h v28 ev28
            refine fV_goto (tgt := 17) hF dX4_gives_96 (by decide) ?_
            refine fV.sub (l' := [some (aR (some o)), some (aI p1), some (aI x2), some (aI x4), some (aI v28)]) ⟨rfl, ⟨rfl, ⟨rfl, ⟨rfl, ⟨rfl, trivial⟩⟩⟩⟩⟩ ?_
            exact ih S n x2 x4 v28 h
          · have h := h.2 c27
            refine fV_aload_n hF dX4_gives_59 rfl rfl ?_
            refine fV_getR (k := 5) (i := 28) hF fK5 rfl hA1 (by decide) fw_1183 (Or.inl rfl) rfl dX4_gives_60 ?_
            refine fV_iload hF dX4_gives_63 rfl ?_
            obtain ⟨hix29, h⟩ := h
            refine fV_iald hF e18 hA19 hix29 dX4_gives_65 ?_
            refine fV_aload_n hF dX4_gives_66 rfl rfl ?_
            refine fV_getR (k := 5) (i := 6) hF fK5 rfl hA1 (by decide) fw_1161 (Or.inl rfl) rfl dX4_gives_67 ?_
            refine fV_iload_n hF dX4_gives_70 rfl rfl ?_
            obtain ⟨a30, e31, hA32, h⟩ := h
            obtain ⟨hix33, h⟩ := h
            refine fV_iald hF e31 hA32 hix33 dX4_gives_71 ?_
            refine fV_imul hF dX4_gives_72 ?_
            refine fV_aload_n hF dX4_gives_73 rfl rfl ?_
            refine fV_getR (k := 5) (i := 28) hF fK5 rfl hA1 (by decide) fw_1183 (Or.inl rfl) rfl dX4_gives_74 ?_
            refine fV_iload_n hF dX4_gives_77 rfl rfl ?_
            obtain ⟨hix34, h⟩ := h
            refine fV_iald hF e18 hA19 hix34 dX4_gives_78 ?_
            refine fV_aload_n hF dX4_gives_79 rfl rfl ?_
            refine fV_getR (k := 5) (i := 6) hF fK5 rfl hA1 (by decide) fw_1161 (Or.inl rfl) rfl dX4_gives_80 ?_
            refine fV_iload hF dX4_gives_83 rfl ?_
            obtain ⟨hix35, h⟩ := h
            refine fV_iald hF e31 hA32 hix35 dX4_gives_85 ?_
            refine fV_imul hF dX4_gives_86 ?_
            refine fV_icmp_ge (tgt := 93) hF dX4_gives_87 (by decide) (fun c36 => ?_) (fun c36 => ?_)
            · have h := h.1 c36
              refine fV_iinc (v := 1) hF (fun y => [some (aR (some o)), some (aI p1), some (aI x2), some (aI x3), some (aI y)]) dX4_gives_93 rfl (by decide) (by rw [hxn]; decide) rfl (fun _ => rfl) (fun v37 ev37 => ?_)
              have h := h v37 ev37
              refine fV_goto (tgt := 17) hF dX4_gives_96 (by decide) ?_
              refine fV.sub (l' := [some (aR (some o)), some (aI p1), some (aI x2), some (aI x3), some (aI v37)]) ⟨rfl, ⟨rfl, ⟨rfl, ⟨rfl, ⟨rfl, trivial⟩⟩⟩⟩⟩ ?_
              exact ih S n x2 x3 v37 h
            · have h := h.2 c36
              refine fV_iload hF dX4_gives_90 rfl ?_
              refine fV_istore_n0 hF [some (aR (some o)), some (aI p1), some (aI x2), some (aI x4), some (aI x4)] dX4_gives_92 rfl (by rw [hxn]; decide) rfl rfl ?_
              refine fV_iinc (v := 1) hF (fun y => [some (aR (some o)), some (aI p1), some (aI x2), some (aI x4), some (aI y)]) dX4_gives_93 rfl (by decide) (by rw [hxn]; decide) rfl (fun _ => rfl) (fun v38 ev38 => ?_)
              have h := h v38 ev38
              refine fV_goto (tgt := 17) hF dX4_gives_96 (by decide) ?_
              refine fV.sub (l' := [some (aR (some o)), some (aI p1), some (aI x2), some (aI x4), some (aI v38)]) ⟨rfl, ⟨rfl, ⟨rfl, ⟨rfl, ⟨rfl, trivial⟩⟩⟩⟩⟩ ?_
              exact ih S n x2 x4 v38 h
set_option maxRecDepth 100000 in
set_option maxHeartbeats 4000000 in
theorem mB_X4_gives_2 {F : fX} {lv : Nat} (hlv : 1 ≤ lv) (hF : fOk F cX4_gives RX4 lv) (hxn : xn F = 5) (hr : (xM F).sig.returnType = none) {post : fMS → Nat → Prop} {o : Nat} {p1 : Int32} (hE : fEnd F lv (fPV post)) : ∀ (f : Nat) (S : fMS) (n : Nat) (x2 : Int32) (h : wB_X4_gives_2 post o p1 f S n x2), fV F S n 2 [some (aR (some o)), some (aI p1), some (aI x2), none, none] [] := by
  intro f
  induction f with
  | zero => intro _ _ _ h; exact h.elim
  | succ f ih =>
    intro S n x2 h
    simp only [wB_X4_gives_2] at h
    refine fV_iload_n hF dX4_gives_2 rfl rfl ?_
    refine fV_aload_n hF dX4_gives_3 rfl rfl ?_
    obtain ⟨hA1, h⟩ := h
    refine fV_getR (k := 5) (i := 28) hF fK5 rfl hA1 (by decide) fw_1183 (Or.inl rfl) rfl dX4_gives_4 ?_
    refine fV_iload_n hF dX4_gives_7 rfl rfl ?_
    obtain ⟨a2, e3, hA4, h⟩ := h
    obtain ⟨hix5, h⟩ := h
    refine fV_iald hF e3 hA4 hix5 dX4_gives_8 ?_
    refine fV_icmp_ge (tgt := 120) hF dX4_gives_9 (by decide) (fun c6 => ?_) (fun c6 => ?_)
    · have h := h.1 c6
      exact fV_vret hF hE.s (by omega) hr dX4_gives_120 ⟨rfl, h⟩
    · have h := h.2 c6
      refine fV_iconst (v := -1) hF dX4_gives_12 (by decide) ?_
      refine fV_istore_n0 hF [some (aR (some o)), some (aI p1), some (aI x2), some (aI (-1 : Int32)), none] dX4_gives_13 rfl (by rw [hxn]; decide) rfl rfl ?_
      refine fV_iconst (v := 1) hF dX4_gives_14 (by decide) ?_
      refine fV_istore0 hF [some (aR (some o)), some (aI p1), some (aI x2), some (aI (-1 : Int32)), some (aI (1 : Int32))] dX4_gives_15 (by rw [hxn]; decide) rfl rfl ?_
      obtain ⟨f1, h⟩ := h
      refine fV.sub (l' := [some (aR (some o)), some (aI p1), some (aI x2), some (aI (-1 : Int32)), some (aI (1 : Int32))]) ⟨rfl, ⟨rfl, ⟨rfl, ⟨rfl, ⟨rfl, trivial⟩⟩⟩⟩⟩ ?_
      exact mB_X4_gives_17 hlv hF hxn hr hE (fun S9 n9 z0 h9 => ih S9 n9 z0 h9) f1 S n x2 (-1 : Int32) (1 : Int32) h
set_option maxRecDepth 100000 in
set_option maxHeartbeats 4000000 in
theorem mc_X4_gives {l : Launch} (hfl : l.stackTraces = false) {G : fG} {S : fMS} {n : Nat} {o : Nat} {p1 : Int32} {post : fMS → Nat → Prop} (h : wp_X4_gives S n o p1 post) : fCM l yX4_gives (.code yX4_gives cX4_gives 5 none) 1 G [(aR (some o)), (aI p1)] S n (fPV post) := by
  refine fCM_of hfl (by decide) (by intro v hv; simp only [List.mem_cons, List.not_mem_nil, or_false] at hv; rcases hv with rfl | rfl <;> rfl) (Nat.le_of_ble_eq_true rfl) (fun F hF hxn hl hG hr hin hE => ?_)
  subst hl hG
  have hlv : 1 ≤ 1 := Nat.le_refl _
  show fV F S n 0 [some (aR (some o)), some (aI p1), none, none, none] []
  unfold wp_X4_gives at h
  refine fV_iconst (v := 0) hF dX4_gives_0 (by decide) ?_
  refine fV_istore_n0 hF [some (aR (some o)), some (aI p1), some (aI (0 : Int32)), none, none] dX4_gives_1 rfl (by rw [hxn]; decide) rfl rfl ?_
  obtain ⟨f1, h⟩ := h
  refine fV.sub (l' := [some (aR (some o)), some (aI p1), some (aI (0 : Int32)), none, none]) ⟨rfl, ⟨rfl, ⟨rfl, trivial⟩⟩⟩ ?_
  exact mB_X4_gives_2 hlv hF hxn hr hE  f1 S n (0 : Int32) h
set_option maxRecDepth 100000 in
set_option maxHeartbeats 4000000 in
theorem mB_X4_laysShares_68 {F : fX} {lv : Nat} (hlv : 15 ≤ lv) (hF : fOk F cX4_laysShares RX4 lv) (hxn : xn F = 2) (hr : (xM F).sig.returnType = none) {post : fMS → Nat → Prop} {o : Nat} (hE : fEnd F lv (fPV post)) : ∀ (f : Nat) (S : fMS) (n : Nat) (x1 : Int32) (h : wB_X4_laysShares_68 post o f S n x1), fV F S n 68 [some (aR (some o)), some (aI x1)] [] := by
  intro f
  induction f with
  | zero => intro _ _ _ h; exact h.elim
  | succ f ih =>
    intro S n x1 h
    simp only [wB_X4_laysShares_68] at h
    refine fV_iload_n hF dX4_laysShares_68 rfl rfl ?_
    refine fV_aload_n hF dX4_laysShares_69 rfl rfl ?_
    obtain ⟨hA1, h⟩ := h
    refine fV_getI (k := 5) (i := 4) hF fK5 rfl hA1 (by decide) fw_1159 (Or.inl rfl) rfl dX4_laysShares_70 ?_
    refine fV_icmp_ge (tgt := 87) hF dX4_laysShares_73 (by decide) (fun c2 => ?_) (fun c2 => ?_)
    · have h := h.1 c2
      exact fV_vret hF hE.s (by omega) hr dX4_laysShares_87 ⟨rfl, h⟩
    · have h := h.2 c2
      refine fV_aload_n hF dX4_laysShares_76 rfl rfl ?_
      refine fV_iload_n hF dX4_laysShares_77 rfl rfl ?_
      refine fV_callV (k := 5) (As := [(aI x1)]) hF (mc_X4_gives hF.2.2.2.2.2.2.2.2.1 h) fK5 rfl hA1 (by omega) fw_1300 fw_1297 fw_1299 fwp_48 fw_10 ⟨rfl, by decide, by decide, by decide +kernel⟩ (na := 1) rfl (by decide) (Nat.le_of_ble_eq_true rfl) dX4_laysShares_78 rfl (fun rv S3 n4 hp => ?_)
      obtain ⟨rfl, h⟩ := hp
      refine fV_iinc (v := 1) hF (fun y => [some (aR (some o)), some (aI y)]) dX4_laysShares_81 rfl (by decide) (by rw [hxn]; decide) rfl (fun _ => rfl) (fun v5 ev5 => ?_)
      have h := h v5 ev5
      refine fV_goto (tgt := 68) hF dX4_laysShares_84 (by decide) ?_
      refine fV.sub (l' := [some (aR (some o)), some (aI v5)]) ⟨rfl, ⟨rfl, trivial⟩⟩ ?_
      exact ih S3 n4 v5 h
set_option maxRecDepth 100000 in
set_option maxHeartbeats 4000000 in
theorem mB_X4_laysShares_2 {F : fX} {lv : Nat} (hlv : 15 ≤ lv) (hF : fOk F cX4_laysShares RX4 lv) (hxn : xn F = 2) (hr : (xM F).sig.returnType = none) {post : fMS → Nat → Prop} {o : Nat} (hE : fEnd F lv (fPV post)) : ∀ (f : Nat) (S : fMS) (n : Nat) (x1 : Int32) (h : wB_X4_laysShares_2 post o f S n x1), fV F S n 2 [some (aR (some o)), some (aI x1)] [] := by
  intro f
  induction f with
  | zero => intro _ _ _ h; exact h.elim
  | succ f ih =>
    intro S n x1 h
    simp only [wB_X4_laysShares_2] at h
    refine fV_iload_n hF dX4_laysShares_2 rfl rfl ?_
    refine fV_aload_n hF dX4_laysShares_3 rfl rfl ?_
    obtain ⟨hA1, h⟩ := h
    refine fV_getI (k := 5) (i := 4) hF fK5 rfl hA1 (by decide) fw_1159 (Or.inl rfl) rfl dX4_laysShares_4 ?_
    refine fV_icmp_ge (tgt := 34) hF dX4_laysShares_7 (by decide) (fun c2 => ?_) (fun c2 => ?_)
    · have h := h.1 c2
      refine fV_aload_n hF dX4_laysShares_34 rfl rfl ?_
      refine fV_getR (k := 5) (i := 28) hF fK5 rfl hA1 (by decide) fw_1183 (Or.inl rfl) rfl dX4_laysShares_35 ?_
      refine fV_iconst (v := 0) hF dX4_laysShares_38 (by decide) ?_
      refine fV_aload_n hF dX4_laysShares_39 rfl rfl ?_
      refine fV_getR (k := 5) (i := 27) hF fK5 rfl hA1 (by decide) fw_1182 (Or.inl rfl) rfl dX4_laysShares_40 ?_
      refine fV_iconst (v := 0) hF dX4_laysShares_43 (by decide) ?_
      obtain ⟨a3, e4, hA5, h⟩ := h
      obtain ⟨hix6, h⟩ := h
      refine fV_iald hF e4 hA5 hix6 dX4_laysShares_44 ?_
      refine fV_aload_n hF dX4_laysShares_45 rfl rfl ?_
      refine fV_getI (k := 5) (i := 2) hF fK5 rfl hA1 (by decide) fw_1157 (Or.inl rfl) rfl dX4_laysShares_46 ?_
      refine fV_icmp_ge (tgt := 61) hF dX4_laysShares_49 (by decide) (fun c7 => ?_) (fun c7 => ?_)
      · have h := h.1 c7
        refine fV_aload_n hF dX4_laysShares_61 rfl rfl ?_
        refine fV_getI (k := 5) (i := 2) hF fK5 rfl hA1 (by decide) fw_1157 (Or.inl rfl) rfl dX4_laysShares_62 ?_
        obtain ⟨a8, e9, hA10, h⟩ := h
        obtain ⟨hix11, h⟩ := h
        refine fV_iast hF e9 hA10 hix11 dX4_laysShares_65 ?_
        refine fV_iconst (v := 0) hF dX4_laysShares_66 (by decide) ?_
        refine fV_istore_n0 hF [some (aR (some o)), some (aI (0 : Int32))] dX4_laysShares_67 rfl (by rw [hxn]; decide) rfl rfl ?_
        obtain ⟨f1, h⟩ := h
        refine fV.sub (l' := [some (aR (some o)), some (aI (0 : Int32))]) ⟨rfl, ⟨rfl, trivial⟩⟩ ?_
        exact mB_X4_laysShares_68 hlv hF hxn hr hE  f1 (wI S a8 (Int32.toNatClampNeg (0 : Int32)) (sI S o 2)) n (0 : Int32) h
      · have h := h.2 c7
        refine fV_aload_n hF dX4_laysShares_52 rfl rfl ?_
        refine fV_getR (k := 5) (i := 27) hF fK5 rfl hA1 (by decide) fw_1182 (Or.inl rfl) rfl dX4_laysShares_53 ?_
        refine fV_iconst (v := 0) hF dX4_laysShares_56 (by decide) ?_
        obtain ⟨hix12, h⟩ := h
        refine fV_iald hF e4 hA5 hix12 dX4_laysShares_57 ?_
        refine fV_goto (tgt := 65) hF dX4_laysShares_58 (by decide) ?_
        obtain ⟨a13, e14, hA15, h⟩ := h
        obtain ⟨hix16, h⟩ := h
        refine fV_iast hF e14 hA15 hix16 dX4_laysShares_65 ?_
        refine fV_iconst (v := 0) hF dX4_laysShares_66 (by decide) ?_
        refine fV_istore_n0 hF [some (aR (some o)), some (aI (0 : Int32))] dX4_laysShares_67 rfl (by rw [hxn]; decide) rfl rfl ?_
        obtain ⟨f1, h⟩ := h
        refine fV.sub (l' := [some (aR (some o)), some (aI (0 : Int32))]) ⟨rfl, ⟨rfl, trivial⟩⟩ ?_
        exact mB_X4_laysShares_68 hlv hF hxn hr hE  f1 (wI S a13 (Int32.toNatClampNeg (0 : Int32)) (sI S a3 (Int32.toNatClampNeg (0 : Int32)))) n (0 : Int32) h
    · have h := h.2 c2
      refine fV_aload_n hF dX4_laysShares_10 rfl rfl ?_
      refine fV_getR (k := 5) (i := 27) hF fK5 rfl hA1 (by decide) fw_1182 (Or.inl rfl) rfl dX4_laysShares_11 ?_
      refine fV_iload_n hF dX4_laysShares_14 rfl rfl ?_
      refine fV_aload_n hF dX4_laysShares_15 rfl rfl ?_
      refine fV_iload_n hF dX4_laysShares_16 rfl rfl ?_
      refine fV_callV (k := 5) (As := [(aI x1)]) hF (mc_X4_demandOf 11 hF.2.2.2.2.2.2.2.2.1 h) fK5 rfl hA1 (by omega) fw_1288 fw_1285 fw_1287 fwp_45 fw_10 ⟨rfl, by decide, by decide, by decide +kernel⟩ (na := 1) rfl (by decide) (Nat.le_of_ble_eq_true rfl) dX4_laysShares_17 rfl (fun rv S9 n9 hp => ?_)
      obtain ⟨v17, rfl, rfl, rfl, h⟩ := hp
      obtain ⟨a18, e19, hA20, h⟩ := h
      obtain ⟨hix21, h⟩ := h
      refine fV_iast hF e19 hA20 hix21 dX4_laysShares_20 ?_
      refine fV_aload_n hF dX4_laysShares_21 rfl rfl ?_
      refine fV_getR (k := 5) (i := 28) hF fK5 rfl hA1 (by decide) fw_1183 (Or.inl rfl) rfl dX4_laysShares_22 ?_
      refine fV_iload_n hF dX4_laysShares_25 rfl rfl ?_
      refine fV_iconst (v := 0) hF dX4_laysShares_26 (by decide) ?_
      obtain ⟨a22, e23, hA24, h⟩ := h
      obtain ⟨hix25, h⟩ := h
      refine fV_iast hF e23 hA24 hix25 dX4_laysShares_27 ?_
      refine fV_iinc (v := 1) hF (fun y => [some (aR (some o)), some (aI y)]) dX4_laysShares_28 rfl (by decide) (by rw [hxn]; decide) rfl (fun _ => rfl) (fun v26 ev26 => ?_)
      have h := h v26 ev26
      refine fV_goto (tgt := 2) hF dX4_laysShares_31 (by decide) ?_
      refine fV.sub (l' := [some (aR (some o)), some (aI v26)]) ⟨rfl, ⟨rfl, trivial⟩⟩ ?_
      exact ih (wI (wI S a18 (Int32.toNatClampNeg x1) v17) a22 (Int32.toNatClampNeg x1) (0 : Int32)) n v26 h
set_option maxRecDepth 100000 in
set_option maxHeartbeats 4000000 in
theorem mc_X4_laysShares {l : Launch} (hfl : l.stackTraces = false) {G : fG} {S : fMS} {n : Nat} {o : Nat} {post : fMS → Nat → Prop} (h : wp_X4_laysShares S n o post) : fCM l yX4_laysShares (.code yX4_laysShares cX4_laysShares 2 none) 15 G [(aR (some o))] S n (fPV post) := by
  refine fCM_of hfl (by decide) (by intro v hv; simp only [List.mem_cons, List.not_mem_nil, or_false] at hv; rcases hv with rfl <;> rfl) (Nat.le_of_ble_eq_true rfl) (fun F hF hxn hl hG hr hin hE => ?_)
  subst hl hG
  have hlv : 15 ≤ 15 := Nat.le_refl _
  show fV F S n 0 [some (aR (some o)), none] []
  unfold wp_X4_laysShares at h
  refine fV_iconst (v := 0) hF dX4_laysShares_0 (by decide) ?_
  refine fV_istore_n0 hF [some (aR (some o)), some (aI (0 : Int32))] dX4_laysShares_1 rfl (by rw [hxn]; decide) rfl rfl ?_
  obtain ⟨f1, h⟩ := h
  refine fV.sub (l' := [some (aR (some o)), some (aI (0 : Int32))]) ⟨rfl, ⟨rfl, trivial⟩⟩ ?_
  exact mB_X4_laysShares_2 hlv hF hxn hr hE  f1 S n (0 : Int32) h
set_option maxRecDepth 100000 in
set_option maxHeartbeats 4000000 in
theorem mB_X4_reservedFor_58 {F : fX} {lv : Nat} (hlv : 1 ≤ lv) (hF : fOk F cX4_reservedFor RX4 lv) (hxn : xn F = 4) (hr : (xM F).sig.returnType = (some .int)) {S : fMS} {n : Nat} {post : Int32 → Prop} {K4 : Int32 → Int32 → Prop} {o : Nat} {p1 : Int32} (hE : fEnd F lv (fPI (fun x S' n' => S = S' ∧ n = n' ∧ post x))) (hK4 : ∀ (x2 : Int32) (x3 : Int32), K4 x2 x3 → fV F S n 4 [some (aR (some o)), some (aI p1), some (aI x2), some (aI x3)] []) (x3 : Int32) (y0 : Int32) (h : wB_X4_reservedFor_58 S post K4 o p1 x3 y0) : fV F S n 58 [some (aR (some o)), some (aI p1), none, some (aI x3)] [(aI y0)] := by
  unfold wB_X4_reservedFor_58 at h
  refine fV_iconst (v := 0) hF dX4_reservedFor_58 (by decide) ?_
  refine fV_iadd hF dX4_reservedFor_59 ?_
  refine fV_istore_n hF (fun y => [some (aR (some o)), some (aI p1), some (aI y), some (aI x3)]) dX4_reservedFor_60 rfl (by rw [hxn]; decide) rfl (fun _ => rfl) (fun v1 ev1 => ?_)
  have h := h v1 ev1
  refine fV_iinc (v := 1) hF (fun y => [some (aR (some o)), some (aI p1), some (aI v1), some (aI y)]) dX4_reservedFor_61 rfl (by decide) (by rw [hxn]; decide) rfl (fun _ => rfl) (fun v2 ev2 => ?_)
  have h := h v2 ev2
  refine fV_goto (tgt := 4) hF dX4_reservedFor_64 (by decide) ?_
  refine fV.sub (l' := [some (aR (some o)), some (aI p1), some (aI v1), some (aI v2)]) ⟨rfl, ⟨rfl, ⟨rfl, ⟨rfl, trivial⟩⟩⟩⟩ ?_
  exact hK4 v1 v2 h
set_option maxRecDepth 100000 in
set_option maxHeartbeats 4000000 in
theorem mB_X4_reservedFor_4 {F : fX} {lv : Nat} (hlv : 1 ≤ lv) (hF : fOk F cX4_reservedFor RX4 lv) (hxn : xn F = 4) (hr : (xM F).sig.returnType = (some .int)) {S : fMS} {n : Nat} {post : Int32 → Prop} {o : Nat} {p1 : Int32} (hE : fEnd F lv (fPI (fun x S' n' => S = S' ∧ n = n' ∧ post x))) : ∀ (f : Nat) (x2 : Int32) (x3 : Int32) (h : wB_X4_reservedFor_4 S post o p1 f x2 x3), fV F S n 4 [some (aR (some o)), some (aI p1), some (aI x2), some (aI x3)] [] := by
  intro f
  induction f with
  | zero => intro _ _ h; exact h.elim
  | succ f ih =>
    intro x2 x3 h
    simp only [wB_X4_reservedFor_4] at h
    refine fV_iload_n hF dX4_reservedFor_4 rfl rfl ?_
    refine fV_aload_n hF dX4_reservedFor_5 rfl rfl ?_
    obtain ⟨hA1, h⟩ := h
    refine fV_getI (k := 5) (i := 22) hF fK5 rfl hA1 (by decide) fw_1177 (Or.inl rfl) rfl dX4_reservedFor_6 ?_
    refine fV_icmp_ge (tgt := 67) hF dX4_reservedFor_9 (by decide) (fun c2 => ?_) (fun c2 => ?_)
    · have h := h.1 c2
      refine fV_iload_n hF dX4_reservedFor_67 rfl rfl ?_
      exact fV_iret hF hE.s (by omega) hr rfl dX4_reservedFor_68 ⟨_, rfl, rfl, rfl, h⟩
    · have h := h.2 c2
      refine fV_iload_n hF dX4_reservedFor_12 rfl rfl ?_
      refine fV_aload_n hF dX4_reservedFor_13 rfl rfl ?_
      refine fV_getR (k := 5) (i := 23) hF fK5 rfl hA1 (by decide) fw_1178 (Or.inl rfl) rfl dX4_reservedFor_14 ?_
      refine fV_iload_n hF dX4_reservedFor_17 rfl rfl ?_
      obtain ⟨a3, e4, hA5, h⟩ := h
      obtain ⟨hix6, h⟩ := h
      refine fV_iald hF e4 hA5 hix6 dX4_reservedFor_18 ?_
      refine fV_iload_n hF dX4_reservedFor_19 rfl rfl ?_
      refine fV_icmp_ne (tgt := 58) hF dX4_reservedFor_20 (by decide) (fun c7 => ?_) (fun c7 => ?_)
      · have h := h.1 c7
        refine fV.sub (l' := [some (aR (some o)), some (aI p1), none, some (aI x3)]) ⟨rfl, ⟨rfl, ⟨rfl, trivial⟩⟩⟩ ?_
        exact mB_X4_reservedFor_58 hlv hF hxn hr hE (fun z0 z1 h9 => ih z0 z1 h9) x3 x2 h
      · have h := h.2 c7
        refine fV_aload_n hF dX4_reservedFor_23 rfl rfl ?_
        refine fV_getI (k := 5) (i := 1) hF fK5 rfl hA1 (by decide) fw_1156 (Or.inl rfl) rfl dX4_reservedFor_24 ?_
        refine fV_aload_n hF dX4_reservedFor_27 rfl rfl ?_
        refine fV_getR (k := 5) (i := 25) hF fK5 rfl hA1 (by decide) fw_1180 (Or.inl rfl) rfl dX4_reservedFor_28 ?_
        refine fV_iload_n hF dX4_reservedFor_31 rfl rfl ?_
        obtain ⟨a8, e9, hA10, h⟩ := h
        obtain ⟨hix11, h⟩ := h
        refine fV_iald hF e9 hA10 hix11 dX4_reservedFor_32 ?_
        refine fV_icmp_lt (tgt := 58) hF dX4_reservedFor_33 (by decide) (fun c12 => ?_) (fun c12 => ?_)
        · have h := h.1 c12
          refine fV.sub (l' := [some (aR (some o)), some (aI p1), none, some (aI x3)]) ⟨rfl, ⟨rfl, ⟨rfl, trivial⟩⟩⟩ ?_
          exact mB_X4_reservedFor_58 hlv hF hxn hr hE (fun z0 z1 h9 => ih z0 z1 h9) x3 x2 h
        · have h := h.2 c12
          refine fV_aload_n hF dX4_reservedFor_36 rfl rfl ?_
          refine fV_getI (k := 5) (i := 1) hF fK5 rfl hA1 (by decide) fw_1156 (Or.inl rfl) rfl dX4_reservedFor_37 ?_
          refine fV_aload_n hF dX4_reservedFor_40 rfl rfl ?_
          refine fV_getR (k := 5) (i := 26) hF fK5 rfl hA1 (by decide) fw_1181 (Or.inl rfl) rfl dX4_reservedFor_41 ?_
          refine fV_iload_n hF dX4_reservedFor_44 rfl rfl ?_
          obtain ⟨a13, e14, hA15, h⟩ := h
          obtain ⟨hix16, h⟩ := h
          refine fV_iald hF e14 hA15 hix16 dX4_reservedFor_45 ?_
          refine fV_icmp_ge (tgt := 58) hF dX4_reservedFor_46 (by decide) (fun c17 => ?_) (fun c17 => ?_)
          · have h := h.1 c17
            refine fV.sub (l' := [some (aR (some o)), some (aI p1), none, some (aI x3)]) ⟨rfl, ⟨rfl, ⟨rfl, trivial⟩⟩⟩ ?_
            exact mB_X4_reservedFor_58 hlv hF hxn hr hE (fun z0 z1 h9 => ih z0 z1 h9) x3 x2 h
          · have h := h.2 c17
            refine fV_aload_n hF dX4_reservedFor_49 rfl rfl ?_
            refine fV_getR (k := 5) (i := 24) hF fK5 rfl hA1 (by decide) fw_1179 (Or.inl rfl) rfl dX4_reservedFor_50 ?_
            refine fV_iload_n hF dX4_reservedFor_53 rfl rfl ?_
            obtain ⟨a18, e19, hA20, h⟩ := h
            obtain ⟨hix21, h⟩ := h
            refine fV_iald hF e19 hA20 hix21 dX4_reservedFor_54 ?_
            refine fV_goto (tgt := 59) hF dX4_reservedFor_55 (by decide) ?_
            refine fV_iadd hF dX4_reservedFor_59 ?_
            refine fV_istore_n hF (fun y => [some (aR (some o)), some (aI p1), some (aI y), some (aI x3)]) dX4_reservedFor_60 rfl (by rw [hxn]; decide) rfl (fun _ => rfl) (fun v22 ev22 => ?_)
            have h := h v22 ev22
            refine fV_iinc (v := 1) hF (fun y => [some (aR (some o)), some (aI p1), some (aI v22), some (aI y)]) dX4_reservedFor_61 rfl (by decide) (by rw [hxn]; decide) rfl (fun _ => rfl) (fun v23 ev23 => ?_)
            have h := h v23 ev23
            refine fV_goto (tgt := 4) hF dX4_reservedFor_64 (by decide) ?_
            refine fV.sub (l' := [some (aR (some o)), some (aI p1), some (aI v22), some (aI v23)]) ⟨rfl, ⟨rfl, ⟨rfl, ⟨rfl, trivial⟩⟩⟩⟩ ?_
            exact ih v22 v23 h
set_option maxRecDepth 100000 in
set_option maxHeartbeats 4000000 in
theorem mc_X4_reservedFor {l : Launch} (hfl : l.stackTraces = false) {G : fG} {S : fMS} {n : Nat} {o : Nat} {p1 : Int32} {post : Int32 → Prop} (h : wp_X4_reservedFor S o p1 post) : fCM l yX4_reservedFor (.code yX4_reservedFor cX4_reservedFor 4 (some .int)) 1 G [(aR (some o)), (aI p1)] S n (fPI (fun x S' n' => S = S' ∧ n = n' ∧ post x)) := by
  refine fCM_of hfl (by decide) (by intro v hv; simp only [List.mem_cons, List.not_mem_nil, or_false] at hv; rcases hv with rfl | rfl <;> rfl) (Nat.le_of_ble_eq_true rfl) (fun F hF hxn hl hG hr hin hE => ?_)
  subst hl hG
  have hlv : 1 ≤ 1 := Nat.le_refl _
  show fV F S n 0 [some (aR (some o)), some (aI p1), none, none] []
  unfold wp_X4_reservedFor at h
  refine fV_iconst (v := 0) hF dX4_reservedFor_0 (by decide) ?_
  refine fV_istore_n0 hF [some (aR (some o)), some (aI p1), some (aI (0 : Int32)), none] dX4_reservedFor_1 rfl (by rw [hxn]; decide) rfl rfl ?_
  refine fV_iconst (v := 0) hF dX4_reservedFor_2 (by decide) ?_
  refine fV_istore_n0 hF [some (aR (some o)), some (aI p1), some (aI (0 : Int32)), some (aI (0 : Int32))] dX4_reservedFor_3 rfl (by rw [hxn]; decide) rfl rfl ?_
  obtain ⟨f1, h⟩ := h
  refine fV.sub (l' := [some (aR (some o)), some (aI p1), some (aI (0 : Int32)), some (aI (0 : Int32))]) ⟨rfl, ⟨rfl, ⟨rfl, ⟨rfl, trivial⟩⟩⟩⟩ ?_
  exact mB_X4_reservedFor_4 hlv hF hxn hr hE  f1 (0 : Int32) (0 : Int32) h
set_option maxRecDepth 100000 in
set_option maxHeartbeats 4000000 in
theorem mc_X4_dueOf {l : Launch} (hfl : l.stackTraces = false) {G : fG} {S : fMS} {n : Nat} {o : Nat} {p1 : Int32} {post : Int32 → Prop} (h : wp_X4_dueOf S o p1 post) : fCM l yX4_dueOf (.code yX4_dueOf cX4_dueOf 3 (some .int)) 2 G [(aR (some o)), (aI p1)] S n (fPI (fun x S' n' => S = S' ∧ n = n' ∧ post x)) := by
  refine fCM_of hfl (by decide) (by intro v hv; simp only [List.mem_cons, List.not_mem_nil, or_false] at hv; rcases hv with rfl | rfl <;> rfl) (Nat.le_of_ble_eq_true rfl) (fun F hF hxn hl hG hr hin hE => ?_)
  subst hl hG
  have hlv : 2 ≤ 2 := Nat.le_refl _
  show fV F S n 0 [some (aR (some o)), some (aI p1), none] []
  unfold wp_X4_dueOf at h
  refine fV_aload_n hF dX4_dueOf_0 rfl rfl ?_
  refine fV_iload_n hF dX4_dueOf_1 rfl rfl ?_
  obtain ⟨hA1, h⟩ := h
  refine fV_callV (k := 5) (As := [(aI p1)]) hF (mc_X4_reservedFor hF.2.2.2.2.2.2.2.2.1 h) fK5 rfl hA1 (by omega) fw_1332 fw_1329 fw_1331 fwp_56 fw_10 ⟨rfl, by decide, by decide, by decide +kernel⟩ (na := 1) rfl (by decide) (Nat.le_of_ble_eq_true rfl) dX4_dueOf_2 rfl (fun rv S9 n9 hp => ?_)
  obtain ⟨v2, rfl, rfl, rfl, h⟩ := hp
  refine fV_istore_n0 hF [some (aR (some o)), some (aI p1), some (aI v2)] dX4_dueOf_5 rfl (by rw [hxn]; decide) rfl rfl ?_
  refine fV_iload_n hF dX4_dueOf_6 rfl rfl ?_
  refine fV_aload_n hF dX4_dueOf_7 rfl rfl ?_
  refine fV_getR (k := 5) (i := 28) hF fK5 rfl hA1 (by decide) fw_1183 (Or.inl rfl) rfl dX4_dueOf_8 ?_
  refine fV_iload_n hF dX4_dueOf_11 rfl rfl ?_
  obtain ⟨a3, e4, hA5, h⟩ := h
  obtain ⟨hix6, h⟩ := h
  refine fV_iald hF e4 hA5 hix6 dX4_dueOf_12 ?_
  refine fV_icmp_le (tgt := 20) hF dX4_dueOf_13 (by decide) (fun c7 => ?_) (fun c7 => ?_)
  · have h := h.1 c7
    refine fV_aload_n hF dX4_dueOf_20 rfl rfl ?_
    refine fV_getR (k := 5) (i := 28) hF fK5 rfl hA1 (by decide) fw_1183 (Or.inl rfl) rfl dX4_dueOf_21 ?_
    refine fV_iload_n hF dX4_dueOf_24 rfl rfl ?_
    obtain ⟨hix8, h⟩ := h
    refine fV_iald hF e4 hA5 hix8 dX4_dueOf_25 ?_
    exact fV_iret hF hE.s (by omega) hr rfl dX4_dueOf_26 ⟨_, rfl, rfl, rfl, h⟩
  · have h := h.2 c7
    refine fV_iload_n hF dX4_dueOf_16 rfl rfl ?_
    refine fV_goto (tgt := 26) hF dX4_dueOf_17 (by decide) ?_
    exact fV_iret hF hE.s (by omega) hr rfl dX4_dueOf_26 ⟨_, rfl, rfl, rfl, h⟩
set_option maxRecDepth 100000 in
set_option maxHeartbeats 4000000 in
theorem mB_X4_freeOf_35 {F : fX} {lv : Nat} (hlv : 3 ≤ lv) (hF : fOk F cX4_freeOf RX4 lv) (hxn : xn F = 5) (hr : (xM F).sig.returnType = (some .int)) {S : fMS} {n : Nat} {post : Int32 → Prop} {K51 : Int32 → Int32 → Int32 → Prop} {o : Nat} {p1 : Int32} (hE : fEnd F lv (fPI (fun x S' n' => S = S' ∧ n = n' ∧ post x))) (hK51 : ∀ (x2 : Int32) (x3 : Int32) (y0 : Int32), K51 x2 x3 y0 → fV F S n 51 [some (aR (some o)), some (aI p1), some (aI x2), some (aI x3), none] [(aI y0)]) (x2 : Int32) (x3 : Int32) (h : wB_X4_freeOf_35 S post K51 o p1 x2 x3) : fV F S n 35 [some (aR (some o)), some (aI p1), some (aI x2), some (aI x3), none] [] := by
  unfold wB_X4_freeOf_35 at h
  refine fV_iconst (v := 0) hF dX4_freeOf_35 (by decide) ?_
  refine fV_goto (tgt := 51) hF dX4_freeOf_36 (by decide) ?_
  refine fV.sub (l' := [some (aR (some o)), some (aI p1), some (aI x2), some (aI x3), none]) ⟨rfl, ⟨rfl, ⟨rfl, ⟨rfl, trivial⟩⟩⟩⟩ ?_
  exact hK51 x2 x3 (0 : Int32) h
set_option maxRecDepth 100000 in
set_option maxHeartbeats 4000000 in
theorem mB_X4_freeOf_51 {F : fX} {lv : Nat} (hlv : 3 ≤ lv) (hF : fOk F cX4_freeOf RX4 lv) (hxn : xn F = 5) (hr : (xM F).sig.returnType = (some .int)) {S : fMS} {n : Nat} {post : Int32 → Prop} {K14 : Int32 → Int32 → Prop} {o : Nat} {p1 : Int32} (hE : fEnd F lv (fPI (fun x S' n' => S = S' ∧ n = n' ∧ post x))) (hK14 : ∀ (x2 : Int32) (x3 : Int32), K14 x2 x3 → fV F S n 14 [some (aR (some o)), some (aI p1), some (aI x2), some (aI x3), none] []) (x2 : Int32) (x3 : Int32) (y0 : Int32) (h : wB_X4_freeOf_51 S post K14 o p1 x2 x3 y0) : fV F S n 51 [some (aR (some o)), some (aI p1), some (aI x2), some (aI x3), none] [(aI y0)] := by
  unfold wB_X4_freeOf_51 at h
  refine fV_istore0 hF [some (aR (some o)), some (aI p1), some (aI x2), some (aI x3), some (aI y0)] dX4_freeOf_51 (by rw [hxn]; decide) rfl rfl ?_
  refine fV_iload_n hF dX4_freeOf_53 rfl rfl ?_
  refine fV_iload hF dX4_freeOf_54 rfl ?_
  refine fV_if_le (tgt := 64) hF dX4_freeOf_56 (by decide) (fun c1 => ?_) (fun c1 => ?_)
  · have h := h.1 c1
    refine fV_iconst (v := 0) hF dX4_freeOf_64 (by decide) ?_
    refine fV_isub hF dX4_freeOf_65 ?_
    refine fV_istore_n hF (fun y => [some (aR (some o)), some (aI p1), some (aI y), some (aI x3), some (aI y0)]) dX4_freeOf_66 rfl (by rw [hxn]; decide) rfl (fun _ => rfl) (fun v2 ev2 => ?_)
    have h := h v2 ev2
    refine fV_iinc (v := 1) hF (fun y => [some (aR (some o)), some (aI p1), some (aI v2), some (aI y), some (aI y0)]) dX4_freeOf_67 rfl (by decide) (by rw [hxn]; decide) rfl (fun _ => rfl) (fun v3 ev3 => ?_)
    have h := h v3 ev3
    refine fV_goto (tgt := 14) hF dX4_freeOf_70 (by decide) ?_
    refine fV.sub (l' := [some (aR (some o)), some (aI p1), some (aI v2), some (aI v3), none]) ⟨rfl, ⟨rfl, ⟨rfl, ⟨rfl, trivial⟩⟩⟩⟩ ?_
    exact hK14 v2 v3 h
  · have h := h.2 c1
    refine fV_iload hF dX4_freeOf_59 rfl ?_
    refine fV_goto (tgt := 65) hF dX4_freeOf_61 (by decide) ?_
    refine fV_isub hF dX4_freeOf_65 ?_
    refine fV_istore_n hF (fun y => [some (aR (some o)), some (aI p1), some (aI y), some (aI x3), some (aI y0)]) dX4_freeOf_66 rfl (by rw [hxn]; decide) rfl (fun _ => rfl) (fun v4 ev4 => ?_)
    have h := h v4 ev4
    refine fV_iinc (v := 1) hF (fun y => [some (aR (some o)), some (aI p1), some (aI v4), some (aI y), some (aI y0)]) dX4_freeOf_67 rfl (by decide) (by rw [hxn]; decide) rfl (fun _ => rfl) (fun v5 ev5 => ?_)
    have h := h v5 ev5
    refine fV_goto (tgt := 14) hF dX4_freeOf_70 (by decide) ?_
    refine fV.sub (l' := [some (aR (some o)), some (aI p1), some (aI v4), some (aI v5), none]) ⟨rfl, ⟨rfl, ⟨rfl, ⟨rfl, trivial⟩⟩⟩⟩ ?_
    exact hK14 v4 v5 h
set_option maxRecDepth 100000 in
set_option maxHeartbeats 4000000 in
theorem mB_X4_freeOf_14 {F : fX} {lv : Nat} (hlv : 3 ≤ lv) (hF : fOk F cX4_freeOf RX4 lv) (hxn : xn F = 5) (hr : (xM F).sig.returnType = (some .int)) {S : fMS} {n : Nat} {post : Int32 → Prop} {o : Nat} {p1 : Int32} (hE : fEnd F lv (fPI (fun x S' n' => S = S' ∧ n = n' ∧ post x))) : ∀ (f : Nat) (x2 : Int32) (x3 : Int32) (h : wB_X4_freeOf_14 S post o p1 f x2 x3), fV F S n 14 [some (aR (some o)), some (aI p1), some (aI x2), some (aI x3), none] [] := by
  intro f
  induction f with
  | zero => intro _ _ h; exact h.elim
  | succ f ih =>
    intro x2 x3 h
    simp only [wB_X4_freeOf_14] at h
    refine fV_iload_n hF dX4_freeOf_14 rfl rfl ?_
    refine fV_aload_n hF dX4_freeOf_15 rfl rfl ?_
    obtain ⟨hA1, h⟩ := h
    refine fV_getI (k := 5) (i := 4) hF fK5 rfl hA1 (by decide) fw_1159 (Or.inl rfl) rfl dX4_freeOf_16 ?_
    refine fV_icmp_ge (tgt := 73) hF dX4_freeOf_19 (by decide) (fun c2 => ?_) (fun c2 => ?_)
    · have h := h.1 c2
      refine fV_iload_n hF dX4_freeOf_73 rfl rfl ?_
      exact fV_iret hF hE.s (by omega) hr rfl dX4_freeOf_74 ⟨_, rfl, rfl, rfl, h⟩
    · have h := h.2 c2
      refine fV_iload_n hF dX4_freeOf_22 rfl rfl ?_
      refine fV_iload_n hF dX4_freeOf_23 rfl rfl ?_
      refine fV_icmp_eq (tgt := 35) hF dX4_freeOf_24 (by decide) (fun c3 => ?_) (fun c3 => ?_)
      · have h := h.1 c3
        refine fV.sub (l' := [some (aR (some o)), some (aI p1), some (aI x2), some (aI x3), none]) ⟨rfl, ⟨rfl, ⟨rfl, ⟨rfl, trivial⟩⟩⟩⟩ ?_
        exact mB_X4_freeOf_35 hlv hF hxn hr hE (fun z0 z1 z2 h9 => mB_X4_freeOf_51 hlv hF hxn hr hE (fun z0 z1 h9 => ih z0 z1 h9) z0 z1 z2 h9) x2 x3 h
      · have h := h.2 c3
        refine fV_aload_n hF dX4_freeOf_27 rfl rfl ?_
        refine fV_iload_n hF dX4_freeOf_28 rfl rfl ?_
        refine fV_callV (k := 5) (As := [(aI x3)]) hF (mc_X4_isLeaf hF.2.2.2.2.2.2.2.2.1 h) fK5 rfl hA1 (by omega) fw_1292 fw_1289 fw_1291 fwp_46 fw_10 ⟨rfl, by decide, by decide, by decide +kernel⟩ (na := 1) rfl (by decide) (Nat.le_of_ble_eq_true rfl) dX4_freeOf_29 rfl (fun rv S9 n9 hp => ?_)
        obtain ⟨v4, rfl, rfl, rfl, h⟩ := hp
        refine fV_if_ne (tgt := 39) hF dX4_freeOf_32 (by decide) (fun c5 => ?_) (fun c5 => ?_)
        · have h := h.1 c5
          refine fV_aload_n hF dX4_freeOf_39 rfl rfl ?_
          refine fV_iload_n hF dX4_freeOf_40 rfl rfl ?_
          refine fV_callV (k := 5) (As := [(aI x3)]) hF (mc_X4_reservedFor hF.2.2.2.2.2.2.2.2.1 h) fK5 rfl hA1 (by omega) fw_1332 fw_1329 fw_1331 fwp_56 fw_10 ⟨rfl, by decide, by decide, by decide +kernel⟩ (na := 1) rfl (by decide) (Nat.le_of_ble_eq_true rfl) dX4_freeOf_41 rfl (fun rv S9 n9 hp => ?_)
          obtain ⟨v6, rfl, rfl, rfl, h⟩ := hp
          refine fV_aload_n hF dX4_freeOf_44 rfl rfl ?_
          refine fV_getR (k := 5) (i := 10) hF fK5 rfl hA1 (by decide) fw_1165 (Or.inl rfl) rfl dX4_freeOf_45 ?_
          refine fV_iload_n hF dX4_freeOf_48 rfl rfl ?_
          obtain ⟨a7, e8, hA9, h⟩ := h
          obtain ⟨hix10, h⟩ := h
          refine fV_iald hF e8 hA9 hix10 dX4_freeOf_49 ?_
          refine fV_isub hF dX4_freeOf_50 ?_
          refine fV.sub (l' := [some (aR (some o)), some (aI p1), some (aI x2), some (aI x3), none]) ⟨rfl, ⟨rfl, ⟨rfl, ⟨rfl, trivial⟩⟩⟩⟩ ?_
          exact mB_X4_freeOf_51 hlv hF hxn hr hE (fun z0 z1 h9 => ih z0 z1 h9) x2 x3 (v6 - (sI S a7 (Int32.toNatClampNeg x3))) h
        · have h := h.2 c5
          refine fV.sub (l' := [some (aR (some o)), some (aI p1), some (aI x2), some (aI x3), none]) ⟨rfl, ⟨rfl, ⟨rfl, ⟨rfl, trivial⟩⟩⟩⟩ ?_
          exact mB_X4_freeOf_35 hlv hF hxn hr hE (fun z0 z1 z2 h9 => mB_X4_freeOf_51 hlv hF hxn hr hE (fun z0 z1 h9 => ih z0 z1 h9) z0 z1 z2 h9) x2 x3 h
set_option maxRecDepth 100000 in
set_option maxHeartbeats 4000000 in
theorem mc_X4_freeOf {l : Launch} (hfl : l.stackTraces = false) {G : fG} {S : fMS} {n : Nat} {o : Nat} {p1 : Int32} {post : Int32 → Prop} (h : wp_X4_freeOf S o p1 post) : fCM l yX4_freeOf (.code yX4_freeOf cX4_freeOf 5 (some .int)) 3 G [(aR (some o)), (aI p1)] S n (fPI (fun x S' n' => S = S' ∧ n = n' ∧ post x)) := by
  refine fCM_of hfl (by decide) (by intro v hv; simp only [List.mem_cons, List.not_mem_nil, or_false] at hv; rcases hv with rfl | rfl <;> rfl) (Nat.le_of_ble_eq_true rfl) (fun F hF hxn hl hG hr hin hE => ?_)
  subst hl hG
  have hlv : 3 ≤ 3 := Nat.le_refl _
  show fV F S n 0 [some (aR (some o)), some (aI p1), none, none, none] []
  unfold wp_X4_freeOf at h
  refine fV_aload_n hF dX4_freeOf_0 rfl rfl ?_
  obtain ⟨hA1, h⟩ := h
  refine fV_getI (k := 5) (i := 2) hF fK5 rfl hA1 (by decide) fw_1157 (Or.inl rfl) rfl dX4_freeOf_1 ?_
  refine fV_aload_n hF dX4_freeOf_4 rfl rfl ?_
  refine fV_getR (k := 5) (i := 10) hF fK5 rfl hA1 (by decide) fw_1165 (Or.inl rfl) rfl dX4_freeOf_5 ?_
  refine fV_iconst (v := 0) hF dX4_freeOf_8 (by decide) ?_
  obtain ⟨a2, e3, hA4, h⟩ := h
  obtain ⟨hix5, h⟩ := h
  refine fV_iald hF e3 hA4 hix5 dX4_freeOf_9 ?_
  refine fV_isub hF dX4_freeOf_10 ?_
  refine fV_istore_n hF (fun y => [some (aR (some o)), some (aI p1), some (aI y), none, none]) dX4_freeOf_11 rfl (by rw [hxn]; decide) rfl (fun _ => rfl) (fun v6 ev6 => ?_)
  have h := h v6 ev6
  refine fV_iconst (v := 0) hF dX4_freeOf_12 (by decide) ?_
  refine fV_istore_n0 hF [some (aR (some o)), some (aI p1), some (aI v6), some (aI (0 : Int32)), none] dX4_freeOf_13 rfl (by rw [hxn]; decide) rfl rfl ?_
  obtain ⟨f1, h⟩ := h
  refine fV.sub (l' := [some (aR (some o)), some (aI p1), some (aI v6), some (aI (0 : Int32)), none]) ⟨rfl, ⟨rfl, ⟨rfl, ⟨rfl, trivial⟩⟩⟩⟩ ?_
  exact mB_X4_freeOf_14 hlv hF hxn hr hE  f1 v6 (0 : Int32) h
set_option maxRecDepth 100000 in
set_option maxHeartbeats 4000000 in
theorem mB_X4_firstJob_2 {F : fX} {lv : Nat} (hlv : 1 ≤ lv) (hF : fOk F cX4_firstJob RX4 lv) (hxn : xn F = 3) (hr : (xM F).sig.returnType = (some .int)) {S : fMS} {n : Nat} {post : Int32 → Prop} {o : Nat} {p1 : Int32} (hE : fEnd F lv (fPI (fun x S' n' => S = S' ∧ n = n' ∧ post x))) : ∀ (f : Nat) (x2 : Int32) (h : wB_X4_firstJob_2 S post o p1 f x2), fV F S n 2 [some (aR (some o)), some (aI p1), some (aI x2)] [] := by
  intro f
  induction f with
  | zero => intro _ h; exact h.elim
  | succ f ih =>
    intro x2 h
    simp only [wB_X4_firstJob_2] at h
    refine fV_iload_n hF dX4_firstJob_2 rfl rfl ?_
    refine fV_aload_n hF dX4_firstJob_3 rfl rfl ?_
    obtain ⟨hA1, h⟩ := h
    refine fV_getI (k := 5) (i := 12) hF fK5 rfl hA1 (by decide) fw_1167 (Or.inl rfl) rfl dX4_firstJob_4 ?_
    refine fV_icmp_ge (tgt := 46) hF dX4_firstJob_7 (by decide) (fun c2 => ?_) (fun c2 => ?_)
    · have h := h.1 c2
      refine fV_iconst (v := -1) hF dX4_firstJob_46 (by decide) ?_
      exact fV_iret hF hE.s (by omega) hr rfl dX4_firstJob_47 ⟨_, rfl, rfl, rfl, h⟩
    · have h := h.2 c2
      refine fV_aload_n hF dX4_firstJob_10 rfl rfl ?_
      refine fV_getR (k := 5) (i := 11) hF fK5 rfl hA1 (by decide) fw_1166 (Or.inl rfl) rfl dX4_firstJob_11 ?_
      refine fV_iload_n hF dX4_firstJob_14 rfl rfl ?_
      obtain ⟨a3, e4, hA5, h⟩ := h
      obtain ⟨hix6, h⟩ := h
      refine fV_iald hF e4 hA5 hix6 dX4_firstJob_15 ?_
      refine fV_if_le (tgt := 46) hF dX4_firstJob_16 (by decide) (fun c7 => ?_) (fun c7 => ?_)
      · have h := h.1 c7
        refine fV_iconst (v := -1) hF dX4_firstJob_46 (by decide) ?_
        exact fV_iret hF hE.s (by omega) hr rfl dX4_firstJob_47 ⟨_, rfl, rfl, rfl, h⟩
      · have h := h.2 c7
        refine fV_aload_n hF dX4_firstJob_19 rfl rfl ?_
        refine fV_getR (k := 5) (i := 13) hF fK5 rfl hA1 (by decide) fw_1168 (Or.inl rfl) rfl dX4_firstJob_20 ?_
        refine fV_iload_n hF dX4_firstJob_23 rfl rfl ?_
        obtain ⟨a8, e9, hA10, h⟩ := h
        obtain ⟨hix11, h⟩ := h
        refine fV_iald hF e9 hA10 hix11 dX4_firstJob_24 ?_
        refine fV_iload_n hF dX4_firstJob_25 rfl rfl ?_
        refine fV_icmp_ne (tgt := 40) hF dX4_firstJob_26 (by decide) (fun c12 => ?_) (fun c12 => ?_)
        · have h := h.1 c12
          refine fV_iinc (v := 1) hF (fun y => [some (aR (some o)), some (aI p1), some (aI y)]) dX4_firstJob_40 rfl (by decide) (by rw [hxn]; decide) rfl (fun _ => rfl) (fun v13 ev13 => ?_)
          have h := h v13 ev13
          refine fV_goto (tgt := 2) hF dX4_firstJob_43 (by decide) ?_
          refine fV.sub (l' := [some (aR (some o)), some (aI p1), some (aI v13)]) ⟨rfl, ⟨rfl, ⟨rfl, trivial⟩⟩⟩ ?_
          exact ih v13 h
        · have h := h.2 c12
          refine fV_aload_n hF dX4_firstJob_29 rfl rfl ?_
          refine fV_getR (k := 5) (i := 17) hF fK5 rfl hA1 (by decide) fw_1172 (Or.inl rfl) rfl dX4_firstJob_30 ?_
          refine fV_iload_n hF dX4_firstJob_33 rfl rfl ?_
          obtain ⟨a14, e15, hA16, h⟩ := h
          obtain ⟨hix17, h⟩ := h
          refine fV_iald hF e15 hA16 hix17 dX4_firstJob_34 ?_
          refine fV_if_ne (tgt := 40) hF dX4_firstJob_35 (by decide) (fun c18 => ?_) (fun c18 => ?_)
          · have h := h.1 c18
            refine fV_iinc (v := 1) hF (fun y => [some (aR (some o)), some (aI p1), some (aI y)]) dX4_firstJob_40 rfl (by decide) (by rw [hxn]; decide) rfl (fun _ => rfl) (fun v19 ev19 => ?_)
            have h := h v19 ev19
            refine fV_goto (tgt := 2) hF dX4_firstJob_43 (by decide) ?_
            refine fV.sub (l' := [some (aR (some o)), some (aI p1), some (aI v19)]) ⟨rfl, ⟨rfl, ⟨rfl, trivial⟩⟩⟩ ?_
            exact ih v19 h
          · have h := h.2 c18
            refine fV_iload_n hF dX4_firstJob_38 rfl rfl ?_
            exact fV_iret hF hE.s (by omega) hr rfl dX4_firstJob_39 ⟨_, rfl, rfl, rfl, h⟩
set_option maxRecDepth 100000 in
set_option maxHeartbeats 4000000 in
theorem mc_X4_firstJob {l : Launch} (hfl : l.stackTraces = false) {G : fG} {S : fMS} {n : Nat} {o : Nat} {p1 : Int32} {post : Int32 → Prop} (h : wp_X4_firstJob S o p1 post) : fCM l yX4_firstJob (.code yX4_firstJob cX4_firstJob 3 (some .int)) 1 G [(aR (some o)), (aI p1)] S n (fPI (fun x S' n' => S = S' ∧ n = n' ∧ post x)) := by
  refine fCM_of hfl (by decide) (by intro v hv; simp only [List.mem_cons, List.not_mem_nil, or_false] at hv; rcases hv with rfl | rfl <;> rfl) (Nat.le_of_ble_eq_true rfl) (fun F hF hxn hl hG hr hin hE => ?_)
  subst hl hG
  have hlv : 1 ≤ 1 := Nat.le_refl _
  show fV F S n 0 [some (aR (some o)), some (aI p1), none] []
  unfold wp_X4_firstJob at h
  refine fV_iconst (v := 0) hF dX4_firstJob_0 (by decide) ?_
  refine fV_istore_n0 hF [some (aR (some o)), some (aI p1), some (aI (0 : Int32))] dX4_firstJob_1 rfl (by rw [hxn]; decide) rfl rfl ?_
  obtain ⟨f1, h⟩ := h
  refine fV.sub (l' := [some (aR (some o)), some (aI p1), some (aI (0 : Int32))]) ⟨rfl, ⟨rfl, ⟨rfl, trivial⟩⟩⟩ ?_
  exact mB_X4_firstJob_2 hlv hF hxn hr hE  f1 (0 : Int32) h
set_option maxRecDepth 100000 in
set_option maxHeartbeats 4000000 in
theorem mc_X4_isAhead {l : Launch} (hfl : l.stackTraces = false) {G : fG} {S : fMS} {n : Nat} {o : Nat} {p1 : Int32} {p2 : Int32} {post : Int32 → Prop} (h : wp_X4_isAhead S o p1 p2 post) : fCM l yX4_isAhead (.code yX4_isAhead cX4_isAhead 7 (some .boolean)) 1 G [(aR (some o)), (aI p1), (aI p2)] S n (fPI (fun x S' n' => S = S' ∧ n = n' ∧ post x)) := by
  refine fCM_of hfl (by decide) (by intro v hv; simp only [List.mem_cons, List.not_mem_nil, or_false] at hv; rcases hv with rfl | rfl | rfl <;> rfl) (Nat.le_of_ble_eq_true rfl) (fun F hF hxn hl hG hr hin hE => ?_)
  subst hl hG
  have hlv : 1 ≤ 1 := Nat.le_refl _
  show fV F S n 0 [some (aR (some o)), some (aI p1), some (aI p2), none, none, none, none] []
  unfold wp_X4_isAhead at h
  refine fV_aload_n hF dX4_isAhead_0 rfl rfl ?_
  obtain ⟨hA1, h⟩ := h
  refine fV_getR (k := 5) (i := 8) hF fK5 rfl hA1 (by decide) fw_1163 (Or.inl rfl) rfl dX4_isAhead_1 ?_
  refine fV_iload_n hF dX4_isAhead_4 rfl rfl ?_
  obtain ⟨a2, e3, hA4, h⟩ := h
  obtain ⟨hix5, h⟩ := h
  refine fV_lald hF e3 hA4 hix5 dX4_isAhead_5 ?_
  refine fV_aload_n hF dX4_isAhead_6 rfl rfl ?_
  refine fV_getR (k := 5) (i := 6) hF fK5 rfl hA1 (by decide) fw_1161 (Or.inl rfl) rfl dX4_isAhead_7 ?_
  refine fV_iload_n hF dX4_isAhead_10 rfl rfl ?_
  obtain ⟨a6, e7, hA8, h⟩ := h
  obtain ⟨hix9, h⟩ := h
  refine fV_iald hF e7 hA8 hix9 dX4_isAhead_11 ?_
  refine fV_i2l hF dX4_isAhead_12 ?_
  refine fV_lmul hF dX4_isAhead_13 ?_
  refine fV_lstore_n hF (fun y => [some (aR (some o)), some (aI p1), some (aI p2), some (aJ y), none, none, none]) dX4_isAhead_14 rfl (by rw [hxn]; decide) rfl (fun _ => rfl) (fun z10 ez10 => ?_)
  have h := h z10 ez10
  refine fV_aload_n hF dX4_isAhead_15 rfl rfl ?_
  refine fV_getR (k := 5) (i := 8) hF fK5 rfl hA1 (by decide) fw_1163 (Or.inl rfl) rfl dX4_isAhead_16 ?_
  refine fV_iload_n hF dX4_isAhead_19 rfl rfl ?_
  obtain ⟨hix11, h⟩ := h
  refine fV_lald hF e3 hA4 hix11 dX4_isAhead_20 ?_
  refine fV_aload_n hF dX4_isAhead_21 rfl rfl ?_
  refine fV_getR (k := 5) (i := 6) hF fK5 rfl hA1 (by decide) fw_1161 (Or.inl rfl) rfl dX4_isAhead_22 ?_
  refine fV_iload_n hF dX4_isAhead_25 rfl rfl ?_
  obtain ⟨hix12, h⟩ := h
  refine fV_iald hF e7 hA8 hix12 dX4_isAhead_26 ?_
  refine fV_i2l hF dX4_isAhead_27 ?_
  refine fV_lmul hF dX4_isAhead_28 ?_
  refine fV_lstore hF (fun y => [some (aR (some o)), some (aI p1), some (aI p2), some (aJ z10), none, some (aJ y), none]) dX4_isAhead_29 (by rw [hxn]; decide) rfl (fun _ => rfl) (fun z13 ez13 => ?_)
  have h := h z13 ez13
  refine fV_lload_n hF dX4_isAhead_31 rfl rfl ?_
  refine fV_lload hF dX4_isAhead_32 rfl ?_
  refine fV_lcmp hF dX4_isAhead_34 ?_
  refine fV_if_eq (tgt := 53) hF dX4_isAhead_35 (by decide) (fun c14 => ?_) (fun c14 => ?_)
  · have h := h.1 c14
    refine fV_iload_n hF dX4_isAhead_53 rfl rfl ?_
    refine fV_iload_n hF dX4_isAhead_54 rfl rfl ?_
    refine fV_icmp_ge (tgt := 62) hF dX4_isAhead_55 (by decide) (fun c15 => ?_) (fun c15 => ?_)
    · have h := h.1 c15
      refine fV_iconst (v := 0) hF dX4_isAhead_62 (by decide) ?_
      exact fV_iret hF hE.s (by omega) hr (by decide) dX4_isAhead_63 ⟨_, rfl, rfl, rfl, h⟩
    · have h := h.2 c15
      refine fV_iconst (v := 1) hF dX4_isAhead_58 (by decide) ?_
      refine fV_goto (tgt := 63) hF dX4_isAhead_59 (by decide) ?_
      exact fV_iret hF hE.s (by omega) hr (by decide) dX4_isAhead_63 ⟨_, rfl, rfl, rfl, h⟩
  · have h := h.2 c14
    refine fV_lload_n hF dX4_isAhead_38 rfl rfl ?_
    refine fV_lload hF dX4_isAhead_39 rfl ?_
    refine fV_lcmp hF dX4_isAhead_41 ?_
    refine fV_if_ge (tgt := 49) hF dX4_isAhead_42 (by decide) (fun c16 => ?_) (fun c16 => ?_)
    · have h := h.1 c16
      refine fV_iconst (v := 0) hF dX4_isAhead_49 (by decide) ?_
      refine fV_goto (tgt := 63) hF dX4_isAhead_50 (by decide) ?_
      exact fV_iret hF hE.s (by omega) hr (by decide) dX4_isAhead_63 ⟨_, rfl, rfl, rfl, h⟩
    · have h := h.2 c16
      refine fV_iconst (v := 1) hF dX4_isAhead_45 (by decide) ?_
      refine fV_goto (tgt := 63) hF dX4_isAhead_46 (by decide) ?_
      exact fV_iret hF hE.s (by omega) hr (by decide) dX4_isAhead_63 ⟨_, rfl, rfl, rfl, h⟩
set_option maxRecDepth 100000 in
set_option maxHeartbeats 4000000 in
theorem mB_X4_laysLine_80 {F : fX} {lv : Nat} (hlv : 3 ≤ lv) (hF : fOk F cX4_laysLine RX4 lv) (hxn : xn F = 3) (hr : (xM F).sig.returnType = none) {post : fMS → Nat → Prop} {K7 : fMS → Nat → Int32 → Prop} {o : Nat} (hE : fEnd F lv (fPV post)) (hK7 : ∀ (S : fMS) (n : Nat) (x1 : Int32), K7 S n x1 → fV F S n 7 [some (aR (some o)), some (aI x1), none] []) (S : fMS) (n : Nat) (x1 : Int32) (x2 : Int32) (h : wB_X4_laysLine_80 post K7 o S n x1 x2) : fV F S n 80 [some (aR (some o)), some (aI x1), some (aI x2)] [] := by
  unfold wB_X4_laysLine_80 at h
  refine fV_aload_n hF dX4_laysLine_80 rfl rfl ?_
  obtain ⟨hA1, h⟩ := h
  refine fV_getR (k := 5) (i := 29) hF fK5 rfl hA1 (by decide) fw_1184 (Or.inl rfl) rfl dX4_laysLine_81 ?_
  refine fV_iload_n hF dX4_laysLine_84 rfl rfl ?_
  refine fV_iload_n hF dX4_laysLine_85 rfl rfl ?_
  obtain ⟨a2, e3, hA4, h⟩ := h
  obtain ⟨hix5, h⟩ := h
  refine fV_iast hF e3 hA4 hix5 dX4_laysLine_86 ?_
  refine fV_aload_n hF dX4_laysLine_87 rfl rfl ?_
  refine fV_dup hF dX4_laysLine_88 rfl ?_
  refine fV_getI (k := 5) (i := 30) hF fK5 rfl hA1 (by decide) fw_1185 (Or.inl rfl) rfl dX4_laysLine_89 ?_
  refine fV_iconst (v := 1) hF dX4_laysLine_92 (by decide) ?_
  refine fV_iadd hF dX4_laysLine_93 ?_
  refine fV_putI (k := 5) (i := 30) hF fK5 tyX4_ok nmX4 rfl hA1 (by decide) rfl fw_1185 (Or.inl rfl) (Or.inl rfl) rfl rfl dX4_laysLine_94 ?_
  refine fV_iinc (v := 1) hF (fun y => [some (aR (some o)), some (aI y), some (aI x2)]) dX4_laysLine_97 rfl (by decide) (by rw [hxn]; decide) rfl (fun _ => rfl) (fun v6 ev6 => ?_)
  have h := h v6 ev6
  refine fV_goto (tgt := 7) hF dX4_laysLine_100 (by decide) ?_
  refine fV.sub (l' := [some (aR (some o)), some (aI v6), none]) ⟨rfl, ⟨rfl, trivial⟩⟩ ?_
  exact hK7 (wI (wI S a2 (Int32.toNatClampNeg x2) x1) o 30 ((sI (wI S a2 (Int32.toNatClampNeg x2) x1) o 30) + (1 : Int32))) n v6 h
set_option maxRecDepth 100000 in
set_option maxHeartbeats 4000000 in
theorem mB_X4_laysLine_40 {F : fX} {lv : Nat} (hlv : 3 ≤ lv) (hF : fOk F cX4_laysLine RX4 lv) (hxn : xn F = 3) (hr : (xM F).sig.returnType = none) {post : fMS → Nat → Prop} {K7 : fMS → Nat → Int32 → Prop} {o : Nat} (hE : fEnd F lv (fPV post)) (hK7 : ∀ (S : fMS) (n : Nat) (x1 : Int32), K7 S n x1 → fV F S n 7 [some (aR (some o)), some (aI x1), none] []) : ∀ (f : Nat) (S : fMS) (n : Nat) (x1 : Int32) (x2 : Int32) (h : wB_X4_laysLine_40 post K7 o f S n x1 x2), fV F S n 40 [some (aR (some o)), some (aI x1), some (aI x2)] [] := by
  intro f
  induction f with
  | zero => intro _ _ _ _ h; exact h.elim
  | succ f ih =>
    intro S n x1 x2 h
    simp only [wB_X4_laysLine_40] at h
    refine fV_iload_n hF dX4_laysLine_40 rfl rfl ?_
    refine fV_if_le (tgt := 80) hF dX4_laysLine_41 (by decide) (fun c1 => ?_) (fun c1 => ?_)
    · have h := h.1 c1
      refine fV.sub (l' := [some (aR (some o)), some (aI x1), some (aI x2)]) ⟨rfl, ⟨rfl, ⟨rfl, trivial⟩⟩⟩ ?_
      exact mB_X4_laysLine_80 hlv hF hxn hr hE hK7 S n x1 x2 h
    · have h := h.2 c1
      refine fV_aload_n hF dX4_laysLine_44 rfl rfl ?_
      refine fV_iload_n hF dX4_laysLine_45 rfl rfl ?_
      refine fV_aload_n hF dX4_laysLine_46 rfl rfl ?_
      obtain ⟨hA2, h⟩ := h
      refine fV_getR (k := 5) (i := 29) hF fK5 rfl hA2 (by decide) fw_1184 (Or.inl rfl) rfl dX4_laysLine_47 ?_
      refine fV_iload_n hF dX4_laysLine_50 rfl rfl ?_
      refine fV_iconst (v := 1) hF dX4_laysLine_51 (by decide) ?_
      refine fV_isub hF dX4_laysLine_52 ?_
      obtain ⟨a3, e4, hA5, h⟩ := h
      obtain ⟨hix6, h⟩ := h
      refine fV_iald hF e4 hA5 hix6 dX4_laysLine_53 ?_
      refine fV_callV (k := 5) (As := [(aI x1), (aI (sI S a3 (Int32.toNatClampNeg (x2 - (1 : Int32)))))]) hF (mc_X4_isAhead hF.2.2.2.2.2.2.2.2.1 h) fK5 rfl hA2 (by omega) fw_1316 fw_1313 fw_1315 fwp_52 fw_10 ⟨rfl, by decide, by decide, by decide +kernel⟩ (na := 2) rfl (by decide) (Nat.le_of_ble_eq_true rfl) dX4_laysLine_54 rfl (fun rv S9 n9 hp => ?_)
      obtain ⟨v7, rfl, rfl, rfl, h⟩ := hp
      refine fV_if_eq (tgt := 80) hF dX4_laysLine_57 (by decide) (fun c8 => ?_) (fun c8 => ?_)
      · have h := h.1 c8
        refine fV.sub (l' := [some (aR (some o)), some (aI x1), some (aI x2)]) ⟨rfl, ⟨rfl, ⟨rfl, trivial⟩⟩⟩ ?_
        exact mB_X4_laysLine_80 hlv hF hxn hr hE hK7 S n x1 x2 h
      · have h := h.2 c8
        refine fV_aload_n hF dX4_laysLine_60 rfl rfl ?_
        refine fV_getR (k := 5) (i := 29) hF fK5 rfl hA2 (by decide) fw_1184 (Or.inl rfl) rfl dX4_laysLine_61 ?_
        refine fV_iload_n hF dX4_laysLine_64 rfl rfl ?_
        refine fV_aload_n hF dX4_laysLine_65 rfl rfl ?_
        refine fV_getR (k := 5) (i := 29) hF fK5 rfl hA2 (by decide) fw_1184 (Or.inl rfl) rfl dX4_laysLine_66 ?_
        refine fV_iload_n hF dX4_laysLine_69 rfl rfl ?_
        refine fV_iconst (v := 1) hF dX4_laysLine_70 (by decide) ?_
        refine fV_isub hF dX4_laysLine_71 ?_
        obtain ⟨hix9, h⟩ := h
        refine fV_iald hF e4 hA5 hix9 dX4_laysLine_72 ?_
        obtain ⟨hix10, h⟩ := h
        refine fV_iast hF e4 hA5 hix10 dX4_laysLine_73 ?_
        refine fV_iinc (v := -1) hF (fun y => [some (aR (some o)), some (aI x1), some (aI y)]) dX4_laysLine_74 rfl (by decide) (by rw [hxn]; decide) rfl (fun _ => rfl) (fun v11 ev11 => ?_)
        have h := h v11 ev11
        refine fV_goto (tgt := 40) hF dX4_laysLine_77 (by decide) ?_
        refine fV.sub (l' := [some (aR (some o)), some (aI x1), some (aI v11)]) ⟨rfl, ⟨rfl, ⟨rfl, trivial⟩⟩⟩ ?_
        exact ih (wI S a3 (Int32.toNatClampNeg x2) (sI S a3 (Int32.toNatClampNeg (x2 - (1 : Int32))))) n x1 v11 h
set_option maxRecDepth 100000 in
set_option maxHeartbeats 4000000 in
theorem mB_X4_laysLine_7 {F : fX} {lv : Nat} (hlv : 3 ≤ lv) (hF : fOk F cX4_laysLine RX4 lv) (hxn : xn F = 3) (hr : (xM F).sig.returnType = none) {post : fMS → Nat → Prop} {o : Nat} (hE : fEnd F lv (fPV post)) : ∀ (f : Nat) (S : fMS) (n : Nat) (x1 : Int32) (h : wB_X4_laysLine_7 post o f S n x1), fV F S n 7 [some (aR (some o)), some (aI x1), none] [] := by
  intro f
  induction f with
  | zero => intro _ _ _ h; exact h.elim
  | succ f ih =>
    intro S n x1 h
    simp only [wB_X4_laysLine_7] at h
    refine fV_iload_n hF dX4_laysLine_7 rfl rfl ?_
    refine fV_aload_n hF dX4_laysLine_8 rfl rfl ?_
    obtain ⟨hA1, h⟩ := h
    refine fV_getI (k := 5) (i := 4) hF fK5 rfl hA1 (by decide) fw_1159 (Or.inl rfl) rfl dX4_laysLine_9 ?_
    refine fV_icmp_ge (tgt := 103) hF dX4_laysLine_12 (by decide) (fun c2 => ?_) (fun c2 => ?_)
    · have h := h.1 c2
      exact fV_vret hF hE.s (by omega) hr dX4_laysLine_103 ⟨rfl, h⟩
    · have h := h.2 c2
      refine fV_aload_n hF dX4_laysLine_15 rfl rfl ?_
      refine fV_iload_n hF dX4_laysLine_16 rfl rfl ?_
      refine fV_callV (k := 5) (As := [(aI x1)]) hF (mc_X4_isLeaf hF.2.2.2.2.2.2.2.2.1 h) fK5 rfl hA1 (by omega) fw_1292 fw_1289 fw_1291 fwp_46 fw_10 ⟨rfl, by decide, by decide, by decide +kernel⟩ (na := 1) rfl (by decide) (Nat.le_of_ble_eq_true rfl) dX4_laysLine_17 rfl (fun rv S9 n9 hp => ?_)
      obtain ⟨v3, rfl, rfl, rfl, h⟩ := hp
      refine fV_if_eq (tgt := 97) hF dX4_laysLine_20 (by decide) (fun c4 => ?_) (fun c4 => ?_)
      · have h := h.1 c4
        refine fV_iinc (v := 1) hF (fun y => [some (aR (some o)), some (aI y), none]) dX4_laysLine_97 rfl (by decide) (by rw [hxn]; decide) rfl (fun _ => rfl) (fun v5 ev5 => ?_)
        have h := h v5 ev5
        refine fV_goto (tgt := 7) hF dX4_laysLine_100 (by decide) ?_
        refine fV.sub (l' := [some (aR (some o)), some (aI v5), none]) ⟨rfl, ⟨rfl, trivial⟩⟩ ?_
        exact ih S n v5 h
      · have h := h.2 c4
        refine fV_aload_n hF dX4_laysLine_23 rfl rfl ?_
        refine fV_iload_n hF dX4_laysLine_24 rfl rfl ?_
        refine fV_callV (k := 5) (As := [(aI x1)]) hF (mc_X4_firstJob hF.2.2.2.2.2.2.2.2.1 h) fK5 rfl hA1 (by omega) fw_1312 fw_1309 fw_1311 fwp_51 fw_10 ⟨rfl, by decide, by decide, by decide +kernel⟩ (na := 1) rfl (by decide) (Nat.le_of_ble_eq_true rfl) dX4_laysLine_25 rfl (fun rv S9 n9 hp => ?_)
        obtain ⟨v6, rfl, rfl, rfl, h⟩ := hp
        refine fV_iconst (v := -1) hF dX4_laysLine_28 (by decide) ?_
        refine fV_icmp_ne (tgt := 35) hF dX4_laysLine_29 (by decide) (fun c7 => ?_) (fun c7 => ?_)
        · have h := h.1 c7
          refine fV_aload_n hF dX4_laysLine_35 rfl rfl ?_
          refine fV_getI (k := 5) (i := 30) hF fK5 rfl hA1 (by decide) fw_1185 (Or.inl rfl) rfl dX4_laysLine_36 ?_
          refine fV_istore_n hF (fun y => [some (aR (some o)), some (aI x1), some (aI y)]) dX4_laysLine_39 rfl (by rw [hxn]; decide) rfl (fun _ => rfl) (fun v8 ev8 => ?_)
          have h := h v8 ev8
          obtain ⟨f1, h⟩ := h
          refine fV.sub (l' := [some (aR (some o)), some (aI x1), some (aI v8)]) ⟨rfl, ⟨rfl, ⟨rfl, trivial⟩⟩⟩ ?_
          exact mB_X4_laysLine_40 hlv hF hxn hr hE (fun S9 n9 z0 h9 => ih S9 n9 z0 h9) f1 S n x1 v8 h
        · have h := h.2 c7
          refine fV_goto (tgt := 97) hF dX4_laysLine_32 (by decide) ?_
          refine fV_iinc (v := 1) hF (fun y => [some (aR (some o)), some (aI y), none]) dX4_laysLine_97 rfl (by decide) (by rw [hxn]; decide) rfl (fun _ => rfl) (fun v9 ev9 => ?_)
          have h := h v9 ev9
          refine fV_goto (tgt := 7) hF dX4_laysLine_100 (by decide) ?_
          refine fV.sub (l' := [some (aR (some o)), some (aI v9), none]) ⟨rfl, ⟨rfl, trivial⟩⟩ ?_
          exact ih S n v9 h
set_option maxRecDepth 100000 in
set_option maxHeartbeats 4000000 in
theorem mc_X4_laysLine {l : Launch} (hfl : l.stackTraces = false) {G : fG} {S : fMS} {n : Nat} {o : Nat} {post : fMS → Nat → Prop} (h : wp_X4_laysLine S n o post) : fCM l yX4_laysLine (.code yX4_laysLine cX4_laysLine 3 none) 3 G [(aR (some o))] S n (fPV post) := by
  refine fCM_of hfl (by decide) (by intro v hv; simp only [List.mem_cons, List.not_mem_nil, or_false] at hv; rcases hv with rfl <;> rfl) (Nat.le_of_ble_eq_true rfl) (fun F hF hxn hl hG hr hin hE => ?_)
  subst hl hG
  have hlv : 3 ≤ 3 := Nat.le_refl _
  show fV F S n 0 [some (aR (some o)), none, none] []
  unfold wp_X4_laysLine at h
  refine fV_aload_n hF dX4_laysLine_0 rfl rfl ?_
  refine fV_iconst (v := 0) hF dX4_laysLine_1 (by decide) ?_
  obtain ⟨hA1, h⟩ := h
  refine fV_putI (k := 5) (i := 30) hF fK5 tyX4_ok nmX4 rfl hA1 (by decide) rfl fw_1185 (Or.inl rfl) (Or.inl rfl) rfl rfl dX4_laysLine_2 ?_
  refine fV_iconst (v := 0) hF dX4_laysLine_5 (by decide) ?_
  refine fV_istore_n0 hF [some (aR (some o)), some (aI (0 : Int32)), none] dX4_laysLine_6 rfl (by rw [hxn]; decide) rfl rfl ?_
  obtain ⟨f1, h⟩ := h
  refine fV.sub (l' := [some (aR (some o)), some (aI (0 : Int32)), none]) ⟨rfl, ⟨rfl, trivial⟩⟩ ?_
  exact mB_X4_laysLine_7 hlv hF hxn hr hE  f1 (wI S o 30 (0 : Int32)) n (0 : Int32) h
set_option maxRecDepth 100000 in
set_option maxHeartbeats 4000000 in
theorem mB_X4_runsMore_2 {F : fX} {lv : Nat} (hlv : 1 ≤ lv) (hF : fOk F cX4_runsMore RX4 lv) (hxn : xn F = 4) (hr : (xM F).sig.returnType = none) {post : fMS → Nat → Prop} {o : Nat} {p1 : Int32} {p2 : Int32} (hE : fEnd F lv (fPV post)) : ∀ (f : Nat) (S : fMS) (n : Nat) (x3 : Int32) (h : wB_X4_runsMore_2 post o p1 p2 f S n x3), fV F S n 2 [some (aR (some o)), some (aI p1), some (aI p2), some (aI x3)] [] := by
  intro f
  induction f with
  | zero => intro _ _ _ h; exact h.elim
  | succ f ih =>
    intro S n x3 h
    simp only [wB_X4_runsMore_2] at h
    refine fV_iload_n hF dX4_runsMore_2 rfl rfl ?_
    refine fV_iconst (v := -1) hF dX4_runsMore_3 (by decide) ?_
    refine fV_icmp_eq (tgt := 27) hF dX4_runsMore_4 (by decide) (fun c1 => ?_) (fun c1 => ?_)
    · have h := h.1 c1
      exact fV_vret hF hE.s (by omega) hr dX4_runsMore_27 ⟨rfl, h⟩
    · have h := h.2 c1
      refine fV_aload_n hF dX4_runsMore_7 rfl rfl ?_
      obtain ⟨hA2, h⟩ := h
      refine fV_getR (k := 5) (i := 10) hF fK5 rfl hA2 (by decide) fw_1165 (Or.inl rfl) rfl dX4_runsMore_8 ?_
      refine fV_iload_n hF dX4_runsMore_11 rfl rfl ?_
      refine fV_dup2 hF dX4_runsMore_12 rfl rfl ?_
      obtain ⟨a3, e4, hA5, h⟩ := h
      obtain ⟨hix6, h⟩ := h
      refine fV_iald hF e4 hA5 hix6 dX4_runsMore_13 ?_
      refine fV_iload_n hF dX4_runsMore_14 rfl rfl ?_
      refine fV_iadd hF dX4_runsMore_15 ?_
      obtain ⟨hix7, h⟩ := h
      refine fV_iast hF e4 hA5 hix7 dX4_runsMore_16 ?_
      refine fV_aload_n hF dX4_runsMore_17 rfl rfl ?_
      refine fV_getR (k := 5) (i := 5) hF fK5 rfl hA2 (by decide) fw_1160 (Or.inl rfl) rfl dX4_runsMore_18 ?_
      refine fV_iload_n hF dX4_runsMore_21 rfl rfl ?_
      obtain ⟨a8, e9, hA10, h⟩ := h
      obtain ⟨hix11, h⟩ := h
      refine fV_iald hF e9 hA10 hix11 dX4_runsMore_22 ?_
      refine fV_istore_n hF (fun y => [some (aR (some o)), some (aI p1), some (aI p2), some (aI y)]) dX4_runsMore_23 rfl (by rw [hxn]; decide) rfl (fun _ => rfl) (fun v12 ev12 => ?_)
      have h := h v12 ev12
      refine fV_goto (tgt := 2) hF dX4_runsMore_24 (by decide) ?_
      refine fV.sub (l' := [some (aR (some o)), some (aI p1), some (aI p2), some (aI v12)]) ⟨rfl, ⟨rfl, ⟨rfl, ⟨rfl, trivial⟩⟩⟩⟩ ?_
      exact ih (wI S a3 (Int32.toNatClampNeg x3) ((sI S a3 (Int32.toNatClampNeg x3)) + p2)) n v12 h
set_option maxRecDepth 100000 in
set_option maxHeartbeats 4000000 in
theorem mc_X4_runsMore {l : Launch} (hfl : l.stackTraces = false) {G : fG} {S : fMS} {n : Nat} {o : Nat} {p1 : Int32} {p2 : Int32} {post : fMS → Nat → Prop} (h : wp_X4_runsMore S n o p1 p2 post) : fCM l yX4_runsMore (.code yX4_runsMore cX4_runsMore 4 none) 1 G [(aR (some o)), (aI p1), (aI p2)] S n (fPV post) := by
  refine fCM_of hfl (by decide) (by intro v hv; simp only [List.mem_cons, List.not_mem_nil, or_false] at hv; rcases hv with rfl | rfl | rfl <;> rfl) (Nat.le_of_ble_eq_true rfl) (fun F hF hxn hl hG hr hin hE => ?_)
  subst hl hG
  have hlv : 1 ≤ 1 := Nat.le_refl _
  show fV F S n 0 [some (aR (some o)), some (aI p1), some (aI p2), none] []
  unfold wp_X4_runsMore at h
  refine fV_iload_n hF dX4_runsMore_0 rfl rfl ?_
  refine fV_istore_n0 hF [some (aR (some o)), some (aI p1), some (aI p2), some (aI p1)] dX4_runsMore_1 rfl (by rw [hxn]; decide) rfl rfl ?_
  obtain ⟨f1, h⟩ := h
  refine fV.sub (l' := [some (aR (some o)), some (aI p1), some (aI p2), some (aI p1)]) ⟨rfl, ⟨rfl, ⟨rfl, ⟨rfl, trivial⟩⟩⟩⟩ ?_
  exact mB_X4_runsMore_2 hlv hF hxn hr hE  f1 S n p1 h
set_option maxRecDepth 100000 in
set_option maxHeartbeats 4000000 in
theorem mc_X4_starts {l : Launch} (hfl : l.stackTraces = false) {G : fG} {S : fMS} {n : Nat} {o : Nat} {p1 : Int32} {post : fMS → Nat → Prop} (h : wp_X4_starts S n o p1 post) : fCM l yX4_starts (.code yX4_starts cX4_starts 2 none) 2 G [(aR (some o)), (aI p1)] S n (fPV post) := by
  refine fCM_of hfl (by decide) (by intro v hv; simp only [List.mem_cons, List.not_mem_nil, or_false] at hv; rcases hv with rfl | rfl <;> rfl) (Nat.le_of_ble_eq_true rfl) (fun F hF hxn hl hG hr hin hE => ?_)
  subst hl hG
  have hlv : 2 ≤ 2 := Nat.le_refl _
  show fV F S n 0 [some (aR (some o)), some (aI p1)] []
  unfold wp_X4_starts at h
  refine fV_aload_n hF dX4_starts_0 rfl rfl ?_
  obtain ⟨hA1, h⟩ := h
  refine fV_getR (k := 5) (i := 17) hF fK5 rfl hA1 (by decide) fw_1172 (Or.inl rfl) rfl dX4_starts_1 ?_
  refine fV_iload_n hF dX4_starts_4 rfl rfl ?_
  refine fV_iconst (v := 1) hF dX4_starts_5 (by decide) ?_
  obtain ⟨a2, e3, hA4, h⟩ := h
  obtain ⟨hix5, h⟩ := h
  refine fV_iast hF e3 hA4 hix5 dX4_starts_6 ?_
  refine fV_aload_n hF dX4_starts_7 rfl rfl ?_
  refine fV_getR (k := 5) (i := 16) hF fK5 rfl hA1 (by decide) fw_1171 (Or.inl rfl) rfl dX4_starts_8 ?_
  refine fV_iload_n hF dX4_starts_11 rfl rfl ?_
  refine fV_aload_n hF dX4_starts_12 rfl rfl ?_
  refine fV_getR (k := 5) (i := 15) hF fK5 rfl hA1 (by decide) fw_1170 (Or.inl rfl) rfl dX4_starts_13 ?_
  refine fV_iload_n hF dX4_starts_16 rfl rfl ?_
  obtain ⟨a6, e7, hA8, h⟩ := h
  obtain ⟨hix9, h⟩ := h
  refine fV_iald hF e7 hA8 hix9 dX4_starts_17 ?_
  obtain ⟨a10, e11, hA12, h⟩ := h
  obtain ⟨hix13, h⟩ := h
  refine fV_iast hF e11 hA12 hix13 dX4_starts_18 ?_
  refine fV_aload_n hF dX4_starts_19 rfl rfl ?_
  refine fV_getR (k := 5) (i := 19) hF fK5 rfl hA1 (by decide) fw_1174 (Or.inl rfl) rfl dX4_starts_20 ?_
  refine fV_iload_n hF dX4_starts_23 rfl rfl ?_
  refine fV_aload_n hF dX4_starts_24 rfl rfl ?_
  refine fV_getI (k := 5) (i := 20) hF fK5 rfl hA1 (by decide) fw_1175 (Or.inl rfl) rfl dX4_starts_25 ?_
  obtain ⟨a14, e15, hA16, h⟩ := h
  obtain ⟨hix17, h⟩ := h
  refine fV_iast hF e15 hA16 hix17 dX4_starts_28 ?_
  refine fV_aload_n hF dX4_starts_29 rfl rfl ?_
  refine fV_dup hF dX4_starts_30 rfl ?_
  refine fV_getI (k := 5) (i := 20) hF fK5 rfl hA1 (by decide) fw_1175 (Or.inl rfl) rfl dX4_starts_31 ?_
  refine fV_iconst (v := 1) hF dX4_starts_34 (by decide) ?_
  refine fV_iadd hF dX4_starts_35 ?_
  refine fV_putI (k := 5) (i := 20) hF fK5 tyX4_ok nmX4 rfl hA1 (by decide) rfl fw_1175 (Or.inl rfl) (Or.inl rfl) rfl rfl dX4_starts_36 ?_
  refine fV_aload_n hF dX4_starts_39 rfl rfl ?_
  refine fV_getR (k := 5) (i := 11) hF fK5 rfl hA1 (by decide) fw_1166 (Or.inl rfl) rfl dX4_starts_40 ?_
  refine fV_aload_n hF dX4_starts_43 rfl rfl ?_
  refine fV_getR (k := 5) (i := 13) hF fK5 rfl hA1 (by decide) fw_1168 (Or.inl rfl) rfl dX4_starts_44 ?_
  refine fV_iload_n hF dX4_starts_47 rfl rfl ?_
  obtain ⟨a18, e19, hA20, h⟩ := h
  obtain ⟨hix21, h⟩ := h
  refine fV_iald hF e19 hA20 hix21 dX4_starts_48 ?_
  refine fV_dup2 hF dX4_starts_49 rfl rfl ?_
  obtain ⟨a22, e23, hA24, h⟩ := h
  obtain ⟨hix25, h⟩ := h
  refine fV_iald hF e23 hA24 hix25 dX4_starts_50 ?_
  refine fV_aload_n hF dX4_starts_51 rfl rfl ?_
  refine fV_getR (k := 5) (i := 14) hF fK5 rfl hA1 (by decide) fw_1169 (Or.inl rfl) rfl dX4_starts_52 ?_
  refine fV_iload_n hF dX4_starts_55 rfl rfl ?_
  obtain ⟨a26, e27, hA28, h⟩ := h
  obtain ⟨hix29, h⟩ := h
  refine fV_iald hF e27 hA28 hix29 dX4_starts_56 ?_
  refine fV_isub hF dX4_starts_57 ?_
  obtain ⟨hix30, h⟩ := h
  refine fV_iast hF e23 hA24 hix30 dX4_starts_58 ?_
  refine fV_aload_n hF dX4_starts_59 rfl rfl ?_
  refine fV_aload_n hF dX4_starts_60 rfl rfl ?_
  refine fV_getR (k := 5) (i := 13) hF fK5 rfl hA1 (by decide) fw_1168 (Or.inl rfl) rfl dX4_starts_61 ?_
  refine fV_iload_n hF dX4_starts_64 rfl rfl ?_
  obtain ⟨a31, e32, hA33, h⟩ := h
  obtain ⟨hix34, h⟩ := h
  refine fV_iald hF e32 hA33 hix34 dX4_starts_65 ?_
  refine fV_aload_n hF dX4_starts_66 rfl rfl ?_
  refine fV_getR (k := 5) (i := 14) hF fK5 rfl hA1 (by decide) fw_1169 (Or.inl rfl) rfl dX4_starts_67 ?_
  refine fV_iload_n hF dX4_starts_70 rfl rfl ?_
  obtain ⟨a35, e36, hA37, h⟩ := h
  obtain ⟨hix38, h⟩ := h
  refine fV_iald hF e36 hA37 hix38 dX4_starts_71 ?_
  refine fV_callV (k := 5) (As := [(aI (sI (wI (wI (wI (wI (wI S a2 (Int32.toNatClampNeg p1) (1 : Int32)) a10 (Int32.toNatClampNeg p1) (sI (wI S a2 (Int32.toNatClampNeg p1) (1 : Int32)) a6 (Int32.toNatClampNeg p1))) a14 (Int32.toNatClampNeg p1) (sI (wI (wI S a2 (Int32.toNatClampNeg p1) (1 : Int32)) a10 (Int32.toNatClampNeg p1) (sI (wI S a2 (Int32.toNatClampNeg p1) (1 : Int32)) a6 (Int32.toNatClampNeg p1))) o 20)) o 20 ((sI (wI (wI (wI S a2 (Int32.toNatClampNeg p1) (1 : Int32)) a10 (Int32.toNatClampNeg p1) (sI (wI S a2 (Int32.toNatClampNeg p1) (1 : Int32)) a6 (Int32.toNatClampNeg p1))) a14 (Int32.toNatClampNeg p1) (sI (wI (wI S a2 (Int32.toNatClampNeg p1) (1 : Int32)) a10 (Int32.toNatClampNeg p1) (sI (wI S a2 (Int32.toNatClampNeg p1) (1 : Int32)) a6 (Int32.toNatClampNeg p1))) o 20)) o 20) + (1 : Int32))) a22 (Int32.toNatClampNeg (sI (wI (wI (wI (wI S a2 (Int32.toNatClampNeg p1) (1 : Int32)) a10 (Int32.toNatClampNeg p1) (sI (wI S a2 (Int32.toNatClampNeg p1) (1 : Int32)) a6 (Int32.toNatClampNeg p1))) a14 (Int32.toNatClampNeg p1) (sI (wI (wI S a2 (Int32.toNatClampNeg p1) (1 : Int32)) a10 (Int32.toNatClampNeg p1) (sI (wI S a2 (Int32.toNatClampNeg p1) (1 : Int32)) a6 (Int32.toNatClampNeg p1))) o 20)) o 20 ((sI (wI (wI (wI S a2 (Int32.toNatClampNeg p1) (1 : Int32)) a10 (Int32.toNatClampNeg p1) (sI (wI S a2 (Int32.toNatClampNeg p1) (1 : Int32)) a6 (Int32.toNatClampNeg p1))) a14 (Int32.toNatClampNeg p1) (sI (wI (wI S a2 (Int32.toNatClampNeg p1) (1 : Int32)) a10 (Int32.toNatClampNeg p1) (sI (wI S a2 (Int32.toNatClampNeg p1) (1 : Int32)) a6 (Int32.toNatClampNeg p1))) o 20)) o 20) + (1 : Int32))) a18 (Int32.toNatClampNeg p1))) ((sI (wI (wI (wI (wI S a2 (Int32.toNatClampNeg p1) (1 : Int32)) a10 (Int32.toNatClampNeg p1) (sI (wI S a2 (Int32.toNatClampNeg p1) (1 : Int32)) a6 (Int32.toNatClampNeg p1))) a14 (Int32.toNatClampNeg p1) (sI (wI (wI S a2 (Int32.toNatClampNeg p1) (1 : Int32)) a10 (Int32.toNatClampNeg p1) (sI (wI S a2 (Int32.toNatClampNeg p1) (1 : Int32)) a6 (Int32.toNatClampNeg p1))) o 20)) o 20 ((sI (wI (wI (wI S a2 (Int32.toNatClampNeg p1) (1 : Int32)) a10 (Int32.toNatClampNeg p1) (sI (wI S a2 (Int32.toNatClampNeg p1) (1 : Int32)) a6 (Int32.toNatClampNeg p1))) a14 (Int32.toNatClampNeg p1) (sI (wI (wI S a2 (Int32.toNatClampNeg p1) (1 : Int32)) a10 (Int32.toNatClampNeg p1) (sI (wI S a2 (Int32.toNatClampNeg p1) (1 : Int32)) a6 (Int32.toNatClampNeg p1))) o 20)) o 20) + (1 : Int32))) a22 (Int32.toNatClampNeg (sI (wI (wI (wI (wI S a2 (Int32.toNatClampNeg p1) (1 : Int32)) a10 (Int32.toNatClampNeg p1) (sI (wI S a2 (Int32.toNatClampNeg p1) (1 : Int32)) a6 (Int32.toNatClampNeg p1))) a14 (Int32.toNatClampNeg p1) (sI (wI (wI S a2 (Int32.toNatClampNeg p1) (1 : Int32)) a10 (Int32.toNatClampNeg p1) (sI (wI S a2 (Int32.toNatClampNeg p1) (1 : Int32)) a6 (Int32.toNatClampNeg p1))) o 20)) o 20 ((sI (wI (wI (wI S a2 (Int32.toNatClampNeg p1) (1 : Int32)) a10 (Int32.toNatClampNeg p1) (sI (wI S a2 (Int32.toNatClampNeg p1) (1 : Int32)) a6 (Int32.toNatClampNeg p1))) a14 (Int32.toNatClampNeg p1) (sI (wI (wI S a2 (Int32.toNatClampNeg p1) (1 : Int32)) a10 (Int32.toNatClampNeg p1) (sI (wI S a2 (Int32.toNatClampNeg p1) (1 : Int32)) a6 (Int32.toNatClampNeg p1))) o 20)) o 20) + (1 : Int32))) a18 (Int32.toNatClampNeg p1)))) - (sI (wI (wI (wI (wI S a2 (Int32.toNatClampNeg p1) (1 : Int32)) a10 (Int32.toNatClampNeg p1) (sI (wI S a2 (Int32.toNatClampNeg p1) (1 : Int32)) a6 (Int32.toNatClampNeg p1))) a14 (Int32.toNatClampNeg p1) (sI (wI (wI S a2 (Int32.toNatClampNeg p1) (1 : Int32)) a10 (Int32.toNatClampNeg p1) (sI (wI S a2 (Int32.toNatClampNeg p1) (1 : Int32)) a6 (Int32.toNatClampNeg p1))) o 20)) o 20 ((sI (wI (wI (wI S a2 (Int32.toNatClampNeg p1) (1 : Int32)) a10 (Int32.toNatClampNeg p1) (sI (wI S a2 (Int32.toNatClampNeg p1) (1 : Int32)) a6 (Int32.toNatClampNeg p1))) a14 (Int32.toNatClampNeg p1) (sI (wI (wI S a2 (Int32.toNatClampNeg p1) (1 : Int32)) a10 (Int32.toNatClampNeg p1) (sI (wI S a2 (Int32.toNatClampNeg p1) (1 : Int32)) a6 (Int32.toNatClampNeg p1))) o 20)) o 20) + (1 : Int32))) a26 (Int32.toNatClampNeg p1)))) a31 (Int32.toNatClampNeg p1))), (aI (sI (wI (wI (wI (wI (wI S a2 (Int32.toNatClampNeg p1) (1 : Int32)) a10 (Int32.toNatClampNeg p1) (sI (wI S a2 (Int32.toNatClampNeg p1) (1 : Int32)) a6 (Int32.toNatClampNeg p1))) a14 (Int32.toNatClampNeg p1) (sI (wI (wI S a2 (Int32.toNatClampNeg p1) (1 : Int32)) a10 (Int32.toNatClampNeg p1) (sI (wI S a2 (Int32.toNatClampNeg p1) (1 : Int32)) a6 (Int32.toNatClampNeg p1))) o 20)) o 20 ((sI (wI (wI (wI S a2 (Int32.toNatClampNeg p1) (1 : Int32)) a10 (Int32.toNatClampNeg p1) (sI (wI S a2 (Int32.toNatClampNeg p1) (1 : Int32)) a6 (Int32.toNatClampNeg p1))) a14 (Int32.toNatClampNeg p1) (sI (wI (wI S a2 (Int32.toNatClampNeg p1) (1 : Int32)) a10 (Int32.toNatClampNeg p1) (sI (wI S a2 (Int32.toNatClampNeg p1) (1 : Int32)) a6 (Int32.toNatClampNeg p1))) o 20)) o 20) + (1 : Int32))) a22 (Int32.toNatClampNeg (sI (wI (wI (wI (wI S a2 (Int32.toNatClampNeg p1) (1 : Int32)) a10 (Int32.toNatClampNeg p1) (sI (wI S a2 (Int32.toNatClampNeg p1) (1 : Int32)) a6 (Int32.toNatClampNeg p1))) a14 (Int32.toNatClampNeg p1) (sI (wI (wI S a2 (Int32.toNatClampNeg p1) (1 : Int32)) a10 (Int32.toNatClampNeg p1) (sI (wI S a2 (Int32.toNatClampNeg p1) (1 : Int32)) a6 (Int32.toNatClampNeg p1))) o 20)) o 20 ((sI (wI (wI (wI S a2 (Int32.toNatClampNeg p1) (1 : Int32)) a10 (Int32.toNatClampNeg p1) (sI (wI S a2 (Int32.toNatClampNeg p1) (1 : Int32)) a6 (Int32.toNatClampNeg p1))) a14 (Int32.toNatClampNeg p1) (sI (wI (wI S a2 (Int32.toNatClampNeg p1) (1 : Int32)) a10 (Int32.toNatClampNeg p1) (sI (wI S a2 (Int32.toNatClampNeg p1) (1 : Int32)) a6 (Int32.toNatClampNeg p1))) o 20)) o 20) + (1 : Int32))) a18 (Int32.toNatClampNeg p1))) ((sI (wI (wI (wI (wI S a2 (Int32.toNatClampNeg p1) (1 : Int32)) a10 (Int32.toNatClampNeg p1) (sI (wI S a2 (Int32.toNatClampNeg p1) (1 : Int32)) a6 (Int32.toNatClampNeg p1))) a14 (Int32.toNatClampNeg p1) (sI (wI (wI S a2 (Int32.toNatClampNeg p1) (1 : Int32)) a10 (Int32.toNatClampNeg p1) (sI (wI S a2 (Int32.toNatClampNeg p1) (1 : Int32)) a6 (Int32.toNatClampNeg p1))) o 20)) o 20 ((sI (wI (wI (wI S a2 (Int32.toNatClampNeg p1) (1 : Int32)) a10 (Int32.toNatClampNeg p1) (sI (wI S a2 (Int32.toNatClampNeg p1) (1 : Int32)) a6 (Int32.toNatClampNeg p1))) a14 (Int32.toNatClampNeg p1) (sI (wI (wI S a2 (Int32.toNatClampNeg p1) (1 : Int32)) a10 (Int32.toNatClampNeg p1) (sI (wI S a2 (Int32.toNatClampNeg p1) (1 : Int32)) a6 (Int32.toNatClampNeg p1))) o 20)) o 20) + (1 : Int32))) a22 (Int32.toNatClampNeg (sI (wI (wI (wI (wI S a2 (Int32.toNatClampNeg p1) (1 : Int32)) a10 (Int32.toNatClampNeg p1) (sI (wI S a2 (Int32.toNatClampNeg p1) (1 : Int32)) a6 (Int32.toNatClampNeg p1))) a14 (Int32.toNatClampNeg p1) (sI (wI (wI S a2 (Int32.toNatClampNeg p1) (1 : Int32)) a10 (Int32.toNatClampNeg p1) (sI (wI S a2 (Int32.toNatClampNeg p1) (1 : Int32)) a6 (Int32.toNatClampNeg p1))) o 20)) o 20 ((sI (wI (wI (wI S a2 (Int32.toNatClampNeg p1) (1 : Int32)) a10 (Int32.toNatClampNeg p1) (sI (wI S a2 (Int32.toNatClampNeg p1) (1 : Int32)) a6 (Int32.toNatClampNeg p1))) a14 (Int32.toNatClampNeg p1) (sI (wI (wI S a2 (Int32.toNatClampNeg p1) (1 : Int32)) a10 (Int32.toNatClampNeg p1) (sI (wI S a2 (Int32.toNatClampNeg p1) (1 : Int32)) a6 (Int32.toNatClampNeg p1))) o 20)) o 20) + (1 : Int32))) a18 (Int32.toNatClampNeg p1)))) - (sI (wI (wI (wI (wI S a2 (Int32.toNatClampNeg p1) (1 : Int32)) a10 (Int32.toNatClampNeg p1) (sI (wI S a2 (Int32.toNatClampNeg p1) (1 : Int32)) a6 (Int32.toNatClampNeg p1))) a14 (Int32.toNatClampNeg p1) (sI (wI (wI S a2 (Int32.toNatClampNeg p1) (1 : Int32)) a10 (Int32.toNatClampNeg p1) (sI (wI S a2 (Int32.toNatClampNeg p1) (1 : Int32)) a6 (Int32.toNatClampNeg p1))) o 20)) o 20 ((sI (wI (wI (wI S a2 (Int32.toNatClampNeg p1) (1 : Int32)) a10 (Int32.toNatClampNeg p1) (sI (wI S a2 (Int32.toNatClampNeg p1) (1 : Int32)) a6 (Int32.toNatClampNeg p1))) a14 (Int32.toNatClampNeg p1) (sI (wI (wI S a2 (Int32.toNatClampNeg p1) (1 : Int32)) a10 (Int32.toNatClampNeg p1) (sI (wI S a2 (Int32.toNatClampNeg p1) (1 : Int32)) a6 (Int32.toNatClampNeg p1))) o 20)) o 20) + (1 : Int32))) a26 (Int32.toNatClampNeg p1)))) a35 (Int32.toNatClampNeg p1)))]) hF (mc_X4_runsMore hF.2.2.2.2.2.2.2.2.1 h) fK5 rfl hA1 (by omega) fw_1356 fw_1353 fw_1355 fwp_62 fw_10 ⟨rfl, by decide, by decide, by decide +kernel⟩ (na := 2) rfl (by decide) (Nat.le_of_ble_eq_true rfl) dX4_starts_72 rfl (fun rv S39 n40 hp => ?_)
  obtain ⟨rfl, h⟩ := hp
  exact fV_vret hF hE.s (by omega) hr dX4_starts_75 ⟨rfl, h⟩
set_option maxRecDepth 100000 in
set_option maxHeartbeats 4000000 in
theorem mc_X4_halts {l : Launch} (hfl : l.stackTraces = false) {G : fG} {S : fMS} {n : Nat} {o : Nat} {p1 : Int32} {post : fMS → Nat → Prop} (h : wp_X4_halts S n o p1 post) : fCM l yX4_halts (.code yX4_halts cX4_halts 2 none) 2 G [(aR (some o)), (aI p1)] S n (fPV post) := by
  refine fCM_of hfl (by decide) (by intro v hv; simp only [List.mem_cons, List.not_mem_nil, or_false] at hv; rcases hv with rfl | rfl <;> rfl) (Nat.le_of_ble_eq_true rfl) (fun F hF hxn hl hG hr hin hE => ?_)
  subst hl hG
  have hlv : 2 ≤ 2 := Nat.le_refl _
  show fV F S n 0 [some (aR (some o)), some (aI p1)] []
  unfold wp_X4_halts at h
  refine fV_aload_n hF dX4_halts_0 rfl rfl ?_
  obtain ⟨hA1, h⟩ := h
  refine fV_getR (k := 5) (i := 17) hF fK5 rfl hA1 (by decide) fw_1172 (Or.inl rfl) rfl dX4_halts_1 ?_
  refine fV_iload_n hF dX4_halts_4 rfl rfl ?_
  refine fV_iconst (v := 0) hF dX4_halts_5 (by decide) ?_
  obtain ⟨a2, e3, hA4, h⟩ := h
  obtain ⟨hix5, h⟩ := h
  refine fV_iast hF e3 hA4 hix5 dX4_halts_6 ?_
  refine fV_aload_n hF dX4_halts_7 rfl rfl ?_
  refine fV_getR (k := 5) (i := 11) hF fK5 rfl hA1 (by decide) fw_1166 (Or.inl rfl) rfl dX4_halts_8 ?_
  refine fV_aload_n hF dX4_halts_11 rfl rfl ?_
  refine fV_getR (k := 5) (i := 13) hF fK5 rfl hA1 (by decide) fw_1168 (Or.inl rfl) rfl dX4_halts_12 ?_
  refine fV_iload_n hF dX4_halts_15 rfl rfl ?_
  obtain ⟨a6, e7, hA8, h⟩ := h
  obtain ⟨hix9, h⟩ := h
  refine fV_iald hF e7 hA8 hix9 dX4_halts_16 ?_
  refine fV_dup2 hF dX4_halts_17 rfl rfl ?_
  obtain ⟨a10, e11, hA12, h⟩ := h
  obtain ⟨hix13, h⟩ := h
  refine fV_iald hF e11 hA12 hix13 dX4_halts_18 ?_
  refine fV_aload_n hF dX4_halts_19 rfl rfl ?_
  refine fV_getR (k := 5) (i := 14) hF fK5 rfl hA1 (by decide) fw_1169 (Or.inl rfl) rfl dX4_halts_20 ?_
  refine fV_iload_n hF dX4_halts_23 rfl rfl ?_
  obtain ⟨a14, e15, hA16, h⟩ := h
  obtain ⟨hix17, h⟩ := h
  refine fV_iald hF e15 hA16 hix17 dX4_halts_24 ?_
  refine fV_iadd hF dX4_halts_25 ?_
  obtain ⟨hix18, h⟩ := h
  refine fV_iast hF e11 hA12 hix18 dX4_halts_26 ?_
  refine fV_aload_n hF dX4_halts_27 rfl rfl ?_
  refine fV_aload_n hF dX4_halts_28 rfl rfl ?_
  refine fV_getR (k := 5) (i := 13) hF fK5 rfl hA1 (by decide) fw_1168 (Or.inl rfl) rfl dX4_halts_29 ?_
  refine fV_iload_n hF dX4_halts_32 rfl rfl ?_
  obtain ⟨a19, e20, hA21, h⟩ := h
  obtain ⟨hix22, h⟩ := h
  refine fV_iald hF e20 hA21 hix22 dX4_halts_33 ?_
  refine fV_aload_n hF dX4_halts_34 rfl rfl ?_
  refine fV_getR (k := 5) (i := 14) hF fK5 rfl hA1 (by decide) fw_1169 (Or.inl rfl) rfl dX4_halts_35 ?_
  refine fV_iload_n hF dX4_halts_38 rfl rfl ?_
  obtain ⟨a23, e24, hA25, h⟩ := h
  obtain ⟨hix26, h⟩ := h
  refine fV_iald hF e24 hA25 hix26 dX4_halts_39 ?_
  refine fV_ineg hF dX4_halts_40 ?_
  refine fV_callV (k := 5) (As := [(aI (sI (wI (wI S a2 (Int32.toNatClampNeg p1) (0 : Int32)) a10 (Int32.toNatClampNeg (sI (wI S a2 (Int32.toNatClampNeg p1) (0 : Int32)) a6 (Int32.toNatClampNeg p1))) ((sI (wI S a2 (Int32.toNatClampNeg p1) (0 : Int32)) a10 (Int32.toNatClampNeg (sI (wI S a2 (Int32.toNatClampNeg p1) (0 : Int32)) a6 (Int32.toNatClampNeg p1)))) + (sI (wI S a2 (Int32.toNatClampNeg p1) (0 : Int32)) a14 (Int32.toNatClampNeg p1)))) a19 (Int32.toNatClampNeg p1))), (aI (-(sI (wI (wI S a2 (Int32.toNatClampNeg p1) (0 : Int32)) a10 (Int32.toNatClampNeg (sI (wI S a2 (Int32.toNatClampNeg p1) (0 : Int32)) a6 (Int32.toNatClampNeg p1))) ((sI (wI S a2 (Int32.toNatClampNeg p1) (0 : Int32)) a10 (Int32.toNatClampNeg (sI (wI S a2 (Int32.toNatClampNeg p1) (0 : Int32)) a6 (Int32.toNatClampNeg p1)))) + (sI (wI S a2 (Int32.toNatClampNeg p1) (0 : Int32)) a14 (Int32.toNatClampNeg p1)))) a23 (Int32.toNatClampNeg p1))))]) hF (mc_X4_runsMore hF.2.2.2.2.2.2.2.2.1 h) fK5 rfl hA1 (by omega) fw_1356 fw_1353 fw_1355 fwp_62 fw_10 ⟨rfl, by decide, by decide, by decide +kernel⟩ (na := 2) rfl (by decide) (Nat.le_of_ble_eq_true rfl) dX4_halts_41 rfl (fun rv S27 n28 hp => ?_)
  obtain ⟨rfl, h⟩ := hp
  exact fV_vret hF hE.s (by omega) hr dX4_halts_44 ⟨rfl, h⟩
set_option maxRecDepth 100000 in
set_option maxHeartbeats 4000000 in
theorem mc_X4_goesBack {l : Launch} (hfl : l.stackTraces = false) {G : fG} {S : fMS} {n : Nat} {o : Nat} {p1 : Int32} {post : fMS → Nat → Prop} (h : wp_X4_goesBack S n o p1 post) : fCM l yX4_goesBack (.code yX4_goesBack cX4_goesBack 2 none) 2 G [(aR (some o)), (aI p1)] S n (fPV post) := by
  refine fCM_of hfl (by decide) (by intro v hv; simp only [List.mem_cons, List.not_mem_nil, or_false] at hv; rcases hv with rfl | rfl <;> rfl) (Nat.le_of_ble_eq_true rfl) (fun F hF hxn hl hG hr hin hE => ?_)
  subst hl hG
  have hlv : 2 ≤ 2 := Nat.le_refl _
  show fV F S n 0 [some (aR (some o)), some (aI p1)] []
  unfold wp_X4_goesBack at h
  refine fV_aload_n hF dX4_goesBack_0 rfl rfl ?_
  obtain ⟨hA1, h⟩ := h
  refine fV_getR (k := 5) (i := 17) hF fK5 rfl hA1 (by decide) fw_1172 (Or.inl rfl) rfl dX4_goesBack_1 ?_
  refine fV_iload_n hF dX4_goesBack_4 rfl rfl ?_
  refine fV_iconst (v := 1) hF dX4_goesBack_5 (by decide) ?_
  obtain ⟨a2, e3, hA4, h⟩ := h
  obtain ⟨hix5, h⟩ := h
  refine fV_iast hF e3 hA4 hix5 dX4_goesBack_6 ?_
  refine fV_aload_n hF dX4_goesBack_7 rfl rfl ?_
  refine fV_getR (k := 5) (i := 11) hF fK5 rfl hA1 (by decide) fw_1166 (Or.inl rfl) rfl dX4_goesBack_8 ?_
  refine fV_aload_n hF dX4_goesBack_11 rfl rfl ?_
  refine fV_getR (k := 5) (i := 13) hF fK5 rfl hA1 (by decide) fw_1168 (Or.inl rfl) rfl dX4_goesBack_12 ?_
  refine fV_iload_n hF dX4_goesBack_15 rfl rfl ?_
  obtain ⟨a6, e7, hA8, h⟩ := h
  obtain ⟨hix9, h⟩ := h
  refine fV_iald hF e7 hA8 hix9 dX4_goesBack_16 ?_
  refine fV_dup2 hF dX4_goesBack_17 rfl rfl ?_
  obtain ⟨a10, e11, hA12, h⟩ := h
  obtain ⟨hix13, h⟩ := h
  refine fV_iald hF e11 hA12 hix13 dX4_goesBack_18 ?_
  refine fV_aload_n hF dX4_goesBack_19 rfl rfl ?_
  refine fV_getR (k := 5) (i := 14) hF fK5 rfl hA1 (by decide) fw_1169 (Or.inl rfl) rfl dX4_goesBack_20 ?_
  refine fV_iload_n hF dX4_goesBack_23 rfl rfl ?_
  obtain ⟨a14, e15, hA16, h⟩ := h
  obtain ⟨hix17, h⟩ := h
  refine fV_iald hF e15 hA16 hix17 dX4_goesBack_24 ?_
  refine fV_isub hF dX4_goesBack_25 ?_
  obtain ⟨hix18, h⟩ := h
  refine fV_iast hF e11 hA12 hix18 dX4_goesBack_26 ?_
  refine fV_aload_n hF dX4_goesBack_27 rfl rfl ?_
  refine fV_aload_n hF dX4_goesBack_28 rfl rfl ?_
  refine fV_getR (k := 5) (i := 13) hF fK5 rfl hA1 (by decide) fw_1168 (Or.inl rfl) rfl dX4_goesBack_29 ?_
  refine fV_iload_n hF dX4_goesBack_32 rfl rfl ?_
  obtain ⟨a19, e20, hA21, h⟩ := h
  obtain ⟨hix22, h⟩ := h
  refine fV_iald hF e20 hA21 hix22 dX4_goesBack_33 ?_
  refine fV_aload_n hF dX4_goesBack_34 rfl rfl ?_
  refine fV_getR (k := 5) (i := 14) hF fK5 rfl hA1 (by decide) fw_1169 (Or.inl rfl) rfl dX4_goesBack_35 ?_
  refine fV_iload_n hF dX4_goesBack_38 rfl rfl ?_
  obtain ⟨a23, e24, hA25, h⟩ := h
  obtain ⟨hix26, h⟩ := h
  refine fV_iald hF e24 hA25 hix26 dX4_goesBack_39 ?_
  refine fV_callV (k := 5) (As := [(aI (sI (wI (wI S a2 (Int32.toNatClampNeg p1) (1 : Int32)) a10 (Int32.toNatClampNeg (sI (wI S a2 (Int32.toNatClampNeg p1) (1 : Int32)) a6 (Int32.toNatClampNeg p1))) ((sI (wI S a2 (Int32.toNatClampNeg p1) (1 : Int32)) a10 (Int32.toNatClampNeg (sI (wI S a2 (Int32.toNatClampNeg p1) (1 : Int32)) a6 (Int32.toNatClampNeg p1)))) - (sI (wI S a2 (Int32.toNatClampNeg p1) (1 : Int32)) a14 (Int32.toNatClampNeg p1)))) a19 (Int32.toNatClampNeg p1))), (aI (sI (wI (wI S a2 (Int32.toNatClampNeg p1) (1 : Int32)) a10 (Int32.toNatClampNeg (sI (wI S a2 (Int32.toNatClampNeg p1) (1 : Int32)) a6 (Int32.toNatClampNeg p1))) ((sI (wI S a2 (Int32.toNatClampNeg p1) (1 : Int32)) a10 (Int32.toNatClampNeg (sI (wI S a2 (Int32.toNatClampNeg p1) (1 : Int32)) a6 (Int32.toNatClampNeg p1)))) - (sI (wI S a2 (Int32.toNatClampNeg p1) (1 : Int32)) a14 (Int32.toNatClampNeg p1)))) a23 (Int32.toNatClampNeg p1)))]) hF (mc_X4_runsMore hF.2.2.2.2.2.2.2.2.1 h) fK5 rfl hA1 (by omega) fw_1356 fw_1353 fw_1355 fwp_62 fw_10 ⟨rfl, by decide, by decide, by decide +kernel⟩ (na := 2) rfl (by decide) (Nat.le_of_ble_eq_true rfl) dX4_goesBack_40 rfl (fun rv S27 n28 hp => ?_)
  obtain ⟨rfl, h⟩ := hp
  exact fV_vret hF hE.s (by omega) hr dX4_goesBack_43 ⟨rfl, h⟩
set_option maxRecDepth 100000 in
set_option maxHeartbeats 4000000 in
theorem mB_X4_isWithinLimits_43 {F : fX} {lv : Nat} (hlv : 1 ≤ lv) (hF : fOk F cX4_isWithinLimits RX4 lv) (hxn : xn F = 4) (hr : (xM F).sig.returnType = (some .boolean)) {S : fMS} {n : Nat} {post : Int32 → Prop} {K44 : Int32 → Int32 → Prop} {o : Nat} {p1 : Int32} (hE : fEnd F lv (fPI (fun x S' n' => S = S' ∧ n = n' ∧ post x))) (hK44 : ∀ (x3 : Int32) (y0 : Int32), K44 x3 y0 → fV F S n 44 [some (aR (some o)), some (aI p1), none, some (aI x3)] [(aI y0)]) (x3 : Int32) (h : wB_X4_isWithinLimits_43 S post K44 o p1 x3) : fV F S n 43 [some (aR (some o)), some (aI p1), none, some (aI x3)] [] := by
  unfold wB_X4_isWithinLimits_43 at h
  refine fV_iconst (v := 0) hF dX4_isWithinLimits_43 (by decide) ?_
  refine fV.sub (l' := [some (aR (some o)), some (aI p1), none, some (aI x3)]) ⟨rfl, ⟨rfl, ⟨rfl, trivial⟩⟩⟩ ?_
  exact hK44 x3 (0 : Int32) h
set_option maxRecDepth 100000 in
set_option maxHeartbeats 4000000 in
theorem mB_X4_isWithinLimits_44 {F : fX} {lv : Nat} (hlv : 1 ≤ lv) (hF : fOk F cX4_isWithinLimits RX4 lv) (hxn : xn F = 4) (hr : (xM F).sig.returnType = (some .boolean)) {S : fMS} {n : Nat} {post : Int32 → Prop} {K9 : Int32 → Int32 → Prop} {o : Nat} {p1 : Int32} (hE : fEnd F lv (fPI (fun x S' n' => S = S' ∧ n = n' ∧ post x))) (hK9 : ∀ (x2 : Int32) (x3 : Int32), K9 x2 x3 → fV F S n 9 [some (aR (some o)), some (aI p1), some (aI x2), some (aI x3)] []) (x3 : Int32) (y0 : Int32) (h : wB_X4_isWithinLimits_44 S post K9 o p1 x3 y0) : fV F S n 44 [some (aR (some o)), some (aI p1), none, some (aI x3)] [(aI y0)] := by
  unfold wB_X4_isWithinLimits_44 at h
  refine fV_istore_n0 hF [some (aR (some o)), some (aI p1), some (aI y0), some (aI x3)] dX4_isWithinLimits_44 rfl (by rw [hxn]; decide) rfl rfl ?_
  refine fV_aload_n hF dX4_isWithinLimits_45 rfl rfl ?_
  obtain ⟨hA1, h⟩ := h
  refine fV_getR (k := 5) (i := 5) hF fK5 rfl hA1 (by decide) fw_1160 (Or.inl rfl) rfl dX4_isWithinLimits_46 ?_
  refine fV_iload_n hF dX4_isWithinLimits_49 rfl rfl ?_
  obtain ⟨a2, e3, hA4, h⟩ := h
  obtain ⟨hix5, h⟩ := h
  refine fV_iald hF e3 hA4 hix5 dX4_isWithinLimits_50 ?_
  refine fV_istore_n hF (fun y => [some (aR (some o)), some (aI p1), some (aI y0), some (aI y)]) dX4_isWithinLimits_51 rfl (by rw [hxn]; decide) rfl (fun _ => rfl) (fun v6 ev6 => ?_)
  have h := h v6 ev6
  refine fV_goto (tgt := 9) hF dX4_isWithinLimits_52 (by decide) ?_
  refine fV.sub (l' := [some (aR (some o)), some (aI p1), some (aI y0), some (aI v6)]) ⟨rfl, ⟨rfl, ⟨rfl, ⟨rfl, trivial⟩⟩⟩⟩ ?_
  exact hK9 y0 v6 h
set_option maxRecDepth 100000 in
set_option maxHeartbeats 4000000 in
theorem mB_X4_isWithinLimits_9 {F : fX} {lv : Nat} (hlv : 1 ≤ lv) (hF : fOk F cX4_isWithinLimits RX4 lv) (hxn : xn F = 4) (hr : (xM F).sig.returnType = (some .boolean)) {S : fMS} {n : Nat} {post : Int32 → Prop} {o : Nat} {p1 : Int32} (hE : fEnd F lv (fPI (fun x S' n' => S = S' ∧ n = n' ∧ post x))) : ∀ (f : Nat) (x2 : Int32) (x3 : Int32) (h : wB_X4_isWithinLimits_9 S post o p1 f x2 x3), fV F S n 9 [some (aR (some o)), some (aI p1), some (aI x2), some (aI x3)] [] := by
  intro f
  induction f with
  | zero => intro _ _ h; exact h.elim
  | succ f ih =>
    intro x2 x3 h
    simp only [wB_X4_isWithinLimits_9] at h
    refine fV_iload_n hF dX4_isWithinLimits_9 rfl rfl ?_
    refine fV_if_le (tgt := 55) hF dX4_isWithinLimits_10 (by decide) (fun c1 => ?_) (fun c1 => ?_)
    · have h := h.1 c1
      refine fV_iload_n hF dX4_isWithinLimits_55 rfl rfl ?_
      obtain ⟨hnr2, h⟩ := h
      exact fV_iret hF hE.s (by omega) hr hnr2 dX4_isWithinLimits_56 ⟨_, rfl, rfl, rfl, h⟩
    · have h := h.2 c1
      refine fV_iload_n hF dX4_isWithinLimits_13 rfl rfl ?_
      refine fV_if_eq (tgt := 43) hF dX4_isWithinLimits_14 (by decide) (fun c3 => ?_) (fun c3 => ?_)
      · have h := h.1 c3
        refine fV.sub (l' := [some (aR (some o)), some (aI p1), none, some (aI x3)]) ⟨rfl, ⟨rfl, ⟨rfl, trivial⟩⟩⟩ ?_
        exact mB_X4_isWithinLimits_43 hlv hF hxn hr hE (fun z0 z1 h9 => mB_X4_isWithinLimits_44 hlv hF hxn hr hE (fun z0 z1 h9 => ih z0 z1 h9) z0 z1 h9) x3 h
      · have h := h.2 c3
        refine fV_aload_n hF dX4_isWithinLimits_17 rfl rfl ?_
        obtain ⟨hA4, h⟩ := h
        refine fV_getR (k := 5) (i := 10) hF fK5 rfl hA4 (by decide) fw_1165 (Or.inl rfl) rfl dX4_isWithinLimits_18 ?_
        refine fV_iload_n hF dX4_isWithinLimits_21 rfl rfl ?_
        obtain ⟨a5, e6, hA7, h⟩ := h
        obtain ⟨hix8, h⟩ := h
        refine fV_iald hF e6 hA7 hix8 dX4_isWithinLimits_22 ?_
        refine fV_aload_n hF dX4_isWithinLimits_23 rfl rfl ?_
        refine fV_getR (k := 5) (i := 14) hF fK5 rfl hA4 (by decide) fw_1169 (Or.inl rfl) rfl dX4_isWithinLimits_24 ?_
        refine fV_iload_n hF dX4_isWithinLimits_27 rfl rfl ?_
        obtain ⟨a9, e10, hA11, h⟩ := h
        obtain ⟨hix12, h⟩ := h
        refine fV_iald hF e10 hA11 hix12 dX4_isWithinLimits_28 ?_
        refine fV_iadd hF dX4_isWithinLimits_29 ?_
        refine fV_aload_n hF dX4_isWithinLimits_30 rfl rfl ?_
        refine fV_getR (k := 5) (i := 7) hF fK5 rfl hA4 (by decide) fw_1162 (Or.inl rfl) rfl dX4_isWithinLimits_31 ?_
        refine fV_iload_n hF dX4_isWithinLimits_34 rfl rfl ?_
        obtain ⟨a13, e14, hA15, h⟩ := h
        obtain ⟨hix16, h⟩ := h
        refine fV_iald hF e14 hA15 hix16 dX4_isWithinLimits_35 ?_
        refine fV_icmp_gt (tgt := 43) hF dX4_isWithinLimits_36 (by decide) (fun c17 => ?_) (fun c17 => ?_)
        · have h := h.1 c17
          refine fV.sub (l' := [some (aR (some o)), some (aI p1), none, some (aI x3)]) ⟨rfl, ⟨rfl, ⟨rfl, trivial⟩⟩⟩ ?_
          exact mB_X4_isWithinLimits_43 hlv hF hxn hr hE (fun z0 z1 h9 => mB_X4_isWithinLimits_44 hlv hF hxn hr hE (fun z0 z1 h9 => ih z0 z1 h9) z0 z1 h9) x3 h
        · have h := h.2 c17
          refine fV_iconst (v := 1) hF dX4_isWithinLimits_39 (by decide) ?_
          refine fV_goto (tgt := 44) hF dX4_isWithinLimits_40 (by decide) ?_
          refine fV.sub (l' := [some (aR (some o)), some (aI p1), none, some (aI x3)]) ⟨rfl, ⟨rfl, ⟨rfl, trivial⟩⟩⟩ ?_
          exact mB_X4_isWithinLimits_44 hlv hF hxn hr hE (fun z0 z1 h9 => ih z0 z1 h9) x3 (1 : Int32) h
set_option maxRecDepth 100000 in
set_option maxHeartbeats 4000000 in
theorem mc_X4_isWithinLimits {l : Launch} (hfl : l.stackTraces = false) {G : fG} {S : fMS} {n : Nat} {o : Nat} {p1 : Int32} {post : Int32 → Prop} (h : wp_X4_isWithinLimits S o p1 post) : fCM l yX4_isWithinLimits (.code yX4_isWithinLimits cX4_isWithinLimits 4 (some .boolean)) 1 G [(aR (some o)), (aI p1)] S n (fPI (fun x S' n' => S = S' ∧ n = n' ∧ post x)) := by
  refine fCM_of hfl (by decide) (by intro v hv; simp only [List.mem_cons, List.not_mem_nil, or_false] at hv; rcases hv with rfl | rfl <;> rfl) (Nat.le_of_ble_eq_true rfl) (fun F hF hxn hl hG hr hin hE => ?_)
  subst hl hG
  have hlv : 1 ≤ 1 := Nat.le_refl _
  show fV F S n 0 [some (aR (some o)), some (aI p1), none, none] []
  unfold wp_X4_isWithinLimits at h
  refine fV_iconst (v := 1) hF dX4_isWithinLimits_0 (by decide) ?_
  refine fV_istore_n0 hF [some (aR (some o)), some (aI p1), some (aI (1 : Int32)), none] dX4_isWithinLimits_1 rfl (by rw [hxn]; decide) rfl rfl ?_
  refine fV_aload_n hF dX4_isWithinLimits_2 rfl rfl ?_
  obtain ⟨hA1, h⟩ := h
  refine fV_getR (k := 5) (i := 13) hF fK5 rfl hA1 (by decide) fw_1168 (Or.inl rfl) rfl dX4_isWithinLimits_3 ?_
  refine fV_iload_n hF dX4_isWithinLimits_6 rfl rfl ?_
  obtain ⟨a2, e3, hA4, h⟩ := h
  obtain ⟨hix5, h⟩ := h
  refine fV_iald hF e3 hA4 hix5 dX4_isWithinLimits_7 ?_
  refine fV_istore_n hF (fun y => [some (aR (some o)), some (aI p1), some (aI (1 : Int32)), some (aI y)]) dX4_isWithinLimits_8 rfl (by rw [hxn]; decide) rfl (fun _ => rfl) (fun v6 ev6 => ?_)
  have h := h v6 ev6
  obtain ⟨f1, h⟩ := h
  refine fV.sub (l' := [some (aR (some o)), some (aI p1), some (aI (1 : Int32)), some (aI v6)]) ⟨rfl, ⟨rfl, ⟨rfl, ⟨rfl, trivial⟩⟩⟩⟩ ?_
  exact mB_X4_isWithinLimits_9 hlv hF hxn hr hE  f1 (1 : Int32) v6 h
set_option maxRecDepth 100000 in
set_option maxHeartbeats 4000000 in
theorem mc_X4_canStart {l : Launch} (hfl : l.stackTraces = false) {G : fG} {S : fMS} {n : Nat} {o : Nat} {p1 : Int32} {post : Int32 → Prop} (h : wp_X4_canStart S o p1 post) : fCM l yX4_canStart (.code yX4_canStart cX4_canStart 2 (some .boolean)) 4 G [(aR (some o)), (aI p1)] S n (fPI (fun x S' n' => S = S' ∧ n = n' ∧ post x)) := by
  refine fCM_of hfl (by decide) (by intro v hv; simp only [List.mem_cons, List.not_mem_nil, or_false] at hv; rcases hv with rfl | rfl <;> rfl) (Nat.le_of_ble_eq_true rfl) (fun F hF hxn hl hG hr hin hE => ?_)
  subst hl hG
  have hlv : 4 ≤ 4 := Nat.le_refl _
  show fV F S n 0 [some (aR (some o)), some (aI p1)] []
  unfold wp_X4_canStart at h
  refine fV_aload_n hF dX4_canStart_0 rfl rfl ?_
  refine fV_iload_n hF dX4_canStart_1 rfl rfl ?_
  obtain ⟨hA1, h⟩ := h
  refine fV_callV (k := 5) (As := [(aI p1)]) hF (mc_X4_isWithinLimits hF.2.2.2.2.2.2.2.2.1 h) fK5 rfl hA1 (by omega) fw_1324 fw_1321 fw_1323 fwp_54 fw_10 ⟨rfl, by decide, by decide, by decide +kernel⟩ (na := 1) rfl (by decide) (Nat.le_of_ble_eq_true rfl) dX4_canStart_2 rfl (fun rv S9 n9 hp => ?_)
  obtain ⟨v2, rfl, rfl, rfl, h⟩ := hp
  refine fV_if_eq (tgt := 31) hF dX4_canStart_5 (by decide) (fun c3 => ?_) (fun c3 => ?_)
  · have h := h.1 c3
    refine fV_iconst (v := 0) hF dX4_canStart_31 (by decide) ?_
    exact fV_iret hF hE.s (by omega) hr (by decide) dX4_canStart_32 ⟨_, rfl, rfl, rfl, h⟩
  · have h := h.2 c3
    refine fV_aload_n hF dX4_canStart_8 rfl rfl ?_
    refine fV_getR (k := 5) (i := 14) hF fK5 rfl hA1 (by decide) fw_1169 (Or.inl rfl) rfl dX4_canStart_9 ?_
    refine fV_iload_n hF dX4_canStart_12 rfl rfl ?_
    obtain ⟨a4, e5, hA6, h⟩ := h
    obtain ⟨hix7, h⟩ := h
    refine fV_iald hF e5 hA6 hix7 dX4_canStart_13 ?_
    refine fV_aload_n hF dX4_canStart_14 rfl rfl ?_
    refine fV_aload_n hF dX4_canStart_15 rfl rfl ?_
    refine fV_getR (k := 5) (i := 13) hF fK5 rfl hA1 (by decide) fw_1168 (Or.inl rfl) rfl dX4_canStart_16 ?_
    refine fV_iload_n hF dX4_canStart_19 rfl rfl ?_
    obtain ⟨a8, e9, hA10, h⟩ := h
    obtain ⟨hix11, h⟩ := h
    refine fV_iald hF e9 hA10 hix11 dX4_canStart_20 ?_
    refine fV_callV (k := 5) (As := [(aI (sI S a8 (Int32.toNatClampNeg p1)))]) hF (mc_X4_freeOf hF.2.2.2.2.2.2.2.2.1 h) fK5 rfl hA1 (by omega) fw_1328 fw_1325 fw_1327 fwp_55 fw_10 ⟨rfl, by decide, by decide, by decide +kernel⟩ (na := 1) rfl (by decide) (Nat.le_of_ble_eq_true rfl) dX4_canStart_21 rfl (fun rv S9 n9 hp => ?_)
    obtain ⟨v12, rfl, rfl, rfl, h⟩ := hp
    refine fV_icmp_gt (tgt := 31) hF dX4_canStart_24 (by decide) (fun c13 => ?_) (fun c13 => ?_)
    · have h := h.1 c13
      refine fV_iconst (v := 0) hF dX4_canStart_31 (by decide) ?_
      exact fV_iret hF hE.s (by omega) hr (by decide) dX4_canStart_32 ⟨_, rfl, rfl, rfl, h⟩
    · have h := h.2 c13
      refine fV_iconst (v := 1) hF dX4_canStart_27 (by decide) ?_
      refine fV_goto (tgt := 32) hF dX4_canStart_28 (by decide) ?_
      exact fV_iret hF hE.s (by omega) hr (by decide) dX4_canStart_32 ⟨_, rfl, rfl, rfl, h⟩
set_option maxRecDepth 100000 in
set_option maxHeartbeats 4000000 in
theorem mB_X4_lastOver_60 {F : fX} {lv : Nat} (hlv : 3 ≤ lv) (hF : fOk F cX4_lastOver RX4 lv) (hxn : xn F = 5) (hr : (xM F).sig.returnType = (some .int)) {S : fMS} {n : Nat} {post : Int32 → Prop} {K61 : Int32 → Int32 → Int32 → Prop} {o : Nat} {p1 : Int32} (hE : fEnd F lv (fPI (fun x S' n' => S = S' ∧ n = n' ∧ post x))) (hK61 : ∀ (x2 : Int32) (x3 : Int32) (y0 : Int32), K61 x2 x3 y0 → fV F S n 61 [some (aR (some o)), some (aI p1), some (aI x2), some (aI x3), none] [(aI y0)]) (x2 : Int32) (x3 : Int32) (h : wB_X4_lastOver_60 S post K61 o p1 x2 x3) : fV F S n 60 [some (aR (some o)), some (aI p1), some (aI x2), some (aI x3), none] [] := by
  unfold wB_X4_lastOver_60 at h
  refine fV_iconst (v := 0) hF dX4_lastOver_60 (by decide) ?_
  refine fV.sub (l' := [some (aR (some o)), some (aI p1), some (aI x2), some (aI x3), none]) ⟨rfl, ⟨rfl, ⟨rfl, ⟨rfl, trivial⟩⟩⟩⟩ ?_
  exact hK61 x2 x3 (0 : Int32) h
set_option maxRecDepth 100000 in
set_option maxHeartbeats 4000000 in
theorem mB_X4_lastOver_88 {F : fX} {lv : Nat} (hlv : 3 ≤ lv) (hF : fOk F cX4_lastOver RX4 lv) (hxn : xn F = 5) (hr : (xM F).sig.returnType = (some .int)) {S : fMS} {n : Nat} {post : Int32 → Prop} {K4 : Int32 → Int32 → Prop} {o : Nat} {p1 : Int32} (hE : fEnd F lv (fPI (fun x S' n' => S = S' ∧ n = n' ∧ post x))) (hK4 : ∀ (x2 : Int32) (x3 : Int32), K4 x2 x3 → fV F S n 4 [some (aR (some o)), some (aI p1), some (aI x2), some (aI x3), none] []) (x3 : Int32) (h : wB_X4_lastOver_88 S post K4 o p1 x3) : fV F S n 88 [some (aR (some o)), some (aI p1), none, some (aI x3), none] [] := by
  unfold wB_X4_lastOver_88 at h
  refine fV_iload_n hF dX4_lastOver_88 rfl rfl ?_
  refine fV_goto (tgt := 93) hF dX4_lastOver_89 (by decide) ?_
  refine fV_istore_n0 hF [some (aR (some o)), some (aI p1), some (aI x3), some (aI x3), none] dX4_lastOver_93 rfl (by rw [hxn]; decide) rfl rfl ?_
  refine fV_iinc (v := 1) hF (fun y => [some (aR (some o)), some (aI p1), some (aI x3), some (aI y), none]) dX4_lastOver_94 rfl (by decide) (by rw [hxn]; decide) rfl (fun _ => rfl) (fun v1 ev1 => ?_)
  have h := h v1 ev1
  refine fV_goto (tgt := 4) hF dX4_lastOver_97 (by decide) ?_
  refine fV.sub (l' := [some (aR (some o)), some (aI p1), some (aI x3), some (aI v1), none]) ⟨rfl, ⟨rfl, ⟨rfl, ⟨rfl, trivial⟩⟩⟩⟩ ?_
  exact hK4 x3 v1 h
set_option maxRecDepth 100000 in
set_option maxHeartbeats 4000000 in
theorem mB_X4_lastOver_61 {F : fX} {lv : Nat} (hlv : 3 ≤ lv) (hF : fOk F cX4_lastOver RX4 lv) (hxn : xn F = 5) (hr : (xM F).sig.returnType = (some .int)) {S : fMS} {n : Nat} {post : Int32 → Prop} {K4 : Int32 → Int32 → Prop} {o : Nat} {p1 : Int32} (hE : fEnd F lv (fPI (fun x S' n' => S = S' ∧ n = n' ∧ post x))) (hK4 : ∀ (x2 : Int32) (x3 : Int32), K4 x2 x3 → fV F S n 4 [some (aR (some o)), some (aI p1), some (aI x2), some (aI x3), none] []) (x2 : Int32) (x3 : Int32) (y0 : Int32) (h : wB_X4_lastOver_61 S post K4 o p1 x2 x3 y0) : fV F S n 61 [some (aR (some o)), some (aI p1), some (aI x2), some (aI x3), none] [(aI y0)] := by
  unfold wB_X4_lastOver_61 at h
  refine fV_istore0 hF [some (aR (some o)), some (aI p1), some (aI x2), some (aI x3), some (aI y0)] dX4_lastOver_61 (by rw [hxn]; decide) rfl rfl ?_
  refine fV_iload hF dX4_lastOver_63 rfl ?_
  refine fV_if_eq (tgt := 92) hF dX4_lastOver_65 (by decide) (fun c1 => ?_) (fun c1 => ?_)
  · have h := h.1 c1
    refine fV_iload_n hF dX4_lastOver_92 rfl rfl ?_
    refine fV_istore_n0 hF [some (aR (some o)), some (aI p1), some (aI x2), some (aI x3), some (aI y0)] dX4_lastOver_93 rfl (by rw [hxn]; decide) rfl rfl ?_
    refine fV_iinc (v := 1) hF (fun y => [some (aR (some o)), some (aI p1), some (aI x2), some (aI y), some (aI y0)]) dX4_lastOver_94 rfl (by decide) (by rw [hxn]; decide) rfl (fun _ => rfl) (fun v2 ev2 => ?_)
    have h := h v2 ev2
    refine fV_goto (tgt := 4) hF dX4_lastOver_97 (by decide) ?_
    refine fV.sub (l' := [some (aR (some o)), some (aI p1), some (aI x2), some (aI v2), none]) ⟨rfl, ⟨rfl, ⟨rfl, ⟨rfl, trivial⟩⟩⟩⟩ ?_
    exact hK4 x2 v2 h
  · have h := h.2 c1
    refine fV_iload_n hF dX4_lastOver_68 rfl rfl ?_
    refine fV_iconst (v := -1) hF dX4_lastOver_69 (by decide) ?_
    refine fV_icmp_eq (tgt := 88) hF dX4_lastOver_70 (by decide) (fun c3 => ?_) (fun c3 => ?_)
    · have h := h.1 c3
      refine fV.sub (l' := [some (aR (some o)), some (aI p1), none, some (aI x3), none]) ⟨rfl, ⟨rfl, ⟨rfl, trivial⟩⟩⟩ ?_
      exact mB_X4_lastOver_88 hlv hF hxn hr hE hK4 x3 h
    · have h := h.2 c3
      refine fV_aload_n hF dX4_lastOver_73 rfl rfl ?_
      obtain ⟨hA4, h⟩ := h
      refine fV_getR (k := 5) (i := 19) hF fK5 rfl hA4 (by decide) fw_1174 (Or.inl rfl) rfl dX4_lastOver_74 ?_
      refine fV_iload_n hF dX4_lastOver_77 rfl rfl ?_
      obtain ⟨a5, e6, hA7, h⟩ := h
      obtain ⟨hix8, h⟩ := h
      refine fV_iald hF e6 hA7 hix8 dX4_lastOver_78 ?_
      refine fV_aload_n hF dX4_lastOver_79 rfl rfl ?_
      refine fV_getR (k := 5) (i := 19) hF fK5 rfl hA4 (by decide) fw_1174 (Or.inl rfl) rfl dX4_lastOver_80 ?_
      refine fV_iload_n hF dX4_lastOver_83 rfl rfl ?_
      obtain ⟨hix9, h⟩ := h
      refine fV_iald hF e6 hA7 hix9 dX4_lastOver_84 ?_
      refine fV_icmp_le (tgt := 92) hF dX4_lastOver_85 (by decide) (fun c10 => ?_) (fun c10 => ?_)
      · have h := h.1 c10
        refine fV_iload_n hF dX4_lastOver_92 rfl rfl ?_
        refine fV_istore_n0 hF [some (aR (some o)), some (aI p1), some (aI x2), some (aI x3), some (aI y0)] dX4_lastOver_93 rfl (by rw [hxn]; decide) rfl rfl ?_
        refine fV_iinc (v := 1) hF (fun y => [some (aR (some o)), some (aI p1), some (aI x2), some (aI y), some (aI y0)]) dX4_lastOver_94 rfl (by decide) (by rw [hxn]; decide) rfl (fun _ => rfl) (fun v11 ev11 => ?_)
        have h := h v11 ev11
        refine fV_goto (tgt := 4) hF dX4_lastOver_97 (by decide) ?_
        refine fV.sub (l' := [some (aR (some o)), some (aI p1), some (aI x2), some (aI v11), none]) ⟨rfl, ⟨rfl, ⟨rfl, ⟨rfl, trivial⟩⟩⟩⟩ ?_
        exact hK4 x2 v11 h
      · have h := h.2 c10
        refine fV.sub (l' := [some (aR (some o)), some (aI p1), none, some (aI x3), none]) ⟨rfl, ⟨rfl, ⟨rfl, trivial⟩⟩⟩ ?_
        exact mB_X4_lastOver_88 hlv hF hxn hr hE hK4 x3 h
set_option maxRecDepth 100000 in
set_option maxHeartbeats 4000000 in
theorem mB_X4_lastOver_4 {F : fX} {lv : Nat} (hlv : 3 ≤ lv) (hF : fOk F cX4_lastOver RX4 lv) (hxn : xn F = 5) (hr : (xM F).sig.returnType = (some .int)) {S : fMS} {n : Nat} {post : Int32 → Prop} {o : Nat} {p1 : Int32} (hE : fEnd F lv (fPI (fun x S' n' => S = S' ∧ n = n' ∧ post x))) : ∀ (f : Nat) (x2 : Int32) (x3 : Int32) (h : wB_X4_lastOver_4 S post o p1 f x2 x3), fV F S n 4 [some (aR (some o)), some (aI p1), some (aI x2), some (aI x3), none] [] := by
  intro f
  induction f with
  | zero => intro _ _ h; exact h.elim
  | succ f ih =>
    intro x2 x3 h
    simp only [wB_X4_lastOver_4] at h
    refine fV_iload_n hF dX4_lastOver_4 rfl rfl ?_
    refine fV_aload_n hF dX4_lastOver_5 rfl rfl ?_
    obtain ⟨hA1, h⟩ := h
    refine fV_getI (k := 5) (i := 12) hF fK5 rfl hA1 (by decide) fw_1167 (Or.inl rfl) rfl dX4_lastOver_6 ?_
    refine fV_icmp_ge (tgt := 100) hF dX4_lastOver_9 (by decide) (fun c2 => ?_) (fun c2 => ?_)
    · have h := h.1 c2
      refine fV_iload_n hF dX4_lastOver_100 rfl rfl ?_
      exact fV_iret hF hE.s (by omega) hr rfl dX4_lastOver_101 ⟨_, rfl, rfl, rfl, h⟩
    · have h := h.2 c2
      refine fV_aload_n hF dX4_lastOver_12 rfl rfl ?_
      refine fV_getR (k := 5) (i := 17) hF fK5 rfl hA1 (by decide) fw_1172 (Or.inl rfl) rfl dX4_lastOver_13 ?_
      refine fV_iload_n hF dX4_lastOver_16 rfl rfl ?_
      obtain ⟨a3, e4, hA5, h⟩ := h
      obtain ⟨hix6, h⟩ := h
      refine fV_iald hF e4 hA5 hix6 dX4_lastOver_17 ?_
      refine fV_iconst (v := 1) hF dX4_lastOver_18 (by decide) ?_
      refine fV_icmp_ne (tgt := 60) hF dX4_lastOver_19 (by decide) (fun c7 => ?_) (fun c7 => ?_)
      · have h := h.1 c7
        refine fV.sub (l' := [some (aR (some o)), some (aI p1), some (aI x2), some (aI x3), none]) ⟨rfl, ⟨rfl, ⟨rfl, ⟨rfl, trivial⟩⟩⟩⟩ ?_
        exact mB_X4_lastOver_60 hlv hF hxn hr hE (fun z0 z1 z2 h9 => mB_X4_lastOver_61 hlv hF hxn hr hE (fun z0 z1 h9 => ih z0 z1 h9) z0 z1 z2 h9) x2 x3 h
      · have h := h.2 c7
        refine fV_aload_n hF dX4_lastOver_22 rfl rfl ?_
        refine fV_getR (k := 5) (i := 13) hF fK5 rfl hA1 (by decide) fw_1168 (Or.inl rfl) rfl dX4_lastOver_23 ?_
        refine fV_iload_n hF dX4_lastOver_26 rfl rfl ?_
        obtain ⟨a8, e9, hA10, h⟩ := h
        obtain ⟨hix11, h⟩ := h
        refine fV_iald hF e9 hA10 hix11 dX4_lastOver_27 ?_
        refine fV_iload_n hF dX4_lastOver_28 rfl rfl ?_
        refine fV_icmp_eq (tgt := 60) hF dX4_lastOver_29 (by decide) (fun c12 => ?_) (fun c12 => ?_)
        · have h := h.1 c12
          refine fV.sub (l' := [some (aR (some o)), some (aI p1), some (aI x2), some (aI x3), none]) ⟨rfl, ⟨rfl, ⟨rfl, ⟨rfl, trivial⟩⟩⟩⟩ ?_
          exact mB_X4_lastOver_60 hlv hF hxn hr hE (fun z0 z1 z2 h9 => mB_X4_lastOver_61 hlv hF hxn hr hE (fun z0 z1 h9 => ih z0 z1 h9) z0 z1 z2 h9) x2 x3 h
        · have h := h.2 c12
          refine fV_aload_n hF dX4_lastOver_32 rfl rfl ?_
          refine fV_getR (k := 5) (i := 10) hF fK5 rfl hA1 (by decide) fw_1165 (Or.inl rfl) rfl dX4_lastOver_33 ?_
          refine fV_aload_n hF dX4_lastOver_36 rfl rfl ?_
          refine fV_getR (k := 5) (i := 13) hF fK5 rfl hA1 (by decide) fw_1168 (Or.inl rfl) rfl dX4_lastOver_37 ?_
          refine fV_iload_n hF dX4_lastOver_40 rfl rfl ?_
          obtain ⟨hix13, h⟩ := h
          refine fV_iald hF e9 hA10 hix13 dX4_lastOver_41 ?_
          obtain ⟨a14, e15, hA16, h⟩ := h
          obtain ⟨hix17, h⟩ := h
          refine fV_iald hF e15 hA16 hix17 dX4_lastOver_42 ?_
          refine fV_aload_n hF dX4_lastOver_43 rfl rfl ?_
          refine fV_aload_n hF dX4_lastOver_44 rfl rfl ?_
          refine fV_getR (k := 5) (i := 13) hF fK5 rfl hA1 (by decide) fw_1168 (Or.inl rfl) rfl dX4_lastOver_45 ?_
          refine fV_iload_n hF dX4_lastOver_48 rfl rfl ?_
          obtain ⟨hix18, h⟩ := h
          refine fV_iald hF e9 hA10 hix18 dX4_lastOver_49 ?_
          refine fV_callV (k := 5) (As := [(aI (sI S a8 (Int32.toNatClampNeg x3)))]) hF (mc_X4_dueOf hF.2.2.2.2.2.2.2.2.1 h) fK5 rfl hA1 (by omega) fw_1340 fw_1337 fw_1339 fwp_58 fw_10 ⟨rfl, by decide, by decide, by decide +kernel⟩ (na := 1) rfl (by decide) (Nat.le_of_ble_eq_true rfl) dX4_lastOver_50 rfl (fun rv S9 n9 hp => ?_)
          obtain ⟨v19, rfl, rfl, rfl, h⟩ := hp
          refine fV_icmp_le (tgt := 60) hF dX4_lastOver_53 (by decide) (fun c20 => ?_) (fun c20 => ?_)
          · have h := h.1 c20
            refine fV.sub (l' := [some (aR (some o)), some (aI p1), some (aI x2), some (aI x3), none]) ⟨rfl, ⟨rfl, ⟨rfl, ⟨rfl, trivial⟩⟩⟩⟩ ?_
            exact mB_X4_lastOver_60 hlv hF hxn hr hE (fun z0 z1 z2 h9 => mB_X4_lastOver_61 hlv hF hxn hr hE (fun z0 z1 h9 => ih z0 z1 h9) z0 z1 z2 h9) x2 x3 h
          · have h := h.2 c20
            refine fV_iconst (v := 1) hF dX4_lastOver_56 (by decide) ?_
            refine fV_goto (tgt := 61) hF dX4_lastOver_57 (by decide) ?_
            refine fV.sub (l' := [some (aR (some o)), some (aI p1), some (aI x2), some (aI x3), none]) ⟨rfl, ⟨rfl, ⟨rfl, ⟨rfl, trivial⟩⟩⟩⟩ ?_
            exact mB_X4_lastOver_61 hlv hF hxn hr hE (fun z0 z1 h9 => ih z0 z1 h9) x2 x3 (1 : Int32) h
set_option maxRecDepth 100000 in
set_option maxHeartbeats 4000000 in
theorem mc_X4_lastOver {l : Launch} (hfl : l.stackTraces = false) {G : fG} {S : fMS} {n : Nat} {o : Nat} {p1 : Int32} {post : Int32 → Prop} (h : wp_X4_lastOver S o p1 post) : fCM l yX4_lastOver (.code yX4_lastOver cX4_lastOver 5 (some .int)) 3 G [(aR (some o)), (aI p1)] S n (fPI (fun x S' n' => S = S' ∧ n = n' ∧ post x)) := by
  refine fCM_of hfl (by decide) (by intro v hv; simp only [List.mem_cons, List.not_mem_nil, or_false] at hv; rcases hv with rfl | rfl <;> rfl) (Nat.le_of_ble_eq_true rfl) (fun F hF hxn hl hG hr hin hE => ?_)
  subst hl hG
  have hlv : 3 ≤ 3 := Nat.le_refl _
  show fV F S n 0 [some (aR (some o)), some (aI p1), none, none, none] []
  unfold wp_X4_lastOver at h
  refine fV_iconst (v := -1) hF dX4_lastOver_0 (by decide) ?_
  refine fV_istore_n0 hF [some (aR (some o)), some (aI p1), some (aI (-1 : Int32)), none, none] dX4_lastOver_1 rfl (by rw [hxn]; decide) rfl rfl ?_
  refine fV_iconst (v := 0) hF dX4_lastOver_2 (by decide) ?_
  refine fV_istore_n0 hF [some (aR (some o)), some (aI p1), some (aI (-1 : Int32)), some (aI (0 : Int32)), none] dX4_lastOver_3 rfl (by rw [hxn]; decide) rfl rfl ?_
  obtain ⟨f1, h⟩ := h
  refine fV.sub (l' := [some (aR (some o)), some (aI p1), some (aI (-1 : Int32)), some (aI (0 : Int32)), none]) ⟨rfl, ⟨rfl, ⟨rfl, ⟨rfl, trivial⟩⟩⟩⟩ ?_
  exact mB_X4_lastOver_4 hlv hF hxn hr hE  f1 (-1 : Int32) (0 : Int32) h
set_option maxRecDepth 100000 in
set_option maxHeartbeats 4000000 in
theorem mB_X4_restores_2 {F : fX} {lv : Nat} (hlv : 3 ≤ lv) (hF : fOk F cX4_restores RX4 lv) (hxn : xn F = 2) (hr : (xM F).sig.returnType = none) {post : fMS → Nat → Prop} {o : Nat} (hE : fEnd F lv (fPV post)) : ∀ (f : Nat) (S : fMS) (n : Nat) (x1 : Int32) (h : wB_X4_restores_2 post o f S n x1), fV F S n 2 [some (aR (some o)), some (aI x1)] [] := by
  intro f
  induction f with
  | zero => intro _ _ _ h; exact h.elim
  | succ f ih =>
    intro S n x1 h
    simp only [wB_X4_restores_2] at h
    refine fV_iload_n hF dX4_restores_2 rfl rfl ?_
    refine fV_aload_n hF dX4_restores_3 rfl rfl ?_
    obtain ⟨hA1, h⟩ := h
    refine fV_getI (k := 5) (i := 32) hF fK5 rfl hA1 (by decide) fw_1187 (Or.inl rfl) rfl dX4_restores_4 ?_
    refine fV_icmp_ge (tgt := 26) hF dX4_restores_7 (by decide) (fun c2 => ?_) (fun c2 => ?_)
    · have h := h.1 c2
      refine fV_aload_n hF dX4_restores_26 rfl rfl ?_
      refine fV_iconst (v := 0) hF dX4_restores_27 (by decide) ?_
      refine fV_putI (k := 5) (i := 32) hF fK5 tyX4_ok nmX4 rfl hA1 (by decide) rfl fw_1187 (Or.inl rfl) (Or.inl rfl) rfl rfl dX4_restores_28 ?_
      exact fV_vret hF hE.s (by omega) hr dX4_restores_31 ⟨rfl, h⟩
    · have h := h.2 c2
      refine fV_aload_n hF dX4_restores_10 rfl rfl ?_
      refine fV_aload_n hF dX4_restores_11 rfl rfl ?_
      refine fV_getR (k := 5) (i := 31) hF fK5 rfl hA1 (by decide) fw_1186 (Or.inl rfl) rfl dX4_restores_12 ?_
      refine fV_iload_n hF dX4_restores_15 rfl rfl ?_
      obtain ⟨a3, e4, hA5, h⟩ := h
      obtain ⟨hix6, h⟩ := h
      refine fV_iald hF e4 hA5 hix6 dX4_restores_16 ?_
      refine fV_callV (k := 5) (As := [(aI (sI S a3 (Int32.toNatClampNeg x1)))]) hF (mc_X4_goesBack hF.2.2.2.2.2.2.2.2.1 h) fK5 rfl hA1 (by omega) fw_1352 fw_1349 fw_1351 fwp_61 fw_10 ⟨rfl, by decide, by decide, by decide +kernel⟩ (na := 1) rfl (by decide) (Nat.le_of_ble_eq_true rfl) dX4_restores_17 rfl (fun rv S7 n8 hp => ?_)
      obtain ⟨rfl, h⟩ := hp
      refine fV_iinc (v := 1) hF (fun y => [some (aR (some o)), some (aI y)]) dX4_restores_20 rfl (by decide) (by rw [hxn]; decide) rfl (fun _ => rfl) (fun v9 ev9 => ?_)
      have h := h v9 ev9
      refine fV_goto (tgt := 2) hF dX4_restores_23 (by decide) ?_
      refine fV.sub (l' := [some (aR (some o)), some (aI v9)]) ⟨rfl, ⟨rfl, trivial⟩⟩ ?_
      exact ih S7 n8 v9 h
set_option maxRecDepth 100000 in
set_option maxHeartbeats 4000000 in
theorem mc_X4_restores {l : Launch} (hfl : l.stackTraces = false) {G : fG} {S : fMS} {n : Nat} {o : Nat} {post : fMS → Nat → Prop} (h : wp_X4_restores S n o post) : fCM l yX4_restores (.code yX4_restores cX4_restores 2 none) 3 G [(aR (some o))] S n (fPV post) := by
  refine fCM_of hfl (by decide) (by intro v hv; simp only [List.mem_cons, List.not_mem_nil, or_false] at hv; rcases hv with rfl <;> rfl) (Nat.le_of_ble_eq_true rfl) (fun F hF hxn hl hG hr hin hE => ?_)
  subst hl hG
  have hlv : 3 ≤ 3 := Nat.le_refl _
  show fV F S n 0 [some (aR (some o)), none] []
  unfold wp_X4_restores at h
  refine fV_iconst (v := 0) hF dX4_restores_0 (by decide) ?_
  refine fV_istore_n0 hF [some (aR (some o)), some (aI (0 : Int32))] dX4_restores_1 rfl (by rw [hxn]; decide) rfl rfl ?_
  obtain ⟨f1, h⟩ := h
  refine fV.sub (l' := [some (aR (some o)), some (aI (0 : Int32))]) ⟨rfl, ⟨rfl, trivial⟩⟩ ?_
  exact mB_X4_restores_2 hlv hF hxn hr hE  f1 S n (0 : Int32) h
set_option maxRecDepth 100000 in
set_option maxHeartbeats 4000000 in
theorem mB_X4_makesRoom_57 {F : fX} {lv : Nat} (hlv : 4 ≤ lv) (hF : fOk F cX4_makesRoom RX4 lv) (hxn : xn F = 4) (hr : (xM F).sig.returnType = (some .boolean)) {post : Int32 → fMS → Nat → Prop} {o : Nat} {p1 : Int32} (hE : fEnd F lv (fPI post)) : ∀ (f : Nat) (S : fMS) (n : Nat) (x2 : Int32) (h : wB_X4_makesRoom_57 post o p1 f S n x2), fV F S n 57 [some (aR (some o)), some (aI p1), some (aI x2), none] [] := by
  intro f
  induction f with
  | zero => intro _ _ _ h; exact h.elim
  | succ f ih =>
    intro S n x2 h
    simp only [wB_X4_makesRoom_57] at h
    refine fV_aload_n hF dX4_makesRoom_57 rfl rfl ?_
    obtain ⟨hA1, h⟩ := h
    refine fV_getR (k := 5) (i := 14) hF fK5 rfl hA1 (by decide) fw_1169 (Or.inl rfl) rfl dX4_makesRoom_58 ?_
    refine fV_iload_n hF dX4_makesRoom_61 rfl rfl ?_
    obtain ⟨a2, e3, hA4, h⟩ := h
    obtain ⟨hix5, h⟩ := h
    refine fV_iald hF e3 hA4 hix5 dX4_makesRoom_62 ?_
    refine fV_aload_n hF dX4_makesRoom_63 rfl rfl ?_
    refine fV_iload_n hF dX4_makesRoom_64 rfl rfl ?_
    refine fV_callV (k := 5) (As := [(aI x2)]) hF (mc_X4_freeOf hF.2.2.2.2.2.2.2.2.1 h) fK5 rfl hA1 (by omega) fw_1328 fw_1325 fw_1327 fwp_55 fw_10 ⟨rfl, by decide, by decide, by decide +kernel⟩ (na := 1) rfl (by decide) (Nat.le_of_ble_eq_true rfl) dX4_makesRoom_65 rfl (fun rv S9 n9 hp => ?_)
    obtain ⟨v6, rfl, rfl, rfl, h⟩ := hp
    refine fV_icmp_le (tgt := 116) hF dX4_makesRoom_68 (by decide) (fun c7 => ?_) (fun c7 => ?_)
    · have h := h.1 c7
      refine fV_iconst (v := 1) hF dX4_makesRoom_116 (by decide) ?_
      exact fV_iret hF hE.s (by omega) hr (by decide) dX4_makesRoom_117 ⟨_, rfl, h⟩
    · have h := h.2 c7
      refine fV_aload_n hF dX4_makesRoom_71 rfl rfl ?_
      refine fV_iload_n hF dX4_makesRoom_72 rfl rfl ?_
      refine fV_callV (k := 5) (As := [(aI x2)]) hF (mc_X4_lastOver hF.2.2.2.2.2.2.2.2.1 h) fK5 rfl hA1 (by omega) fw_1344 fw_1341 fw_1343 fwp_59 fw_10 ⟨rfl, by decide, by decide, by decide +kernel⟩ (na := 1) rfl (by decide) (Nat.le_of_ble_eq_true rfl) dX4_makesRoom_73 rfl (fun rv S9 n9 hp => ?_)
      obtain ⟨v8, rfl, rfl, rfl, h⟩ := hp
      refine fV_istore_n0 hF [some (aR (some o)), some (aI p1), some (aI x2), some (aI v8)] dX4_makesRoom_76 rfl (by rw [hxn]; decide) rfl rfl ?_
      refine fV_iload_n hF dX4_makesRoom_77 rfl rfl ?_
      refine fV_iconst (v := -1) hF dX4_makesRoom_78 (by decide) ?_
      refine fV_icmp_ne (tgt := 88) hF dX4_makesRoom_79 (by decide) (fun c9 => ?_) (fun c9 => ?_)
      · have h := h.1 c9
        refine fV_aload_n hF dX4_makesRoom_88 rfl rfl ?_
        refine fV_iload_n hF dX4_makesRoom_89 rfl rfl ?_
        refine fV_callV (k := 5) (As := [(aI v8)]) hF (mc_X4_halts hF.2.2.2.2.2.2.2.2.1 h) fK5 rfl hA1 (by omega) fw_1360 fw_1357 fw_1359 fwp_63 fw_10 ⟨rfl, by decide, by decide, by decide +kernel⟩ (na := 1) rfl (by decide) (Nat.le_of_ble_eq_true rfl) dX4_makesRoom_90 rfl (fun rv S10 n11 hp => ?_)
        obtain ⟨rfl, h⟩ := hp
        refine fV_aload_n hF dX4_makesRoom_93 rfl rfl ?_
        obtain ⟨hA12, h⟩ := h
        refine fV_getR (k := 5) (i := 31) hF fK5 rfl hA12 (by decide) fw_1186 (Or.inl rfl) rfl dX4_makesRoom_94 ?_
        refine fV_aload_n hF dX4_makesRoom_97 rfl rfl ?_
        refine fV_getI (k := 5) (i := 32) hF fK5 rfl hA12 (by decide) fw_1187 (Or.inl rfl) rfl dX4_makesRoom_98 ?_
        refine fV_iload_n hF dX4_makesRoom_101 rfl rfl ?_
        obtain ⟨a13, e14, hA15, h⟩ := h
        obtain ⟨hix16, h⟩ := h
        refine fV_iast hF e14 hA15 hix16 dX4_makesRoom_102 ?_
        refine fV_aload_n hF dX4_makesRoom_103 rfl rfl ?_
        refine fV_dup hF dX4_makesRoom_104 rfl ?_
        refine fV_getI (k := 5) (i := 32) hF fK5 rfl hA12 (by decide) fw_1187 (Or.inl rfl) rfl dX4_makesRoom_105 ?_
        refine fV_iconst (v := 1) hF dX4_makesRoom_108 (by decide) ?_
        refine fV_iadd hF dX4_makesRoom_109 ?_
        refine fV_putI (k := 5) (i := 32) hF fK5 tyX4_ok nmX4 rfl hA12 (by decide) rfl fw_1187 (Or.inl rfl) (Or.inl rfl) rfl rfl dX4_makesRoom_110 ?_
        refine fV_goto (tgt := 57) hF dX4_makesRoom_113 (by decide) ?_
        refine fV.sub (l' := [some (aR (some o)), some (aI p1), some (aI x2), none]) ⟨rfl, ⟨rfl, ⟨rfl, trivial⟩⟩⟩ ?_
        exact ih (wI (wI S10 a13 (Int32.toNatClampNeg (sI S10 o 32)) v8) o 32 ((sI (wI S10 a13 (Int32.toNatClampNeg (sI S10 o 32)) v8) o 32) + (1 : Int32))) n11 x2 h
      · have h := h.2 c9
        refine fV_aload_n hF dX4_makesRoom_82 rfl rfl ?_
        refine fV_callV (k := 5) (As := []) hF (mc_X4_restores hF.2.2.2.2.2.2.2.2.1 h) fK5 rfl hA1 (by omega) fw_1348 fw_1345 fw_1347 fwp_60 fw_10 ⟨rfl, by decide, by decide, by decide +kernel⟩ (na := 0) rfl (by decide) (Nat.le_of_ble_eq_true rfl) dX4_makesRoom_83 rfl (fun rv S17 n18 hp => ?_)
        obtain ⟨rfl, h⟩ := hp
        refine fV_iconst (v := 0) hF dX4_makesRoom_86 (by decide) ?_
        exact fV_iret hF hE.s (by omega) hr (by decide) dX4_makesRoom_87 ⟨_, rfl, h⟩
set_option maxRecDepth 100000 in
set_option maxHeartbeats 4000000 in
theorem mc_X4_makesRoom {l : Launch} (hfl : l.stackTraces = false) {G : fG} {S : fMS} {n : Nat} {o : Nat} {p1 : Int32} {post : Int32 → fMS → Nat → Prop} (h : wp_X4_makesRoom S n o p1 post) : fCM l yX4_makesRoom (.code yX4_makesRoom cX4_makesRoom 4 (some .boolean)) 4 G [(aR (some o)), (aI p1)] S n (fPI post) := by
  refine fCM_of hfl (by decide) (by intro v hv; simp only [List.mem_cons, List.not_mem_nil, or_false] at hv; rcases hv with rfl | rfl <;> rfl) (Nat.le_of_ble_eq_true rfl) (fun F hF hxn hl hG hr hin hE => ?_)
  subst hl hG
  have hlv : 4 ≤ 4 := Nat.le_refl _
  show fV F S n 0 [some (aR (some o)), some (aI p1), none, none] []
  unfold wp_X4_makesRoom at h
  refine fV_aload_n hF dX4_makesRoom_0 rfl rfl ?_
  obtain ⟨hA1, h⟩ := h
  refine fV_getR (k := 5) (i := 13) hF fK5 rfl hA1 (by decide) fw_1168 (Or.inl rfl) rfl dX4_makesRoom_1 ?_
  refine fV_iload_n hF dX4_makesRoom_4 rfl rfl ?_
  obtain ⟨a2, e3, hA4, h⟩ := h
  obtain ⟨hix5, h⟩ := h
  refine fV_iald hF e3 hA4 hix5 dX4_makesRoom_5 ?_
  refine fV_istore_n hF (fun y => [some (aR (some o)), some (aI p1), some (aI y), none]) dX4_makesRoom_6 rfl (by rw [hxn]; decide) rfl (fun _ => rfl) (fun v6 ev6 => ?_)
  have h := h v6 ev6
  refine fV_aload_n hF dX4_makesRoom_7 rfl rfl ?_
  refine fV_iconst (v := 0) hF dX4_makesRoom_8 (by decide) ?_
  refine fV_putI (k := 5) (i := 32) hF fK5 tyX4_ok nmX4 rfl hA1 (by decide) rfl fw_1187 (Or.inl rfl) (Or.inl rfl) rfl rfl dX4_makesRoom_9 ?_
  refine fV_aload_n hF dX4_makesRoom_12 rfl rfl ?_
  refine fV_iload_n hF dX4_makesRoom_13 rfl rfl ?_
  refine fV_callV (k := 5) (As := [(aI p1)]) hF (mc_X4_isWithinLimits hF.2.2.2.2.2.2.2.2.1 h) fK5 rfl hA1 (by omega) fw_1324 fw_1321 fw_1323 fwp_54 fw_10 ⟨rfl, by decide, by decide, by decide +kernel⟩ (na := 1) rfl (by decide) (Nat.le_of_ble_eq_true rfl) dX4_makesRoom_14 rfl (fun rv S9 n9 hp => ?_)
  obtain ⟨v7, rfl, rfl, rfl, h⟩ := hp
  refine fV_if_eq (tgt := 55) hF dX4_makesRoom_17 (by decide) (fun c8 => ?_) (fun c8 => ?_)
  · have h := h.1 c8
    refine fV_iconst (v := 0) hF dX4_makesRoom_55 (by decide) ?_
    exact fV_iret hF hE.s (by omega) hr (by decide) dX4_makesRoom_56 ⟨_, rfl, h⟩
  · have h := h.2 c8
    refine fV_aload_n hF dX4_makesRoom_20 rfl rfl ?_
    refine fV_getR (k := 5) (i := 14) hF fK5 rfl hA1 (by decide) fw_1169 (Or.inl rfl) rfl dX4_makesRoom_21 ?_
    refine fV_iload_n hF dX4_makesRoom_24 rfl rfl ?_
    obtain ⟨a9, e10, hA11, h⟩ := h
    obtain ⟨hix12, h⟩ := h
    refine fV_iald hF e10 hA11 hix12 dX4_makesRoom_25 ?_
    refine fV_aload_n hF dX4_makesRoom_26 rfl rfl ?_
    refine fV_iload_n hF dX4_makesRoom_27 rfl rfl ?_
    refine fV_callV (k := 5) (As := [(aI v6)]) hF (mc_X4_freeOf hF.2.2.2.2.2.2.2.2.1 h) fK5 rfl hA1 (by omega) fw_1328 fw_1325 fw_1327 fwp_55 fw_10 ⟨rfl, by decide, by decide, by decide +kernel⟩ (na := 1) rfl (by decide) (Nat.le_of_ble_eq_true rfl) dX4_makesRoom_28 rfl (fun rv S9 n9 hp => ?_)
    obtain ⟨v13, rfl, rfl, rfl, h⟩ := hp
    refine fV_icmp_le (tgt := 55) hF dX4_makesRoom_31 (by decide) (fun c14 => ?_) (fun c14 => ?_)
    · have h := h.1 c14
      refine fV_iconst (v := 0) hF dX4_makesRoom_55 (by decide) ?_
      exact fV_iret hF hE.s (by omega) hr (by decide) dX4_makesRoom_56 ⟨_, rfl, h⟩
    · have h := h.2 c14
      refine fV_aload_n hF dX4_makesRoom_34 rfl rfl ?_
      refine fV_getR (k := 5) (i := 10) hF fK5 rfl hA1 (by decide) fw_1165 (Or.inl rfl) rfl dX4_makesRoom_35 ?_
      refine fV_iload_n hF dX4_makesRoom_38 rfl rfl ?_
      obtain ⟨a15, e16, hA17, h⟩ := h
      obtain ⟨hix18, h⟩ := h
      refine fV_iald hF e16 hA17 hix18 dX4_makesRoom_39 ?_
      refine fV_aload_n hF dX4_makesRoom_40 rfl rfl ?_
      refine fV_getR (k := 5) (i := 14) hF fK5 rfl hA1 (by decide) fw_1169 (Or.inl rfl) rfl dX4_makesRoom_41 ?_
      refine fV_iload_n hF dX4_makesRoom_44 rfl rfl ?_
      obtain ⟨hix19, h⟩ := h
      refine fV_iald hF e10 hA11 hix19 dX4_makesRoom_45 ?_
      refine fV_iadd hF dX4_makesRoom_46 ?_
      refine fV_aload_n hF dX4_makesRoom_47 rfl rfl ?_
      refine fV_iload_n hF dX4_makesRoom_48 rfl rfl ?_
      refine fV_callV (k := 5) (As := [(aI v6)]) hF (mc_X4_dueOf hF.2.2.2.2.2.2.2.2.1 h) fK5 rfl hA1 (by omega) fw_1340 fw_1337 fw_1339 fwp_58 fw_10 ⟨rfl, by decide, by decide, by decide +kernel⟩ (na := 1) rfl (by decide) (Nat.le_of_ble_eq_true rfl) dX4_makesRoom_49 rfl (fun rv S9 n9 hp => ?_)
      obtain ⟨v20, rfl, rfl, rfl, h⟩ := hp
      refine fV_icmp_le (tgt := 57) hF dX4_makesRoom_52 (by decide) (fun c21 => ?_) (fun c21 => ?_)
      · have h := h.1 c21
        obtain ⟨f1, h⟩ := h
        refine fV.sub (l' := [some (aR (some o)), some (aI p1), some (aI v6), none]) ⟨rfl, ⟨rfl, ⟨rfl, trivial⟩⟩⟩ ?_
        exact mB_X4_makesRoom_57 hlv hF hxn hr hE  f1 (wI S o 32 (0 : Int32)) n v6 h
      · have h := h.2 c21
        refine fV_iconst (v := 0) hF dX4_makesRoom_55 (by decide) ?_
        exact fV_iret hF hE.s (by omega) hr (by decide) dX4_makesRoom_56 ⟨_, rfl, h⟩
set_option maxRecDepth 100000 in
set_option maxHeartbeats 4000000 in
theorem mB_X4_servesOne_48 {F : fX} {lv : Nat} (hlv : 5 ≤ lv) (hF : fOk F cX4_servesOne RX4 lv) (hxn : xn F = 4) (hr : (xM F).sig.returnType = (some .boolean)) {post : Int32 → fMS → Nat → Prop} {o : Nat} (hE : fEnd F lv (fPI post)) : ∀ (f : Nat) (S : fMS) (n : Nat) (x2 : Int32) (x3 : Int32) (h : wB_X4_servesOne_48 post o f S n x2 x3), fV F S n 48 [some (aR (some o)), none, some (aI x2), some (aI x3)] [] := by
  intro f
  induction f with
  | zero => intro _ _ _ _ h; exact h.elim
  | succ f ih =>
    intro S n x2 x3 h
    simp only [wB_X4_servesOne_48] at h
    refine fV_iload_n hF dX4_servesOne_48 rfl rfl ?_
    refine fV_aload_n hF dX4_servesOne_49 rfl rfl ?_
    obtain ⟨hA1, h⟩ := h
    refine fV_getI (k := 5) (i := 32) hF fK5 rfl hA1 (by decide) fw_1187 (Or.inl rfl) rfl dX4_servesOne_50 ?_
    refine fV_icmp_ge (tgt := 77) hF dX4_servesOne_53 (by decide) (fun c2 => ?_) (fun c2 => ?_)
    · have h := h.1 c2
      refine fV_aload_n hF dX4_servesOne_77 rfl rfl ?_
      refine fV_iload_n hF dX4_servesOne_78 rfl rfl ?_
      refine fV_callV (k := 5) (As := [(aI x2)]) hF (mc_X4_starts hF.2.2.2.2.2.2.2.2.1 h) fK5 rfl hA1 (by omega) fw_1364 fw_1361 fw_1363 fwp_64 fw_10 ⟨rfl, by decide, by decide, by decide +kernel⟩ (na := 1) rfl (by decide) (Nat.le_of_ble_eq_true rfl) dX4_servesOne_79 rfl (fun rv S3 n4 hp => ?_)
      obtain ⟨rfl, h⟩ := hp
      refine fV_iconst (v := 1) hF dX4_servesOne_82 (by decide) ?_
      exact fV_iret hF hE.s (by omega) hr (by decide) dX4_servesOne_83 ⟨_, rfl, h⟩
    · have h := h.2 c2
      refine fV_aload_n hF dX4_servesOne_56 rfl rfl ?_
      refine fV_getR (k := 5) (i := 18) hF fK5 rfl hA1 (by decide) fw_1173 (Or.inl rfl) rfl dX4_servesOne_57 ?_
      refine fV_aload_n hF dX4_servesOne_60 rfl rfl ?_
      refine fV_getR (k := 5) (i := 31) hF fK5 rfl hA1 (by decide) fw_1186 (Or.inl rfl) rfl dX4_servesOne_61 ?_
      refine fV_iload_n hF dX4_servesOne_64 rfl rfl ?_
      obtain ⟨a5, e6, hA7, h⟩ := h
      obtain ⟨hix8, h⟩ := h
      refine fV_iald hF e6 hA7 hix8 dX4_servesOne_65 ?_
      refine fV_dup2 hF dX4_servesOne_66 rfl rfl ?_
      obtain ⟨a9, e10, hA11, h⟩ := h
      obtain ⟨hix12, h⟩ := h
      refine fV_iald hF e10 hA11 hix12 dX4_servesOne_67 ?_
      refine fV_iconst (v := 1) hF dX4_servesOne_68 (by decide) ?_
      refine fV_iadd hF dX4_servesOne_69 ?_
      obtain ⟨hix13, h⟩ := h
      refine fV_iast hF e10 hA11 hix13 dX4_servesOne_70 ?_
      refine fV_iinc (v := 1) hF (fun y => [some (aR (some o)), none, some (aI x2), some (aI y)]) dX4_servesOne_71 rfl (by decide) (by rw [hxn]; decide) rfl (fun _ => rfl) (fun v14 ev14 => ?_)
      have h := h v14 ev14
      refine fV_goto (tgt := 48) hF dX4_servesOne_74 (by decide) ?_
      refine fV.sub (l' := [some (aR (some o)), none, some (aI x2), some (aI v14)]) ⟨rfl, ⟨rfl, ⟨rfl, trivial⟩⟩⟩ ?_
      exact ih (wI S a9 (Int32.toNatClampNeg (sI S a5 (Int32.toNatClampNeg x3))) ((sI S a9 (Int32.toNatClampNeg (sI S a5 (Int32.toNatClampNeg x3)))) + (1 : Int32))) n x2 v14 h
set_option maxRecDepth 100000 in
set_option maxHeartbeats 4000000 in
theorem mB_X4_servesOne_6 {F : fX} {lv : Nat} (hlv : 5 ≤ lv) (hF : fOk F cX4_servesOne RX4 lv) (hxn : xn F = 4) (hr : (xM F).sig.returnType = (some .boolean)) {post : Int32 → fMS → Nat → Prop} {o : Nat} (hE : fEnd F lv (fPI post)) : ∀ (f : Nat) (S : fMS) (n : Nat) (x1 : Int32) (h : wB_X4_servesOne_6 post o f S n x1), fV F S n 6 [some (aR (some o)), some (aI x1), none, none] [] := by
  intro f
  induction f with
  | zero => intro _ _ _ h; exact h.elim
  | succ f ih =>
    intro S n x1 h
    simp only [wB_X4_servesOne_6] at h
    refine fV_iload_n hF dX4_servesOne_6 rfl rfl ?_
    refine fV_aload_n hF dX4_servesOne_7 rfl rfl ?_
    obtain ⟨hA1, h⟩ := h
    refine fV_getI (k := 5) (i := 30) hF fK5 rfl hA1 (by decide) fw_1185 (Or.inl rfl) rfl dX4_servesOne_8 ?_
    refine fV_icmp_ge (tgt := 90) hF dX4_servesOne_11 (by decide) (fun c2 => ?_) (fun c2 => ?_)
    · have h := h.1 c2
      refine fV_iconst (v := 0) hF dX4_servesOne_90 (by decide) ?_
      exact fV_iret hF hE.s (by omega) hr (by decide) dX4_servesOne_91 ⟨_, rfl, h⟩
    · have h := h.2 c2
      refine fV_aload_n hF dX4_servesOne_14 rfl rfl ?_
      refine fV_aload_n hF dX4_servesOne_15 rfl rfl ?_
      refine fV_getR (k := 5) (i := 29) hF fK5 rfl hA1 (by decide) fw_1184 (Or.inl rfl) rfl dX4_servesOne_16 ?_
      refine fV_iload_n hF dX4_servesOne_19 rfl rfl ?_
      obtain ⟨a3, e4, hA5, h⟩ := h
      obtain ⟨hix6, h⟩ := h
      refine fV_iald hF e4 hA5 hix6 dX4_servesOne_20 ?_
      refine fV_callV (k := 5) (As := [(aI (sI S a3 (Int32.toNatClampNeg x1)))]) hF (mc_X4_firstJob hF.2.2.2.2.2.2.2.2.1 h) fK5 rfl hA1 (by omega) fw_1312 fw_1309 fw_1311 fwp_51 fw_10 ⟨rfl, by decide, by decide, by decide +kernel⟩ (na := 1) rfl (by decide) (Nat.le_of_ble_eq_true rfl) dX4_servesOne_21 rfl (fun rv S9 n9 hp => ?_)
      obtain ⟨v7, rfl, rfl, rfl, h⟩ := hp
      refine fV_istore_n0 hF [some (aR (some o)), some (aI x1), some (aI v7), none] dX4_servesOne_24 rfl (by rw [hxn]; decide) rfl rfl ?_
      refine fV_aload_n hF dX4_servesOne_25 rfl rfl ?_
      refine fV_iconst (v := 0) hF dX4_servesOne_26 (by decide) ?_
      refine fV_putI (k := 5) (i := 32) hF fK5 tyX4_ok nmX4 rfl hA1 (by decide) rfl fw_1187 (Or.inl rfl) (Or.inl rfl) rfl rfl dX4_servesOne_27 ?_
      refine fV_aload_n hF dX4_servesOne_30 rfl rfl ?_
      refine fV_iload_n hF dX4_servesOne_31 rfl rfl ?_
      refine fV_callV (k := 5) (As := [(aI v7)]) hF (mc_X4_canStart hF.2.2.2.2.2.2.2.2.1 h) fK5 rfl hA1 (by omega) fw_1320 fw_1317 fw_1319 fwp_53 fw_10 ⟨rfl, by decide, by decide, by decide +kernel⟩ (na := 1) rfl (by decide) (Nat.le_of_ble_eq_true rfl) dX4_servesOne_32 rfl (fun rv S9 n9 hp => ?_)
      obtain ⟨v8, rfl, rfl, rfl, h⟩ := hp
      refine fV_if_ne (tgt := 46) hF dX4_servesOne_35 (by decide) (fun c9 => ?_) (fun c9 => ?_)
      · have h := h.1 c9
        refine fV_iconst (v := 0) hF dX4_servesOne_46 (by decide) ?_
        refine fV_istore_n0 hF [some (aR (some o)), some (aI x1), some (aI v7), some (aI (0 : Int32))] dX4_servesOne_47 rfl (by rw [hxn]; decide) rfl rfl ?_
        obtain ⟨f1, h⟩ := h
        refine fV.sub (l' := [some (aR (some o)), none, some (aI v7), some (aI (0 : Int32))]) ⟨rfl, ⟨rfl, ⟨rfl, trivial⟩⟩⟩ ?_
        exact mB_X4_servesOne_48 hlv hF hxn hr hE  f1 (wI S o 32 (0 : Int32)) n v7 (0 : Int32) h
      · have h := h.2 c9
        refine fV_aload_n hF dX4_servesOne_38 rfl rfl ?_
        refine fV_iload_n hF dX4_servesOne_39 rfl rfl ?_
        refine fV_callV (k := 5) (As := [(aI v7)]) hF (mc_X4_makesRoom hF.2.2.2.2.2.2.2.2.1 h) fK5 rfl hA1 (by omega) fw_1336 fw_1333 fw_1335 fwp_57 fw_10 ⟨rfl, by decide, by decide, by decide +kernel⟩ (na := 1) rfl (by decide) (Nat.le_of_ble_eq_true rfl) dX4_servesOne_40 rfl (fun rv S11 n12 hp => ?_)
        obtain ⟨v10, rfl, h⟩ := hp
        refine fV_if_eq (tgt := 84) hF dX4_servesOne_43 (by decide) (fun c13 => ?_) (fun c13 => ?_)
        · have h := h.1 c13
          refine fV_iinc (v := 1) hF (fun y => [some (aR (some o)), some (aI y), some (aI v7), none]) dX4_servesOne_84 rfl (by decide) (by rw [hxn]; decide) rfl (fun _ => rfl) (fun v14 ev14 => ?_)
          have h := h v14 ev14
          refine fV_goto (tgt := 6) hF dX4_servesOne_87 (by decide) ?_
          refine fV.sub (l' := [some (aR (some o)), some (aI v14), none, none]) ⟨rfl, ⟨rfl, trivial⟩⟩ ?_
          exact ih S11 n12 v14 h
        · have h := h.2 c13
          refine fV_iconst (v := 0) hF dX4_servesOne_46 (by decide) ?_
          refine fV_istore_n0 hF [some (aR (some o)), some (aI x1), some (aI v7), some (aI (0 : Int32))] dX4_servesOne_47 rfl (by rw [hxn]; decide) rfl rfl ?_
          obtain ⟨f1, h⟩ := h
          refine fV.sub (l' := [some (aR (some o)), none, some (aI v7), some (aI (0 : Int32))]) ⟨rfl, ⟨rfl, ⟨rfl, trivial⟩⟩⟩ ?_
          exact mB_X4_servesOne_48 hlv hF hxn hr hE  f1 S11 n12 v7 (0 : Int32) h
set_option maxRecDepth 100000 in
set_option maxHeartbeats 4000000 in
theorem mc_X4_servesOne {l : Launch} (hfl : l.stackTraces = false) {G : fG} {S : fMS} {n : Nat} {o : Nat} {post : Int32 → fMS → Nat → Prop} (h : wp_X4_servesOne S n o post) : fCM l yX4_servesOne (.code yX4_servesOne cX4_servesOne 4 (some .boolean)) 5 G [(aR (some o))] S n (fPI post) := by
  refine fCM_of hfl (by decide) (by intro v hv; simp only [List.mem_cons, List.not_mem_nil, or_false] at hv; rcases hv with rfl <;> rfl) (Nat.le_of_ble_eq_true rfl) (fun F hF hxn hl hG hr hin hE => ?_)
  subst hl hG
  have hlv : 5 ≤ 5 := Nat.le_refl _
  show fV F S n 0 [some (aR (some o)), none, none, none] []
  unfold wp_X4_servesOne at h
  refine fV_aload_n hF dX4_servesOne_0 rfl rfl ?_
  obtain ⟨hA1, h⟩ := h
  refine fV_callV (k := 5) (As := []) hF (mc_X4_laysLine hF.2.2.2.2.2.2.2.2.1 h) fK5 rfl hA1 (by omega) fw_1308 fw_1305 fw_1307 fwp_50 fw_10 ⟨rfl, by decide, by decide, by decide +kernel⟩ (na := 0) rfl (by decide) (Nat.le_of_ble_eq_true rfl) dX4_servesOne_1 rfl (fun rv S2 n3 hp => ?_)
  obtain ⟨rfl, h⟩ := hp
  refine fV_iconst (v := 0) hF dX4_servesOne_4 (by decide) ?_
  refine fV_istore_n0 hF [some (aR (some o)), some (aI (0 : Int32)), none, none] dX4_servesOne_5 rfl (by rw [hxn]; decide) rfl rfl ?_
  obtain ⟨f1, h⟩ := h
  refine fV.sub (l' := [some (aR (some o)), some (aI (0 : Int32)), none, none]) ⟨rfl, ⟨rfl, trivial⟩⟩ ?_
  exact mB_X4_servesOne_6 hlv hF hxn hr hE  f1 S2 n3 (0 : Int32) h
set_option maxRecDepth 100000 in
set_option maxHeartbeats 4000000 in
theorem mB_X4_serves_6 {F : fX} {lv : Nat} (hlv : 16 ≤ lv) (hF : fOk F cX4_serves RX4 lv) (hxn : xn F = 2) (hr : (xM F).sig.returnType = none) {post : fMS → Nat → Prop} {o : Nat} (hE : fEnd F lv (fPV post)) : ∀ (f : Nat) (S : fMS) (n : Nat) (x1 : Int32) (h : wB_X4_serves_6 post o f S n x1), fV F S n 6 [some (aR (some o)), some (aI x1)] [] := by
  intro f
  induction f with
  | zero => intro _ _ _ h; exact h.elim
  | succ f ih =>
    intro S n x1 h
    simp only [wB_X4_serves_6] at h
    refine fV_iload_n hF dX4_serves_6 rfl rfl ?_
    refine fV_if_eq (tgt := 18) hF dX4_serves_7 (by decide) (fun c1 => ?_) (fun c1 => ?_)
    · have h := h.1 c1
      exact fV_vret hF hE.s (by omega) hr dX4_serves_18 ⟨rfl, h⟩
    · have h := h.2 c1
      refine fV_aload_n hF dX4_serves_10 rfl rfl ?_
      obtain ⟨hA2, h⟩ := h
      refine fV_callV (k := 5) (As := []) hF (mc_X4_servesOne hF.2.2.2.2.2.2.2.2.1 h) fK5 rfl hA2 (by omega) fw_1304 fw_1301 fw_1303 fwp_49 fw_10 ⟨rfl, by decide, by decide, by decide +kernel⟩ (na := 0) rfl (by decide) (Nat.le_of_ble_eq_true rfl) dX4_serves_11 rfl (fun rv S4 n5 hp => ?_)
      obtain ⟨v3, rfl, h⟩ := hp
      refine fV_istore_n0 hF [some (aR (some o)), some (aI v3)] dX4_serves_14 rfl (by rw [hxn]; decide) rfl rfl ?_
      refine fV_goto (tgt := 6) hF dX4_serves_15 (by decide) ?_
      refine fV.sub (l' := [some (aR (some o)), some (aI v3)]) ⟨rfl, ⟨rfl, trivial⟩⟩ ?_
      exact ih S4 n5 v3 h
set_option maxRecDepth 100000 in
set_option maxHeartbeats 4000000 in
theorem mc_X4_serves {l : Launch} (hfl : l.stackTraces = false) {G : fG} {S : fMS} {n : Nat} {o : Nat} {post : fMS → Nat → Prop} (h : wp_X4_serves S n o post) : fCM l yX4_serves (.code yX4_serves cX4_serves 2 none) 16 G [(aR (some o))] S n (fPV post) := by
  refine fCM_of hfl (by decide) (by intro v hv; simp only [List.mem_cons, List.not_mem_nil, or_false] at hv; rcases hv with rfl <;> rfl) (Nat.le_of_ble_eq_true rfl) (fun F hF hxn hl hG hr hin hE => ?_)
  subst hl hG
  have hlv : 16 ≤ 16 := Nat.le_refl _
  show fV F S n 0 [some (aR (some o)), none] []
  unfold wp_X4_serves at h
  refine fV_aload_n hF dX4_serves_0 rfl rfl ?_
  obtain ⟨hA1, h⟩ := h
  refine fV_callV (k := 5) (As := []) hF (mc_X4_laysShares hF.2.2.2.2.2.2.2.2.1 h) fK5 rfl hA1 (by omega) fw_1284 fw_1281 fw_1283 fwp_44 fw_10 ⟨rfl, by decide, by decide, by decide +kernel⟩ (na := 0) rfl (by decide) (Nat.le_of_ble_eq_true rfl) dX4_serves_1 rfl (fun rv S2 n3 hp => ?_)
  obtain ⟨rfl, h⟩ := hp
  refine fV_iconst (v := 1) hF dX4_serves_4 (by decide) ?_
  refine fV_istore_n0 hF [some (aR (some o)), some (aI (1 : Int32))] dX4_serves_5 rfl (by rw [hxn]; decide) rfl rfl ?_
  obtain ⟨f1, h⟩ := h
  refine fV.sub (l' := [some (aR (some o)), some (aI (1 : Int32))]) ⟨rfl, ⟨rfl, trivial⟩⟩ ?_
  exact mB_X4_serves_6 hlv hF hxn hr hE  f1 S2 n3 (1 : Int32) h
set_option maxRecDepth 100000 in
set_option maxHeartbeats 4000000 in
theorem mB_X4_addTeam_44 {F : fX} {lv : Nat} (hlv : 17 ≤ lv) (hF : fOk F cX4_addTeam RX4 lv) (hxn : xn F = 4) (hr : (xM F).sig.returnType = (some .int)) {post : Int32 → fMS → Nat → Prop} {K49 : fMS → Nat → Int32 → Prop} {o : Nat} {p1 : Int32} {p2 : Int32} (hE : fEnd F lv (fPI post)) (hK49 : ∀ (S : fMS) (n : Nat) (y0 : Int32), K49 S n y0 → fV F S n 49 [some (aR (some o)), some (aI p1), some (aI p2), none] [(aI y0)]) (S : fMS) (n : Nat) (h : wB_X4_addTeam_44 post K49 o p1 p2 S n) : fV F S n 44 [some (aR (some o)), some (aI p1), some (aI p2), none] [] := by
  unfold wB_X4_addTeam_44 at h
  refine fV_iconst (v := 3) hF dX4_addTeam_44 (by decide) ?_
  refine fV_goto (tgt := 49) hF dX4_addTeam_45 (by decide) ?_
  refine fV.sub (l' := [some (aR (some o)), some (aI p1), some (aI p2), none]) ⟨rfl, ⟨rfl, ⟨rfl, trivial⟩⟩⟩ ?_
  exact hK49 S n (3 : Int32) h
set_option maxRecDepth 100000 in
set_option maxHeartbeats 4000000 in
theorem mB_X4_addTeam_49 {F : fX} {lv : Nat} (hlv : 17 ≤ lv) (hF : fOk F cX4_addTeam RX4 lv) (hxn : xn F = 4) (hr : (xM F).sig.returnType = (some .int)) {post : Int32 → fMS → Nat → Prop} {o : Nat} {p1 : Int32} {p2 : Int32} (hE : fEnd F lv (fPI post)) (S : fMS) (n : Nat) (y0 : Int32) (h : wB_X4_addTeam_49 post o p1 p2 S n y0) : fV F S n 49 [some (aR (some o)), some (aI p1), some (aI p2), none] [(aI y0)] := by
  unfold wB_X4_addTeam_49 at h
  refine fV_istore_n0 hF [some (aR (some o)), some (aI p1), some (aI p2), some (aI y0)] dX4_addTeam_49 rfl (by rw [hxn]; decide) rfl rfl ?_
  refine fV_aload_n hF dX4_addTeam_50 rfl rfl ?_
  refine fV_iload_n hF dX4_addTeam_51 rfl rfl ?_
  obtain ⟨hA1, h⟩ := h
  refine fV_callV (k := 5) (As := [(aI y0)]) hF (mc_X4_goesOn hF.2.2.2.2.2.2.2.2.1 h) fK5 rfl hA1 (by omega) fw_1276 fw_1273 fw_1275 fwp_42 fw_10 ⟨rfl, by decide, by decide, by decide +kernel⟩ (na := 1) rfl (by decide) (Nat.le_of_ble_eq_true rfl) dX4_addTeam_52 rfl (fun rv S3 n4 hp => ?_)
  obtain ⟨v2, rfl, h⟩ := hp
  refine fV_if_ne (tgt := 60) hF dX4_addTeam_55 (by decide) (fun c5 => ?_) (fun c5 => ?_)
  · have h := h.1 c5
    refine fV_aload_n hF dX4_addTeam_60 rfl rfl ?_
    obtain ⟨hA6, h⟩ := h
    refine fV_getR (k := 5) (i := 5) hF fK5 rfl hA6 (by decide) fw_1160 (Or.inl rfl) rfl dX4_addTeam_61 ?_
    refine fV_aload_n hF dX4_addTeam_64 rfl rfl ?_
    refine fV_getI (k := 5) (i := 4) hF fK5 rfl hA6 (by decide) fw_1159 (Or.inl rfl) rfl dX4_addTeam_65 ?_
    refine fV_iload_n hF dX4_addTeam_68 rfl rfl ?_
    obtain ⟨a7, e8, hA9, h⟩ := h
    obtain ⟨hix10, h⟩ := h
    refine fV_iast hF e8 hA9 hix10 dX4_addTeam_69 ?_
    refine fV_aload_n hF dX4_addTeam_70 rfl rfl ?_
    refine fV_getR (k := 5) (i := 6) hF fK5 rfl hA6 (by decide) fw_1161 (Or.inl rfl) rfl dX4_addTeam_71 ?_
    refine fV_aload_n hF dX4_addTeam_74 rfl rfl ?_
    refine fV_getI (k := 5) (i := 4) hF fK5 rfl hA6 (by decide) fw_1159 (Or.inl rfl) rfl dX4_addTeam_75 ?_
    refine fV_iload_n hF dX4_addTeam_78 rfl rfl ?_
    obtain ⟨a11, e12, hA13, h⟩ := h
    obtain ⟨hix14, h⟩ := h
    refine fV_iast hF e12 hA13 hix14 dX4_addTeam_79 ?_
    refine fV_aload_n hF dX4_addTeam_80 rfl rfl ?_
    refine fV_getR (k := 5) (i := 7) hF fK5 rfl hA6 (by decide) fw_1162 (Or.inl rfl) rfl dX4_addTeam_81 ?_
    refine fV_aload_n hF dX4_addTeam_84 rfl rfl ?_
    refine fV_getI (k := 5) (i := 4) hF fK5 rfl hA6 (by decide) fw_1159 (Or.inl rfl) rfl dX4_addTeam_85 ?_
    refine fV_sipush (v := 500) hF dX4_addTeam_88 (by decide) ?_
    obtain ⟨a15, e16, hA17, h⟩ := h
    obtain ⟨hix18, h⟩ := h
    refine fV_iast hF e16 hA17 hix18 dX4_addTeam_91 ?_
    refine fV_aload_n hF dX4_addTeam_92 rfl rfl ?_
    refine fV_dup hF dX4_addTeam_93 rfl ?_
    refine fV_getI (k := 5) (i := 4) hF fK5 rfl hA6 (by decide) fw_1159 (Or.inl rfl) rfl dX4_addTeam_94 ?_
    refine fV_iconst (v := 1) hF dX4_addTeam_97 (by decide) ?_
    refine fV_iadd hF dX4_addTeam_98 ?_
    refine fV_putI (k := 5) (i := 4) hF fK5 tyX4_ok nmX4 rfl hA6 (by decide) rfl fw_1159 (Or.inl rfl) (Or.inl rfl) rfl rfl dX4_addTeam_99 ?_
    refine fV_aload_n hF dX4_addTeam_102 rfl rfl ?_
    refine fV_callV (k := 5) (As := []) hF (mc_X4_serves hF.2.2.2.2.2.2.2.2.1 h) fK5 rfl hA6 (by omega) fw_1280 fw_1277 fw_1279 fwp_43 fw_10 ⟨rfl, by decide, by decide, by decide +kernel⟩ (na := 0) rfl (by decide) (Nat.le_of_ble_eq_true rfl) dX4_addTeam_103 rfl (fun rv S19 n20 hp => ?_)
    obtain ⟨rfl, h⟩ := hp
    refine fV_aload_n hF dX4_addTeam_106 rfl rfl ?_
    obtain ⟨hA21, h⟩ := h
    refine fV_getI (k := 5) (i := 4) hF fK5 rfl hA21 (by decide) fw_1159 (Or.inl rfl) rfl dX4_addTeam_107 ?_
    refine fV_iconst (v := 1) hF dX4_addTeam_110 (by decide) ?_
    refine fV_isub hF dX4_addTeam_111 ?_
    exact fV_iret hF hE.s (by omega) hr rfl dX4_addTeam_112 ⟨_, rfl, h⟩
  · have h := h.2 c5
    refine fV_iconst (v := 0) hF dX4_addTeam_58 (by decide) ?_
    exact fV_iret hF hE.s (by omega) hr rfl dX4_addTeam_59 ⟨_, rfl, h⟩
set_option maxRecDepth 100000 in
set_option maxHeartbeats 4000000 in
theorem mc_X4_addTeam {l : Launch} (hfl : l.stackTraces = false) {G : fG} {S : fMS} {n : Nat} {o : Nat} {p1 : Int32} {p2 : Int32} {post : Int32 → fMS → Nat → Prop} (h : wp_X4_addTeam S n o p1 p2 post) : fCM l yX4_addTeam (.code yX4_addTeam cX4_addTeam 4 (some .int)) 17 G [(aR (some o)), (aI p1), (aI p2)] S n (fPI post) := by
  refine fCM_of hfl (by decide) (by intro v hv; simp only [List.mem_cons, List.not_mem_nil, or_false] at hv; rcases hv with rfl | rfl | rfl <;> rfl) (Nat.le_of_ble_eq_true rfl) (fun F hF hxn hl hG hr hin hE => ?_)
  subst hl hG
  have hlv : 17 ≤ 17 := Nat.le_refl _
  show fV F S n 0 [some (aR (some o)), some (aI p1), some (aI p2), none] []
  unfold wp_X4_addTeam at h
  refine fV_aload_n hF dX4_addTeam_0 rfl rfl ?_
  refine fV_iload_n hF dX4_addTeam_1 rfl rfl ?_
  obtain ⟨hA1, h⟩ := h
  refine fV_callV (k := 5) (As := [(aI p1)]) hF (mc_X4_isTeam hF.2.2.2.2.2.2.2.2.1 h) fK5 rfl hA1 (by omega) fw_1269 fw_1266 fw_1268 fwp_41 fw_10 ⟨rfl, by decide, by decide, by decide +kernel⟩ (na := 1) rfl (by decide) (Nat.le_of_ble_eq_true rfl) dX4_addTeam_2 rfl (fun rv S9 n9 hp => ?_)
  obtain ⟨v2, rfl, rfl, rfl, h⟩ := hp
  refine fV_if_ne (tgt := 12) hF dX4_addTeam_5 (by decide) (fun c3 => ?_) (fun c3 => ?_)
  · have h := h.1 c3
    refine fV_iload_n hF dX4_addTeam_12 rfl rfl ?_
    refine fV_iconst (v := 1) hF dX4_addTeam_13 (by decide) ?_
    refine fV_bipush (v := 9) hF dX4_addTeam_14 (by decide) ?_
    refine fV_callS (As := [(aI p2), (aI (1 : Int32)), (aI (9 : Int32))]) hF (mc_X4_in hF.2.2.2.2.2.2.2.2.1 h) (by omega) fw_1272 fw_1270 fw_1271 fw_10 ⟨by decide, by decide, by decide +kernel⟩ (na := 3) rfl (by decide) (Nat.le_of_ble_eq_true rfl) dX4_addTeam_16 rfl (fun rv S9 n9 hp => ?_)
    obtain ⟨v4, rfl, rfl, rfl, h⟩ := hp
    refine fV_if_ne (tgt := 26) hF dX4_addTeam_19 (by decide) (fun c5 => ?_) (fun c5 => ?_)
    · have h := h.1 c5
      refine fV_aload_n hF dX4_addTeam_26 rfl rfl ?_
      refine fV_getI (k := 5) (i := 4) hF fK5 rfl hA1 (by decide) fw_1159 (Or.inl rfl) rfl dX4_addTeam_27 ?_
      refine fV_bipush (v := 10) hF dX4_addTeam_30 (by decide) ?_
      refine fV_icmp_eq (tgt := 44) hF dX4_addTeam_32 (by decide) (fun c6 => ?_) (fun c6 => ?_)
      · have h := h.1 c6
        refine fV.sub (l' := [some (aR (some o)), some (aI p1), some (aI p2), none]) ⟨rfl, ⟨rfl, ⟨rfl, trivial⟩⟩⟩ ?_
        exact mB_X4_addTeam_44 hlv hF hxn hr hE (fun S9 n9 z0 h9 => mB_X4_addTeam_49 hlv hF hxn hr hE  S9 n9 z0 h9) S n h
      · have h := h.2 c6
        refine fV_aload_n hF dX4_addTeam_35 rfl rfl ?_
        refine fV_getR (k := 5) (i := 9) hF fK5 rfl hA1 (by decide) fw_1164 (Or.inl rfl) rfl dX4_addTeam_36 ?_
        refine fV_iload_n hF dX4_addTeam_39 rfl rfl ?_
        obtain ⟨a7, e8, hA9, h⟩ := h
        obtain ⟨hix10, h⟩ := h
        refine fV_zald hF e8 hA9 hix10 dX4_addTeam_40 ?_
        refine fV_if_eq (tgt := 48) hF dX4_addTeam_41 (by decide) (fun c11 => ?_) (fun c11 => ?_)
        · have h := h.1 c11
          refine fV_iconst (v := 0) hF dX4_addTeam_48 (by decide) ?_
          refine fV.sub (l' := [some (aR (some o)), some (aI p1), some (aI p2), none]) ⟨rfl, ⟨rfl, ⟨rfl, trivial⟩⟩⟩ ?_
          exact mB_X4_addTeam_49 hlv hF hxn hr hE  S n (0 : Int32) h
        · have h := h.2 c11
          refine fV.sub (l' := [some (aR (some o)), some (aI p1), some (aI p2), none]) ⟨rfl, ⟨rfl, ⟨rfl, trivial⟩⟩⟩ ?_
          exact mB_X4_addTeam_44 hlv hF hxn hr hE (fun S9 n9 z0 h9 => mB_X4_addTeam_49 hlv hF hxn hr hE  S9 n9 z0 h9) S n h
    · have h := h.2 c5
      refine fV_iconst (v := 2) hF dX4_addTeam_22 (by decide) ?_
      refine fV_goto (tgt := 49) hF dX4_addTeam_23 (by decide) ?_
      refine fV.sub (l' := [some (aR (some o)), some (aI p1), some (aI p2), none]) ⟨rfl, ⟨rfl, ⟨rfl, trivial⟩⟩⟩ ?_
      exact mB_X4_addTeam_49 hlv hF hxn hr hE  S n (2 : Int32) h
  · have h := h.2 c3
    refine fV_iconst (v := 1) hF dX4_addTeam_8 (by decide) ?_
    refine fV_goto (tgt := 49) hF dX4_addTeam_9 (by decide) ?_
    refine fV.sub (l' := [some (aR (some o)), some (aI p1), some (aI p2), none]) ⟨rfl, ⟨rfl, ⟨rfl, trivial⟩⟩⟩ ?_
    exact mB_X4_addTeam_49 hlv hF hxn hr hE  S n (1 : Int32) h
set_option maxRecDepth 100000 in
set_option maxHeartbeats 4000000 in
theorem mB_X4_setWeight_36 {F : fX} {lv : Nat} (hlv : 17 ≤ lv) (hF : fOk F cX4_setWeight RX4 lv) (hxn : xn F = 4) (hr : (xM F).sig.returnType = (some .int)) {post : Int32 → fMS → Nat → Prop} {o : Nat} {p1 : Int32} {p2 : Int32} (hE : fEnd F lv (fPI post)) (S : fMS) (n : Nat) (y0 : Option Nat) (y1 : Int32) (h : wB_X4_setWeight_36 post o p1 p2 S n y0 y1) : fV F S n 36 [some (aR (some o)), some (aI p1), some (aI p2), none] [(aI y1), (aR y0)] := by
  unfold wB_X4_setWeight_36 at h
  obtain ⟨a1, e2, hA3, h⟩ := h
  refine fV_callV (k := 5) (As := [(aI y1)]) hF (mc_X4_goesOn hF.2.2.2.2.2.2.2.2.1 h) fK5 e2 hA3 (by omega) fw_1276 fw_1273 fw_1275 fwp_42 fw_10 ⟨rfl, by decide, by decide, by decide +kernel⟩ (na := 1) rfl (by decide) (Nat.le_of_ble_eq_true rfl) dX4_setWeight_36 rfl (fun rv S5 n6 hp => ?_)
  obtain ⟨v4, rfl, h⟩ := hp
  refine fV_if_ne (tgt := 44) hF dX4_setWeight_39 (by decide) (fun c7 => ?_) (fun c7 => ?_)
  · have h := h.1 c7
    refine fV_aload_n hF dX4_setWeight_44 rfl rfl ?_
    obtain ⟨hA8, h⟩ := h
    refine fV_getR (k := 5) (i := 6) hF fK5 rfl hA8 (by decide) fw_1161 (Or.inl rfl) rfl dX4_setWeight_45 ?_
    refine fV_iload_n hF dX4_setWeight_48 rfl rfl ?_
    obtain ⟨a9, e10, hA11, h⟩ := h
    obtain ⟨hix12, h⟩ := h
    refine fV_iald hF e10 hA11 hix12 dX4_setWeight_49 ?_
    refine fV_istore_n hF (fun y => [some (aR (some o)), some (aI p1), some (aI p2), some (aI y)]) dX4_setWeight_50 rfl (by rw [hxn]; decide) rfl (fun _ => rfl) (fun v13 ev13 => ?_)
    have h := h v13 ev13
    refine fV_aload_n hF dX4_setWeight_51 rfl rfl ?_
    refine fV_getR (k := 5) (i := 6) hF fK5 rfl hA8 (by decide) fw_1161 (Or.inl rfl) rfl dX4_setWeight_52 ?_
    refine fV_iload_n hF dX4_setWeight_55 rfl rfl ?_
    refine fV_iload_n hF dX4_setWeight_56 rfl rfl ?_
    obtain ⟨hix14, h⟩ := h
    refine fV_iast hF e10 hA11 hix14 dX4_setWeight_57 ?_
    refine fV_aload_n hF dX4_setWeight_58 rfl rfl ?_
    refine fV_callV (k := 5) (As := []) hF (mc_X4_serves hF.2.2.2.2.2.2.2.2.1 h) fK5 rfl hA8 (by omega) fw_1280 fw_1277 fw_1279 fwp_43 fw_10 ⟨rfl, by decide, by decide, by decide +kernel⟩ (na := 0) rfl (by decide) (Nat.le_of_ble_eq_true rfl) dX4_setWeight_59 rfl (fun rv S15 n16 hp => ?_)
    obtain ⟨rfl, h⟩ := hp
    refine fV_iload_n hF dX4_setWeight_62 rfl rfl ?_
    exact fV_iret hF hE.s (by omega) hr rfl dX4_setWeight_63 ⟨_, rfl, h⟩
  · have h := h.2 c7
    refine fV_iconst (v := 0) hF dX4_setWeight_42 (by decide) ?_
    exact fV_iret hF hE.s (by omega) hr rfl dX4_setWeight_43 ⟨_, rfl, h⟩
set_option maxRecDepth 100000 in
set_option maxHeartbeats 4000000 in
theorem mc_X4_setWeight {l : Launch} (hfl : l.stackTraces = false) {G : fG} {S : fMS} {n : Nat} {o : Nat} {p1 : Int32} {p2 : Int32} {post : Int32 → fMS → Nat → Prop} (h : wp_X4_setWeight S n o p1 p2 post) : fCM l yX4_setWeight (.code yX4_setWeight cX4_setWeight 4 (some .int)) 17 G [(aR (some o)), (aI p1), (aI p2)] S n (fPI post) := by
  refine fCM_of hfl (by decide) (by intro v hv; simp only [List.mem_cons, List.not_mem_nil, or_false] at hv; rcases hv with rfl | rfl | rfl <;> rfl) (Nat.le_of_ble_eq_true rfl) (fun F hF hxn hl hG hr hin hE => ?_)
  subst hl hG
  have hlv : 17 ≤ 17 := Nat.le_refl _
  show fV F S n 0 [some (aR (some o)), some (aI p1), some (aI p2), none] []
  unfold wp_X4_setWeight at h
  refine fV_aload_n hF dX4_setWeight_0 rfl rfl ?_
  refine fV_aload_n hF dX4_setWeight_1 rfl rfl ?_
  refine fV_iload_n hF dX4_setWeight_2 rfl rfl ?_
  obtain ⟨hA1, h⟩ := h
  refine fV_callV (k := 5) (As := [(aI p1)]) hF (mc_X4_isTeam hF.2.2.2.2.2.2.2.2.1 h) fK5 rfl hA1 (by omega) fw_1269 fw_1266 fw_1268 fwp_41 fw_10 ⟨rfl, by decide, by decide, by decide +kernel⟩ (na := 1) rfl (by decide) (Nat.le_of_ble_eq_true rfl) dX4_setWeight_3 rfl (fun rv S9 n9 hp => ?_)
  obtain ⟨v2, rfl, rfl, rfl, h⟩ := hp
  refine fV_if_ne (tgt := 13) hF dX4_setWeight_6 (by decide) (fun c3 => ?_) (fun c3 => ?_)
  · have h := h.1 c3
    refine fV_iload_n hF dX4_setWeight_13 rfl rfl ?_
    refine fV_if_ne (tgt := 21) hF dX4_setWeight_14 (by decide) (fun c4 => ?_) (fun c4 => ?_)
    · have h := h.1 c4
      refine fV_iload_n hF dX4_setWeight_21 rfl rfl ?_
      refine fV_iconst (v := 1) hF dX4_setWeight_22 (by decide) ?_
      refine fV_bipush (v := 9) hF dX4_setWeight_23 (by decide) ?_
      refine fV_callS (As := [(aI p2), (aI (1 : Int32)), (aI (9 : Int32))]) hF (mc_X4_in hF.2.2.2.2.2.2.2.2.1 h) (by omega) fw_1272 fw_1270 fw_1271 fw_10 ⟨by decide, by decide, by decide +kernel⟩ (na := 3) rfl (by decide) (Nat.le_of_ble_eq_true rfl) dX4_setWeight_25 rfl (fun rv S9 n9 hp => ?_)
      obtain ⟨v5, rfl, rfl, rfl, h⟩ := hp
      refine fV_if_ne (tgt := 35) hF dX4_setWeight_28 (by decide) (fun c6 => ?_) (fun c6 => ?_)
      · have h := h.1 c6
        refine fV_iconst (v := 0) hF dX4_setWeight_35 (by decide) ?_
        refine fV.sub (l' := [some (aR (some o)), some (aI p1), some (aI p2), none]) ⟨rfl, ⟨rfl, ⟨rfl, trivial⟩⟩⟩ ?_
        exact mB_X4_setWeight_36 hlv hF hxn hr hE  S n (some o) (0 : Int32) h
      · have h := h.2 c6
        refine fV_iconst (v := 3) hF dX4_setWeight_31 (by decide) ?_
        refine fV_goto (tgt := 36) hF dX4_setWeight_32 (by decide) ?_
        refine fV.sub (l' := [some (aR (some o)), some (aI p1), some (aI p2), none]) ⟨rfl, ⟨rfl, ⟨rfl, trivial⟩⟩⟩ ?_
        exact mB_X4_setWeight_36 hlv hF hxn hr hE  S n (some o) (3 : Int32) h
    · have h := h.2 c4
      refine fV_iconst (v := 2) hF dX4_setWeight_17 (by decide) ?_
      refine fV_goto (tgt := 36) hF dX4_setWeight_18 (by decide) ?_
      refine fV.sub (l' := [some (aR (some o)), some (aI p1), some (aI p2), none]) ⟨rfl, ⟨rfl, ⟨rfl, trivial⟩⟩⟩ ?_
      exact mB_X4_setWeight_36 hlv hF hxn hr hE  S n (some o) (2 : Int32) h
  · have h := h.2 c3
    refine fV_iconst (v := 1) hF dX4_setWeight_9 (by decide) ?_
    refine fV_goto (tgt := 36) hF dX4_setWeight_10 (by decide) ?_
    refine fV.sub (l' := [some (aR (some o)), some (aI p1), some (aI p2), none]) ⟨rfl, ⟨rfl, ⟨rfl, trivial⟩⟩⟩ ?_
    exact mB_X4_setWeight_36 hlv hF hxn hr hE  S n (some o) (1 : Int32) h
set_option maxRecDepth 100000 in
set_option maxHeartbeats 4000000 in
theorem mB_X4_setLimit_37 {F : fX} {lv : Nat} (hlv : 17 ≤ lv) (hF : fOk F cX4_setLimit RX4 lv) (hxn : xn F = 4) (hr : (xM F).sig.returnType = (some .int)) {post : Int32 → fMS → Nat → Prop} {o : Nat} {p1 : Int32} {p2 : Int32} (hE : fEnd F lv (fPI post)) (S : fMS) (n : Nat) (y0 : Option Nat) (y1 : Int32) (h : wB_X4_setLimit_37 post o p1 p2 S n y0 y1) : fV F S n 37 [some (aR (some o)), some (aI p1), some (aI p2), none] [(aI y1), (aR y0)] := by
  unfold wB_X4_setLimit_37 at h
  obtain ⟨a1, e2, hA3, h⟩ := h
  refine fV_callV (k := 5) (As := [(aI y1)]) hF (mc_X4_goesOn hF.2.2.2.2.2.2.2.2.1 h) fK5 e2 hA3 (by omega) fw_1276 fw_1273 fw_1275 fwp_42 fw_10 ⟨rfl, by decide, by decide, by decide +kernel⟩ (na := 1) rfl (by decide) (Nat.le_of_ble_eq_true rfl) dX4_setLimit_37 rfl (fun rv S5 n6 hp => ?_)
  obtain ⟨v4, rfl, h⟩ := hp
  refine fV_if_ne (tgt := 45) hF dX4_setLimit_40 (by decide) (fun c7 => ?_) (fun c7 => ?_)
  · have h := h.1 c7
    refine fV_aload_n hF dX4_setLimit_45 rfl rfl ?_
    obtain ⟨hA8, h⟩ := h
    refine fV_getR (k := 5) (i := 7) hF fK5 rfl hA8 (by decide) fw_1162 (Or.inl rfl) rfl dX4_setLimit_46 ?_
    refine fV_iload_n hF dX4_setLimit_49 rfl rfl ?_
    obtain ⟨a9, e10, hA11, h⟩ := h
    obtain ⟨hix12, h⟩ := h
    refine fV_iald hF e10 hA11 hix12 dX4_setLimit_50 ?_
    refine fV_istore_n hF (fun y => [some (aR (some o)), some (aI p1), some (aI p2), some (aI y)]) dX4_setLimit_51 rfl (by rw [hxn]; decide) rfl (fun _ => rfl) (fun v13 ev13 => ?_)
    have h := h v13 ev13
    refine fV_aload_n hF dX4_setLimit_52 rfl rfl ?_
    refine fV_getR (k := 5) (i := 7) hF fK5 rfl hA8 (by decide) fw_1162 (Or.inl rfl) rfl dX4_setLimit_53 ?_
    refine fV_iload_n hF dX4_setLimit_56 rfl rfl ?_
    refine fV_iload_n hF dX4_setLimit_57 rfl rfl ?_
    obtain ⟨hix14, h⟩ := h
    refine fV_iast hF e10 hA11 hix14 dX4_setLimit_58 ?_
    refine fV_aload_n hF dX4_setLimit_59 rfl rfl ?_
    refine fV_callV (k := 5) (As := []) hF (mc_X4_serves hF.2.2.2.2.2.2.2.2.1 h) fK5 rfl hA8 (by omega) fw_1280 fw_1277 fw_1279 fwp_43 fw_10 ⟨rfl, by decide, by decide, by decide +kernel⟩ (na := 0) rfl (by decide) (Nat.le_of_ble_eq_true rfl) dX4_setLimit_60 rfl (fun rv S15 n16 hp => ?_)
    obtain ⟨rfl, h⟩ := hp
    refine fV_iload_n hF dX4_setLimit_63 rfl rfl ?_
    exact fV_iret hF hE.s (by omega) hr rfl dX4_setLimit_64 ⟨_, rfl, h⟩
  · have h := h.2 c7
    refine fV_iconst (v := 0) hF dX4_setLimit_43 (by decide) ?_
    exact fV_iret hF hE.s (by omega) hr rfl dX4_setLimit_44 ⟨_, rfl, h⟩
set_option maxRecDepth 100000 in
set_option maxHeartbeats 4000000 in
theorem mc_X4_setLimit {l : Launch} (hfl : l.stackTraces = false) {G : fG} {S : fMS} {n : Nat} {o : Nat} {p1 : Int32} {p2 : Int32} {post : Int32 → fMS → Nat → Prop} (h : wp_X4_setLimit S n o p1 p2 post) : fCM l yX4_setLimit (.code yX4_setLimit cX4_setLimit 4 (some .int)) 17 G [(aR (some o)), (aI p1), (aI p2)] S n (fPI post) := by
  refine fCM_of hfl (by decide) (by intro v hv; simp only [List.mem_cons, List.not_mem_nil, or_false] at hv; rcases hv with rfl | rfl | rfl <;> rfl) (Nat.le_of_ble_eq_true rfl) (fun F hF hxn hl hG hr hin hE => ?_)
  subst hl hG
  have hlv : 17 ≤ 17 := Nat.le_refl _
  show fV F S n 0 [some (aR (some o)), some (aI p1), some (aI p2), none] []
  unfold wp_X4_setLimit at h
  refine fV_aload_n hF dX4_setLimit_0 rfl rfl ?_
  refine fV_aload_n hF dX4_setLimit_1 rfl rfl ?_
  refine fV_iload_n hF dX4_setLimit_2 rfl rfl ?_
  obtain ⟨hA1, h⟩ := h
  refine fV_callV (k := 5) (As := [(aI p1)]) hF (mc_X4_isTeam hF.2.2.2.2.2.2.2.2.1 h) fK5 rfl hA1 (by omega) fw_1269 fw_1266 fw_1268 fwp_41 fw_10 ⟨rfl, by decide, by decide, by decide +kernel⟩ (na := 1) rfl (by decide) (Nat.le_of_ble_eq_true rfl) dX4_setLimit_3 rfl (fun rv S9 n9 hp => ?_)
  obtain ⟨v2, rfl, rfl, rfl, h⟩ := hp
  refine fV_if_ne (tgt := 13) hF dX4_setLimit_6 (by decide) (fun c3 => ?_) (fun c3 => ?_)
  · have h := h.1 c3
    refine fV_iload_n hF dX4_setLimit_13 rfl rfl ?_
    refine fV_if_ne (tgt := 21) hF dX4_setLimit_14 (by decide) (fun c4 => ?_) (fun c4 => ?_)
    · have h := h.1 c4
      refine fV_iload_n hF dX4_setLimit_21 rfl rfl ?_
      refine fV_iconst (v := 0) hF dX4_setLimit_22 (by decide) ?_
      refine fV_sipush (v := 500) hF dX4_setLimit_23 (by decide) ?_
      refine fV_callS (As := [(aI p2), (aI (0 : Int32)), (aI (500 : Int32))]) hF (mc_X4_in hF.2.2.2.2.2.2.2.2.1 h) (by omega) fw_1272 fw_1270 fw_1271 fw_10 ⟨by decide, by decide, by decide +kernel⟩ (na := 3) rfl (by decide) (Nat.le_of_ble_eq_true rfl) dX4_setLimit_26 rfl (fun rv S9 n9 hp => ?_)
      obtain ⟨v5, rfl, rfl, rfl, h⟩ := hp
      refine fV_if_ne (tgt := 36) hF dX4_setLimit_29 (by decide) (fun c6 => ?_) (fun c6 => ?_)
      · have h := h.1 c6
        refine fV_iconst (v := 0) hF dX4_setLimit_36 (by decide) ?_
        refine fV.sub (l' := [some (aR (some o)), some (aI p1), some (aI p2), none]) ⟨rfl, ⟨rfl, ⟨rfl, trivial⟩⟩⟩ ?_
        exact mB_X4_setLimit_37 hlv hF hxn hr hE  S n (some o) (0 : Int32) h
      · have h := h.2 c6
        refine fV_iconst (v := 3) hF dX4_setLimit_32 (by decide) ?_
        refine fV_goto (tgt := 37) hF dX4_setLimit_33 (by decide) ?_
        refine fV.sub (l' := [some (aR (some o)), some (aI p1), some (aI p2), none]) ⟨rfl, ⟨rfl, ⟨rfl, trivial⟩⟩⟩ ?_
        exact mB_X4_setLimit_37 hlv hF hxn hr hE  S n (some o) (3 : Int32) h
    · have h := h.2 c4
      refine fV_iconst (v := 2) hF dX4_setLimit_17 (by decide) ?_
      refine fV_goto (tgt := 37) hF dX4_setLimit_18 (by decide) ?_
      refine fV.sub (l' := [some (aR (some o)), some (aI p1), some (aI p2), none]) ⟨rfl, ⟨rfl, ⟨rfl, trivial⟩⟩⟩ ?_
      exact mB_X4_setLimit_37 hlv hF hxn hr hE  S n (some o) (2 : Int32) h
  · have h := h.2 c3
    refine fV_iconst (v := 1) hF dX4_setLimit_9 (by decide) ?_
    refine fV_goto (tgt := 37) hF dX4_setLimit_10 (by decide) ?_
    refine fV.sub (l' := [some (aR (some o)), some (aI p1), some (aI p2), none]) ⟨rfl, ⟨rfl, ⟨rfl, trivial⟩⟩⟩ ?_
    exact mB_X4_setLimit_37 hlv hF hxn hr hE  S n (some o) (1 : Int32) h
set_option maxRecDepth 100000 in
set_option maxHeartbeats 4000000 in
theorem mB_X4_setCapacity_31 {F : fX} {lv : Nat} (hlv : 17 ≤ lv) (hF : fOk F cX4_setCapacity RX4 lv) (hxn : xn F = 3) (hr : (xM F).sig.returnType = (some .int)) {post : Int32 → fMS → Nat → Prop} {o : Nat} {p1 : Int32} (hE : fEnd F lv (fPI post)) (S : fMS) (n : Nat) (y0 : Option Nat) (y1 : Int32) (h : wB_X4_setCapacity_31 post o p1 S n y0 y1) : fV F S n 31 [some (aR (some o)), some (aI p1), none] [(aI y1), (aR y0)] := by
  unfold wB_X4_setCapacity_31 at h
  obtain ⟨a1, e2, hA3, h⟩ := h
  refine fV_callV (k := 5) (As := [(aI y1)]) hF (mc_X4_goesOn hF.2.2.2.2.2.2.2.2.1 h) fK5 e2 hA3 (by omega) fw_1276 fw_1273 fw_1275 fwp_42 fw_10 ⟨rfl, by decide, by decide, by decide +kernel⟩ (na := 1) rfl (by decide) (Nat.le_of_ble_eq_true rfl) dX4_setCapacity_31 rfl (fun rv S5 n6 hp => ?_)
  obtain ⟨v4, rfl, h⟩ := hp
  refine fV_if_ne (tgt := 39) hF dX4_setCapacity_34 (by decide) (fun c7 => ?_) (fun c7 => ?_)
  · have h := h.1 c7
    refine fV_aload_n hF dX4_setCapacity_39 rfl rfl ?_
    obtain ⟨hA8, h⟩ := h
    refine fV_getI (k := 5) (i := 2) hF fK5 rfl hA8 (by decide) fw_1157 (Or.inl rfl) rfl dX4_setCapacity_40 ?_
    refine fV_istore_n hF (fun y => [some (aR (some o)), some (aI p1), some (aI y)]) dX4_setCapacity_43 rfl (by rw [hxn]; decide) rfl (fun _ => rfl) (fun v9 ev9 => ?_)
    have h := h v9 ev9
    refine fV_aload_n hF dX4_setCapacity_44 rfl rfl ?_
    refine fV_iload_n hF dX4_setCapacity_45 rfl rfl ?_
    refine fV_putI (k := 5) (i := 2) hF fK5 tyX4_ok nmX4 rfl hA8 (by decide) rfl fw_1157 (Or.inl rfl) (Or.inl rfl) rfl rfl dX4_setCapacity_46 ?_
    refine fV_aload_n hF dX4_setCapacity_49 rfl rfl ?_
    refine fV_callV (k := 5) (As := []) hF (mc_X4_serves hF.2.2.2.2.2.2.2.2.1 h) fK5 rfl hA8 (by omega) fw_1280 fw_1277 fw_1279 fwp_43 fw_10 ⟨rfl, by decide, by decide, by decide +kernel⟩ (na := 0) rfl (by decide) (Nat.le_of_ble_eq_true rfl) dX4_setCapacity_50 rfl (fun rv S10 n11 hp => ?_)
    obtain ⟨rfl, h⟩ := hp
    refine fV_iload_n hF dX4_setCapacity_53 rfl rfl ?_
    exact fV_iret hF hE.s (by omega) hr rfl dX4_setCapacity_54 ⟨_, rfl, h⟩
  · have h := h.2 c7
    refine fV_iconst (v := 0) hF dX4_setCapacity_37 (by decide) ?_
    exact fV_iret hF hE.s (by omega) hr rfl dX4_setCapacity_38 ⟨_, rfl, h⟩
set_option maxRecDepth 100000 in
set_option maxHeartbeats 4000000 in
theorem mc_X4_setCapacity {l : Launch} (hfl : l.stackTraces = false) {G : fG} {S : fMS} {n : Nat} {o : Nat} {p1 : Int32} {post : Int32 → fMS → Nat → Prop} (h : wp_X4_setCapacity S n o p1 post) : fCM l yX4_setCapacity (.code yX4_setCapacity cX4_setCapacity 3 (some .int)) 17 G [(aR (some o)), (aI p1)] S n (fPI post) := by
  refine fCM_of hfl (by decide) (by intro v hv; simp only [List.mem_cons, List.not_mem_nil, or_false] at hv; rcases hv with rfl | rfl <;> rfl) (Nat.le_of_ble_eq_true rfl) (fun F hF hxn hl hG hr hin hE => ?_)
  subst hl hG
  have hlv : 17 ≤ 17 := Nat.le_refl _
  show fV F S n 0 [some (aR (some o)), some (aI p1), none] []
  unfold wp_X4_setCapacity at h
  refine fV_aload_n hF dX4_setCapacity_0 rfl rfl ?_
  refine fV_iload_n hF dX4_setCapacity_1 rfl rfl ?_
  refine fV_iconst (v := 0) hF dX4_setCapacity_2 (by decide) ?_
  refine fV_sipush (v := 200) hF dX4_setCapacity_3 (by decide) ?_
  refine fV_callS (As := [(aI p1), (aI (0 : Int32)), (aI (200 : Int32))]) hF (mc_X4_in hF.2.2.2.2.2.2.2.2.1 h) (by omega) fw_1272 fw_1270 fw_1271 fw_10 ⟨by decide, by decide, by decide +kernel⟩ (na := 3) rfl (by decide) (Nat.le_of_ble_eq_true rfl) dX4_setCapacity_6 rfl (fun rv S9 n9 hp => ?_)
  obtain ⟨v1, rfl, rfl, rfl, h⟩ := hp
  refine fV_if_ne (tgt := 16) hF dX4_setCapacity_9 (by decide) (fun c2 => ?_) (fun c2 => ?_)
  · have h := h.1 c2
    refine fV_iload_n hF dX4_setCapacity_16 rfl rfl ?_
    refine fV_aload_n hF dX4_setCapacity_17 rfl rfl ?_
    obtain ⟨hA3, h⟩ := h
    refine fV_getR (k := 5) (i := 10) hF fK5 rfl hA3 (by decide) fw_1165 (Or.inl rfl) rfl dX4_setCapacity_18 ?_
    refine fV_iconst (v := 0) hF dX4_setCapacity_21 (by decide) ?_
    obtain ⟨a4, e5, hA6, h⟩ := h
    obtain ⟨hix7, h⟩ := h
    refine fV_iald hF e5 hA6 hix7 dX4_setCapacity_22 ?_
    refine fV_icmp_ge (tgt := 30) hF dX4_setCapacity_23 (by decide) (fun c8 => ?_) (fun c8 => ?_)
    · have h := h.1 c8
      refine fV_iconst (v := 0) hF dX4_setCapacity_30 (by decide) ?_
      refine fV.sub (l' := [some (aR (some o)), some (aI p1), none]) ⟨rfl, ⟨rfl, trivial⟩⟩ ?_
      exact mB_X4_setCapacity_31 hlv hF hxn hr hE  S n (some o) (0 : Int32) h
    · have h := h.2 c8
      refine fV_iconst (v := 2) hF dX4_setCapacity_26 (by decide) ?_
      refine fV_goto (tgt := 31) hF dX4_setCapacity_27 (by decide) ?_
      refine fV.sub (l' := [some (aR (some o)), some (aI p1), none]) ⟨rfl, ⟨rfl, trivial⟩⟩ ?_
      exact mB_X4_setCapacity_31 hlv hF hxn hr hE  S n (some o) (2 : Int32) h
  · have h := h.2 c2
    refine fV_iconst (v := 1) hF dX4_setCapacity_12 (by decide) ?_
    refine fV_goto (tgt := 31) hF dX4_setCapacity_13 (by decide) ?_
    refine fV.sub (l' := [some (aR (some o)), some (aI p1), none]) ⟨rfl, ⟨rfl, trivial⟩⟩ ?_
    exact mB_X4_setCapacity_31 hlv hF hxn hr hE  S n (some o) (1 : Int32) h
set_option maxRecDepth 100000 in
set_option maxHeartbeats 4000000 in
theorem mB_X4_setHalfTime_16 {F : fX} {lv : Nat} (hlv : 2 ≤ lv) (hF : fOk F cX4_setHalfTime RX4 lv) (hxn : xn F = 3) (hr : (xM F).sig.returnType = (some .int)) {post : Int32 → fMS → Nat → Prop} {o : Nat} {p1 : Int32} (hE : fEnd F lv (fPI post)) (S : fMS) (n : Nat) (y0 : Option Nat) (y1 : Int32) (h : wB_X4_setHalfTime_16 post o p1 S n y0 y1) : fV F S n 16 [some (aR (some o)), some (aI p1), none] [(aI y1), (aR y0)] := by
  unfold wB_X4_setHalfTime_16 at h
  obtain ⟨a1, e2, hA3, h⟩ := h
  refine fV_callV (k := 5) (As := [(aI y1)]) hF (mc_X4_goesOn hF.2.2.2.2.2.2.2.2.1 h) fK5 e2 hA3 (by omega) fw_1276 fw_1273 fw_1275 fwp_42 fw_10 ⟨rfl, by decide, by decide, by decide +kernel⟩ (na := 1) rfl (by decide) (Nat.le_of_ble_eq_true rfl) dX4_setHalfTime_16 rfl (fun rv S5 n6 hp => ?_)
  obtain ⟨v4, rfl, h⟩ := hp
  refine fV_if_ne (tgt := 24) hF dX4_setHalfTime_19 (by decide) (fun c7 => ?_) (fun c7 => ?_)
  · have h := h.1 c7
    refine fV_aload_n hF dX4_setHalfTime_24 rfl rfl ?_
    obtain ⟨hA8, h⟩ := h
    refine fV_getI (k := 5) (i := 3) hF fK5 rfl hA8 (by decide) fw_1158 (Or.inl rfl) rfl dX4_setHalfTime_25 ?_
    refine fV_istore_n hF (fun y => [some (aR (some o)), some (aI p1), some (aI y)]) dX4_setHalfTime_28 rfl (by rw [hxn]; decide) rfl (fun _ => rfl) (fun v9 ev9 => ?_)
    have h := h v9 ev9
    refine fV_aload_n hF dX4_setHalfTime_29 rfl rfl ?_
    refine fV_iload_n hF dX4_setHalfTime_30 rfl rfl ?_
    refine fV_putI (k := 5) (i := 3) hF fK5 tyX4_ok nmX4 rfl hA8 (by decide) rfl fw_1158 (Or.inl rfl) (Or.inl rfl) rfl rfl dX4_setHalfTime_31 ?_
    refine fV_iload_n hF dX4_setHalfTime_34 rfl rfl ?_
    exact fV_iret hF hE.s (by omega) hr rfl dX4_setHalfTime_35 ⟨_, rfl, h⟩
  · have h := h.2 c7
    refine fV_iconst (v := 0) hF dX4_setHalfTime_22 (by decide) ?_
    exact fV_iret hF hE.s (by omega) hr rfl dX4_setHalfTime_23 ⟨_, rfl, h⟩
set_option maxRecDepth 100000 in
set_option maxHeartbeats 4000000 in
theorem mc_X4_setHalfTime {l : Launch} (hfl : l.stackTraces = false) {G : fG} {S : fMS} {n : Nat} {o : Nat} {p1 : Int32} {post : Int32 → fMS → Nat → Prop} (h : wp_X4_setHalfTime S n o p1 post) : fCM l yX4_setHalfTime (.code yX4_setHalfTime cX4_setHalfTime 3 (some .int)) 2 G [(aR (some o)), (aI p1)] S n (fPI post) := by
  refine fCM_of hfl (by decide) (by intro v hv; simp only [List.mem_cons, List.not_mem_nil, or_false] at hv; rcases hv with rfl | rfl <;> rfl) (Nat.le_of_ble_eq_true rfl) (fun F hF hxn hl hG hr hin hE => ?_)
  subst hl hG
  have hlv : 2 ≤ 2 := Nat.le_refl _
  show fV F S n 0 [some (aR (some o)), some (aI p1), none] []
  unfold wp_X4_setHalfTime at h
  refine fV_aload_n hF dX4_setHalfTime_0 rfl rfl ?_
  refine fV_iload_n hF dX4_setHalfTime_1 rfl rfl ?_
  refine fV_iconst (v := 1) hF dX4_setHalfTime_2 (by decide) ?_
  refine fV_bipush (v := 100) hF dX4_setHalfTime_3 (by decide) ?_
  refine fV_callS (As := [(aI p1), (aI (1 : Int32)), (aI (100 : Int32))]) hF (mc_X4_in hF.2.2.2.2.2.2.2.2.1 h) (by omega) fw_1272 fw_1270 fw_1271 fw_10 ⟨by decide, by decide, by decide +kernel⟩ (na := 3) rfl (by decide) (Nat.le_of_ble_eq_true rfl) dX4_setHalfTime_5 rfl (fun rv S9 n9 hp => ?_)
  obtain ⟨v1, rfl, rfl, rfl, h⟩ := hp
  refine fV_if_ne (tgt := 15) hF dX4_setHalfTime_8 (by decide) (fun c2 => ?_) (fun c2 => ?_)
  · have h := h.1 c2
    refine fV_iconst (v := 0) hF dX4_setHalfTime_15 (by decide) ?_
    refine fV.sub (l' := [some (aR (some o)), some (aI p1), none]) ⟨rfl, ⟨rfl, trivial⟩⟩ ?_
    exact mB_X4_setHalfTime_16 hlv hF hxn hr hE  S n (some o) (0 : Int32) h
  · have h := h.2 c2
    refine fV_iconst (v := 1) hF dX4_setHalfTime_11 (by decide) ?_
    refine fV_goto (tgt := 16) hF dX4_setHalfTime_12 (by decide) ?_
    refine fV.sub (l' := [some (aR (some o)), some (aI p1), none]) ⟨rfl, ⟨rfl, trivial⟩⟩ ?_
    exact mB_X4_setHalfTime_16 hlv hF hxn hr hE  S n (some o) (1 : Int32) h
set_option maxRecDepth 100000 in
set_option maxHeartbeats 4000000 in
theorem mc_X4_teams {l : Launch} (hfl : l.stackTraces = false) {G : fG} {S : fMS} {n : Nat} {o : Nat} {post : Int32 → fMS → Nat → Prop} (h : wp_X4_teams S n o post) : fCM l yX4_teams (.code yX4_teams cX4_teams 1 (some .int)) 1 G [(aR (some o))] S n (fPI post) := by
  refine fCM_of hfl (by decide) (by intro v hv; simp only [List.mem_cons, List.not_mem_nil, or_false] at hv; rcases hv with rfl <;> rfl) (Nat.le_of_ble_eq_true rfl) (fun F hF hxn hl hG hr hin hE => ?_)
  subst hl hG
  have hlv : 1 ≤ 1 := Nat.le_refl _
  show fV F S n 0 [some (aR (some o))] []
  unfold wp_X4_teams at h
  refine fV_aload_n hF dX4_teams_0 rfl rfl ?_
  refine fV_iconst (v := 0) hF dX4_teams_1 (by decide) ?_
  obtain ⟨hA1, h⟩ := h
  refine fV_putI (k := 5) (i := 0) hF fK5 tyX4_ok nmX4 rfl hA1 (by decide) rfl fw_1155 (Or.inl rfl) (Or.inl rfl) rfl rfl dX4_teams_2 ?_
  refine fV_aload_n hF dX4_teams_5 rfl rfl ?_
  refine fV_getI (k := 5) (i := 4) hF fK5 rfl hA1 (by decide) fw_1159 (Or.inl rfl) rfl dX4_teams_6 ?_
  exact fV_iret hF hE.s (by omega) hr rfl dX4_teams_9 ⟨_, rfl, h⟩
set_option maxRecDepth 100000 in
set_option maxHeartbeats 4000000 in
theorem mB_X4_parentOf_22 {F : fX} {lv : Nat} (hlv : 3 ≤ lv) (hF : fOk F cX4_parentOf RX4 lv) (hxn : xn F = 2) (hr : (xM F).sig.returnType = (some .int)) {post : Int32 → fMS → Nat → Prop} {o : Nat} {p1 : Int32} (hE : fEnd F lv (fPI post)) (S : fMS) (n : Nat) (y0 : Option Nat) (y1 : Int32) (h : wB_X4_parentOf_22 post o p1 S n y0 y1) : fV F S n 22 [some (aR (some o)), some (aI p1)] [(aI y1), (aR y0)] := by
  unfold wB_X4_parentOf_22 at h
  obtain ⟨a1, e2, hA3, h⟩ := h
  refine fV_callV (k := 5) (As := [(aI y1)]) hF (mc_X4_goesOn hF.2.2.2.2.2.2.2.2.1 h) fK5 e2 hA3 (by omega) fw_1276 fw_1273 fw_1275 fwp_42 fw_10 ⟨rfl, by decide, by decide, by decide +kernel⟩ (na := 1) rfl (by decide) (Nat.le_of_ble_eq_true rfl) dX4_parentOf_22 rfl (fun rv S5 n6 hp => ?_)
  obtain ⟨v4, rfl, h⟩ := hp
  refine fV_if_eq (tgt := 37) hF dX4_parentOf_25 (by decide) (fun c7 => ?_) (fun c7 => ?_)
  · have h := h.1 c7
    refine fV_iconst (v := 0) hF dX4_parentOf_37 (by decide) ?_
    exact fV_iret hF hE.s (by omega) hr rfl dX4_parentOf_38 ⟨_, rfl, h⟩
  · have h := h.2 c7
    refine fV_aload_n hF dX4_parentOf_28 rfl rfl ?_
    obtain ⟨hA8, h⟩ := h
    refine fV_getR (k := 5) (i := 5) hF fK5 rfl hA8 (by decide) fw_1160 (Or.inl rfl) rfl dX4_parentOf_29 ?_
    refine fV_iload_n hF dX4_parentOf_32 rfl rfl ?_
    obtain ⟨a9, e10, hA11, h⟩ := h
    obtain ⟨hix12, h⟩ := h
    refine fV_iald hF e10 hA11 hix12 dX4_parentOf_33 ?_
    refine fV_goto (tgt := 38) hF dX4_parentOf_34 (by decide) ?_
    exact fV_iret hF hE.s (by omega) hr rfl dX4_parentOf_38 ⟨_, rfl, h⟩
set_option maxRecDepth 100000 in
set_option maxHeartbeats 4000000 in
theorem mc_X4_parentOf {l : Launch} (hfl : l.stackTraces = false) {G : fG} {S : fMS} {n : Nat} {o : Nat} {p1 : Int32} {post : Int32 → fMS → Nat → Prop} (h : wp_X4_parentOf S n o p1 post) : fCM l yX4_parentOf (.code yX4_parentOf cX4_parentOf 2 (some .int)) 3 G [(aR (some o)), (aI p1)] S n (fPI post) := by
  refine fCM_of hfl (by decide) (by intro v hv; simp only [List.mem_cons, List.not_mem_nil, or_false] at hv; rcases hv with rfl | rfl <;> rfl) (Nat.le_of_ble_eq_true rfl) (fun F hF hxn hl hG hr hin hE => ?_)
  subst hl hG
  have hlv : 3 ≤ 3 := Nat.le_refl _
  show fV F S n 0 [some (aR (some o)), some (aI p1)] []
  unfold wp_X4_parentOf at h
  refine fV_aload_n hF dX4_parentOf_0 rfl rfl ?_
  refine fV_aload_n hF dX4_parentOf_1 rfl rfl ?_
  refine fV_iload_n hF dX4_parentOf_2 rfl rfl ?_
  obtain ⟨hA1, h⟩ := h
  refine fV_callV (k := 5) (As := [(aI p1)]) hF (mc_X4_isTeam hF.2.2.2.2.2.2.2.2.1 h) fK5 rfl hA1 (by omega) fw_1269 fw_1266 fw_1268 fwp_41 fw_10 ⟨rfl, by decide, by decide, by decide +kernel⟩ (na := 1) rfl (by decide) (Nat.le_of_ble_eq_true rfl) dX4_parentOf_3 rfl (fun rv S9 n9 hp => ?_)
  obtain ⟨v2, rfl, rfl, rfl, h⟩ := hp
  refine fV_if_ne (tgt := 13) hF dX4_parentOf_6 (by decide) (fun c3 => ?_) (fun c3 => ?_)
  · have h := h.1 c3
    refine fV_iload_n hF dX4_parentOf_13 rfl rfl ?_
    refine fV_if_ne (tgt := 21) hF dX4_parentOf_14 (by decide) (fun c4 => ?_) (fun c4 => ?_)
    · have h := h.1 c4
      refine fV_iconst (v := 0) hF dX4_parentOf_21 (by decide) ?_
      refine fV.sub (l' := [some (aR (some o)), some (aI p1)]) ⟨rfl, ⟨rfl, trivial⟩⟩ ?_
      exact mB_X4_parentOf_22 hlv hF hxn hr hE  S n (some o) (0 : Int32) h
    · have h := h.2 c4
      refine fV_iconst (v := 2) hF dX4_parentOf_17 (by decide) ?_
      refine fV_goto (tgt := 22) hF dX4_parentOf_18 (by decide) ?_
      refine fV.sub (l' := [some (aR (some o)), some (aI p1)]) ⟨rfl, ⟨rfl, trivial⟩⟩ ?_
      exact mB_X4_parentOf_22 hlv hF hxn hr hE  S n (some o) (2 : Int32) h
  · have h := h.2 c3
    refine fV_iconst (v := 1) hF dX4_parentOf_9 (by decide) ?_
    refine fV_goto (tgt := 22) hF dX4_parentOf_10 (by decide) ?_
    refine fV.sub (l' := [some (aR (some o)), some (aI p1)]) ⟨rfl, ⟨rfl, trivial⟩⟩ ?_
    exact mB_X4_parentOf_22 hlv hF hxn hr hE  S n (some o) (1 : Int32) h
set_option maxRecDepth 100000 in
set_option maxHeartbeats 4000000 in
theorem mB_X4_children_14 {F : fX} {lv : Nat} (hlv : 3 ≤ lv) (hF : fOk F cX4_children RX4 lv) (hxn : xn F = 2) (hr : (xM F).sig.returnType = (some .int)) {post : Int32 → fMS → Nat → Prop} {o : Nat} {p1 : Int32} (hE : fEnd F lv (fPI post)) (S : fMS) (n : Nat) (y0 : Option Nat) (y1 : Int32) (h : wB_X4_children_14 post o p1 S n y0 y1) : fV F S n 14 [some (aR (some o)), some (aI p1)] [(aI y1), (aR y0)] := by
  unfold wB_X4_children_14 at h
  obtain ⟨a1, e2, hA3, h⟩ := h
  refine fV_callV (k := 5) (As := [(aI y1)]) hF (mc_X4_goesOn hF.2.2.2.2.2.2.2.2.1 h) fK5 e2 hA3 (by omega) fw_1276 fw_1273 fw_1275 fwp_42 fw_10 ⟨rfl, by decide, by decide, by decide +kernel⟩ (na := 1) rfl (by decide) (Nat.le_of_ble_eq_true rfl) dX4_children_14 rfl (fun rv S5 n6 hp => ?_)
  obtain ⟨v4, rfl, h⟩ := hp
  refine fV_if_eq (tgt := 28) hF dX4_children_17 (by decide) (fun c7 => ?_) (fun c7 => ?_)
  · have h := h.1 c7
    refine fV_iconst (v := 0) hF dX4_children_28 (by decide) ?_
    exact fV_iret hF hE.s (by omega) hr rfl dX4_children_29 ⟨_, rfl, h⟩
  · have h := h.2 c7
    refine fV_aload_n hF dX4_children_20 rfl rfl ?_
    refine fV_iload_n hF dX4_children_21 rfl rfl ?_
    obtain ⟨hA8, h⟩ := h
    refine fV_callV (k := 5) (As := [(aI p1)]) hF (mc_X4_childrenOf hF.2.2.2.2.2.2.2.2.1 h) fK5 rfl hA8 (by omega) fw_1296 fw_1293 fw_1295 fwp_47 fw_10 ⟨rfl, by decide, by decide, by decide +kernel⟩ (na := 1) rfl (by decide) (Nat.le_of_ble_eq_true rfl) dX4_children_22 rfl (fun rv S9 n9 hp => ?_)
    obtain ⟨v9, rfl, rfl, rfl, h⟩ := hp
    refine fV_goto (tgt := 29) hF dX4_children_25 (by decide) ?_
    exact fV_iret hF hE.s (by omega) hr rfl dX4_children_29 ⟨_, rfl, h⟩
set_option maxRecDepth 100000 in
set_option maxHeartbeats 4000000 in
theorem mc_X4_children {l : Launch} (hfl : l.stackTraces = false) {G : fG} {S : fMS} {n : Nat} {o : Nat} {p1 : Int32} {post : Int32 → fMS → Nat → Prop} (h : wp_X4_children S n o p1 post) : fCM l yX4_children (.code yX4_children cX4_children 2 (some .int)) 3 G [(aR (some o)), (aI p1)] S n (fPI post) := by
  refine fCM_of hfl (by decide) (by intro v hv; simp only [List.mem_cons, List.not_mem_nil, or_false] at hv; rcases hv with rfl | rfl <;> rfl) (Nat.le_of_ble_eq_true rfl) (fun F hF hxn hl hG hr hin hE => ?_)
  subst hl hG
  have hlv : 3 ≤ 3 := Nat.le_refl _
  show fV F S n 0 [some (aR (some o)), some (aI p1)] []
  unfold wp_X4_children at h
  refine fV_aload_n hF dX4_children_0 rfl rfl ?_
  refine fV_aload_n hF dX4_children_1 rfl rfl ?_
  refine fV_iload_n hF dX4_children_2 rfl rfl ?_
  obtain ⟨hA1, h⟩ := h
  refine fV_callV (k := 5) (As := [(aI p1)]) hF (mc_X4_isTeam hF.2.2.2.2.2.2.2.2.1 h) fK5 rfl hA1 (by omega) fw_1269 fw_1266 fw_1268 fwp_41 fw_10 ⟨rfl, by decide, by decide, by decide +kernel⟩ (na := 1) rfl (by decide) (Nat.le_of_ble_eq_true rfl) dX4_children_3 rfl (fun rv S9 n9 hp => ?_)
  obtain ⟨v2, rfl, rfl, rfl, h⟩ := hp
  refine fV_if_eq (tgt := 13) hF dX4_children_6 (by decide) (fun c3 => ?_) (fun c3 => ?_)
  · have h := h.1 c3
    refine fV_iconst (v := 1) hF dX4_children_13 (by decide) ?_
    refine fV.sub (l' := [some (aR (some o)), some (aI p1)]) ⟨rfl, ⟨rfl, trivial⟩⟩ ?_
    exact mB_X4_children_14 hlv hF hxn hr hE  S n (some o) (1 : Int32) h
  · have h := h.2 c3
    refine fV_iconst (v := 0) hF dX4_children_9 (by decide) ?_
    refine fV_goto (tgt := 14) hF dX4_children_10 (by decide) ?_
    refine fV.sub (l' := [some (aR (some o)), some (aI p1)]) ⟨rfl, ⟨rfl, trivial⟩⟩ ?_
    exact mB_X4_children_14 hlv hF hxn hr hE  S n (some o) (0 : Int32) h
set_option maxRecDepth 100000 in
set_option maxHeartbeats 4000000 in
theorem mB_X4_submit_32 {F : fX} {lv : Nat} (hlv : 17 ≤ lv) (hF : fOk F cX4_submit RX4 lv) (hxn : xn F = 6) (hr : (xM F).sig.returnType = (some .int)) {post : Int32 → fMS → Nat → Prop} {K62 : fMS → Nat → Int32 → Prop} {o : Nat} {p1 : Int32} {p2 : Int32} {p3 : Int32} (hE : fEnd F lv (fPI post)) (hK62 : ∀ (S : fMS) (n : Nat) (y0 : Int32), K62 S n y0 → fV F S n 62 [some (aR (some o)), some (aI p1), some (aI p2), some (aI p3), none, none] [(aI y0)]) (S : fMS) (n : Nat) (h : wB_X4_submit_32 post K62 o p1 p2 p3 S n) : fV F S n 32 [some (aR (some o)), some (aI p1), some (aI p2), some (aI p3), none, none] [] := by
  unfold wB_X4_submit_32 at h
  refine fV_iconst (v := 2) hF dX4_submit_32 (by decide) ?_
  refine fV_goto (tgt := 62) hF dX4_submit_33 (by decide) ?_
  refine fV.sub (l' := [some (aR (some o)), some (aI p1), some (aI p2), some (aI p3), none, none]) ⟨rfl, ⟨rfl, ⟨rfl, ⟨rfl, trivial⟩⟩⟩⟩ ?_
  exact hK62 S n (2 : Int32) h
set_option maxRecDepth 100000 in
set_option maxHeartbeats 4000000 in
theorem mB_X4_submit_62 {F : fX} {lv : Nat} (hlv : 17 ≤ lv) (hF : fOk F cX4_submit RX4 lv) (hxn : xn F = 6) (hr : (xM F).sig.returnType = (some .int)) {post : Int32 → fMS → Nat → Prop} {o : Nat} {p1 : Int32} {p2 : Int32} {p3 : Int32} (hE : fEnd F lv (fPI post)) (S : fMS) (n : Nat) (y0 : Int32) (h : wB_X4_submit_62 post o p1 p2 p3 S n y0) : fV F S n 62 [some (aR (some o)), some (aI p1), some (aI p2), some (aI p3), none, none] [(aI y0)] := by
  unfold wB_X4_submit_62 at h
  refine fV_istore0 hF [some (aR (some o)), some (aI p1), some (aI p2), some (aI p3), some (aI y0), none] dX4_submit_62 (by rw [hxn]; decide) rfl rfl ?_
  refine fV_aload_n hF dX4_submit_64 rfl rfl ?_
  refine fV_iload hF dX4_submit_65 rfl ?_
  obtain ⟨hA1, h⟩ := h
  refine fV_callV (k := 5) (As := [(aI y0)]) hF (mc_X4_goesOn hF.2.2.2.2.2.2.2.2.1 h) fK5 rfl hA1 (by omega) fw_1276 fw_1273 fw_1275 fwp_42 fw_10 ⟨rfl, by decide, by decide, by decide +kernel⟩ (na := 1) rfl (by decide) (Nat.le_of_ble_eq_true rfl) dX4_submit_67 rfl (fun rv S3 n4 hp => ?_)
  obtain ⟨v2, rfl, h⟩ := hp
  refine fV_if_ne (tgt := 75) hF dX4_submit_70 (by decide) (fun c5 => ?_) (fun c5 => ?_)
  · have h := h.1 c5
    refine fV_aload_n hF dX4_submit_75 rfl rfl ?_
    obtain ⟨hA6, h⟩ := h
    refine fV_getI (k := 5) (i := 12) hF fK5 rfl hA6 (by decide) fw_1167 (Or.inl rfl) rfl dX4_submit_76 ?_
    refine fV_istore hF (fun y => [some (aR (some o)), some (aI p1), some (aI p2), some (aI p3), some (aI y0), some (aI y)]) dX4_submit_79 (by rw [hxn]; decide) rfl (fun _ => rfl) (fun v7 ev7 => ?_)
    have h := h v7 ev7
    refine fV_aload_n hF dX4_submit_81 rfl rfl ?_
    refine fV_getR (k := 5) (i := 13) hF fK5 rfl hA6 (by decide) fw_1168 (Or.inl rfl) rfl dX4_submit_82 ?_
    refine fV_iload hF dX4_submit_85 rfl ?_
    refine fV_iload_n hF dX4_submit_87 rfl rfl ?_
    obtain ⟨a8, e9, hA10, h⟩ := h
    obtain ⟨hix11, h⟩ := h
    refine fV_iast hF e9 hA10 hix11 dX4_submit_88 ?_
    refine fV_aload_n hF dX4_submit_89 rfl rfl ?_
    refine fV_getR (k := 5) (i := 14) hF fK5 rfl hA6 (by decide) fw_1169 (Or.inl rfl) rfl dX4_submit_90 ?_
    refine fV_iload hF dX4_submit_93 rfl ?_
    refine fV_iload_n hF dX4_submit_95 rfl rfl ?_
    obtain ⟨a12, e13, hA14, h⟩ := h
    obtain ⟨hix15, h⟩ := h
    refine fV_iast hF e13 hA14 hix15 dX4_submit_96 ?_
    refine fV_aload_n hF dX4_submit_97 rfl rfl ?_
    refine fV_getR (k := 5) (i := 15) hF fK5 rfl hA6 (by decide) fw_1170 (Or.inl rfl) rfl dX4_submit_98 ?_
    refine fV_iload hF dX4_submit_101 rfl ?_
    refine fV_iload_n hF dX4_submit_103 rfl rfl ?_
    obtain ⟨a16, e17, hA18, h⟩ := h
    obtain ⟨hix19, h⟩ := h
    refine fV_iast hF e17 hA18 hix19 dX4_submit_104 ?_
    refine fV_aload_n hF dX4_submit_105 rfl rfl ?_
    refine fV_getR (k := 5) (i := 17) hF fK5 rfl hA6 (by decide) fw_1172 (Or.inl rfl) rfl dX4_submit_106 ?_
    refine fV_iload hF dX4_submit_109 rfl ?_
    refine fV_iconst (v := 0) hF dX4_submit_111 (by decide) ?_
    obtain ⟨a20, e21, hA22, h⟩ := h
    obtain ⟨hix23, h⟩ := h
    refine fV_iast hF e21 hA22 hix23 dX4_submit_112 ?_
    refine fV_aload_n hF dX4_submit_113 rfl rfl ?_
    refine fV_getR (k := 5) (i := 11) hF fK5 rfl hA6 (by decide) fw_1166 (Or.inl rfl) rfl dX4_submit_114 ?_
    refine fV_iload_n hF dX4_submit_117 rfl rfl ?_
    refine fV_dup2 hF dX4_submit_118 rfl rfl ?_
    obtain ⟨a24, e25, hA26, h⟩ := h
    obtain ⟨hix27, h⟩ := h
    refine fV_iald hF e25 hA26 hix27 dX4_submit_119 ?_
    refine fV_iload_n hF dX4_submit_120 rfl rfl ?_
    refine fV_iadd hF dX4_submit_121 ?_
    obtain ⟨hix28, h⟩ := h
    refine fV_iast hF e25 hA26 hix28 dX4_submit_122 ?_
    refine fV_aload_n hF dX4_submit_123 rfl rfl ?_
    refine fV_getR (k := 5) (i := 9) hF fK5 rfl hA6 (by decide) fw_1164 (Or.inl rfl) rfl dX4_submit_124 ?_
    refine fV_iload_n hF dX4_submit_127 rfl rfl ?_
    refine fV_iconst (v := 1) hF dX4_submit_128 (by decide) ?_
    obtain ⟨a29, e30, hA31, h⟩ := h
    obtain ⟨hix32, h⟩ := h
    refine fV_zast hF e30 hA31 hix32 dX4_submit_129 ?_
    refine fV_aload_n hF dX4_submit_130 rfl rfl ?_
    refine fV_dup hF dX4_submit_131 rfl ?_
    refine fV_getI (k := 5) (i := 12) hF fK5 rfl hA6 (by decide) fw_1167 (Or.inl rfl) rfl dX4_submit_132 ?_
    refine fV_iconst (v := 1) hF dX4_submit_135 (by decide) ?_
    refine fV_iadd hF dX4_submit_136 ?_
    refine fV_putI (k := 5) (i := 12) hF fK5 tyX4_ok nmX4 rfl hA6 (by decide) rfl fw_1167 (Or.inl rfl) (Or.inl rfl) rfl rfl dX4_submit_137 ?_
    refine fV_aload_n hF dX4_submit_140 rfl rfl ?_
    refine fV_dup hF dX4_submit_141 rfl ?_
    refine fV_getI (k := 5) (i := 21) hF fK5 rfl hA6 (by decide) fw_1176 (Or.inl rfl) rfl dX4_submit_142 ?_
    refine fV_iconst (v := 1) hF dX4_submit_145 (by decide) ?_
    refine fV_iadd hF dX4_submit_146 ?_
    refine fV_putI (k := 5) (i := 21) hF fK5 tyX4_ok nmX4 rfl hA6 (by decide) rfl fw_1176 (Or.inl rfl) (Or.inl rfl) rfl rfl dX4_submit_147 ?_
    refine fV_aload_n hF dX4_submit_150 rfl rfl ?_
    refine fV_callV (k := 5) (As := []) hF (mc_X4_serves hF.2.2.2.2.2.2.2.2.1 h) fK5 rfl hA6 (by omega) fw_1280 fw_1277 fw_1279 fwp_43 fw_10 ⟨rfl, by decide, by decide, by decide +kernel⟩ (na := 0) rfl (by decide) (Nat.le_of_ble_eq_true rfl) dX4_submit_151 rfl (fun rv S33 n34 hp => ?_)
    obtain ⟨rfl, h⟩ := hp
    refine fV_iload hF dX4_submit_154 rfl ?_
    exact fV_iret hF hE.s (by omega) hr rfl dX4_submit_156 ⟨_, rfl, h⟩
  · have h := h.2 c5
    refine fV_iconst (v := 0) hF dX4_submit_73 (by decide) ?_
    exact fV_iret hF hE.s (by omega) hr rfl dX4_submit_74 ⟨_, rfl, h⟩
set_option maxRecDepth 100000 in
set_option maxHeartbeats 4000000 in
theorem mc_X4_submit {l : Launch} (hfl : l.stackTraces = false) {G : fG} {S : fMS} {n : Nat} {o : Nat} {p1 : Int32} {p2 : Int32} {p3 : Int32} {post : Int32 → fMS → Nat → Prop} (h : wp_X4_submit S n o p1 p2 p3 post) : fCM l yX4_submit (.code yX4_submit cX4_submit 6 (some .int)) 17 G [(aR (some o)), (aI p1), (aI p2), (aI p3)] S n (fPI post) := by
  refine fCM_of hfl (by decide) (by intro v hv; simp only [List.mem_cons, List.not_mem_nil, or_false] at hv; rcases hv with rfl | rfl | rfl | rfl <;> rfl) (Nat.le_of_ble_eq_true rfl) (fun F hF hxn hl hG hr hin hE => ?_)
  subst hl hG
  have hlv : 17 ≤ 17 := Nat.le_refl _
  show fV F S n 0 [some (aR (some o)), some (aI p1), some (aI p2), some (aI p3), none, none] []
  unfold wp_X4_submit at h
  refine fV_aload_n hF dX4_submit_0 rfl rfl ?_
  refine fV_iload_n hF dX4_submit_1 rfl rfl ?_
  obtain ⟨hA1, h⟩ := h
  refine fV_callV (k := 5) (As := [(aI p1)]) hF (mc_X4_isTeam hF.2.2.2.2.2.2.2.2.1 h) fK5 rfl hA1 (by omega) fw_1269 fw_1266 fw_1268 fwp_41 fw_10 ⟨rfl, by decide, by decide, by decide +kernel⟩ (na := 1) rfl (by decide) (Nat.le_of_ble_eq_true rfl) dX4_submit_2 rfl (fun rv S9 n9 hp => ?_)
  obtain ⟨v2, rfl, rfl, rfl, h⟩ := hp
  refine fV_if_ne (tgt := 12) hF dX4_submit_5 (by decide) (fun c3 => ?_) (fun c3 => ?_)
  · have h := h.1 c3
    refine fV_iload_n hF dX4_submit_12 rfl rfl ?_
    refine fV_iconst (v := 1) hF dX4_submit_13 (by decide) ?_
    refine fV_bipush (v := 60) hF dX4_submit_14 (by decide) ?_
    refine fV_callS (As := [(aI p2), (aI (1 : Int32)), (aI (60 : Int32))]) hF (mc_X4_in hF.2.2.2.2.2.2.2.2.1 h) (by omega) fw_1272 fw_1270 fw_1271 fw_10 ⟨by decide, by decide, by decide +kernel⟩ (na := 3) rfl (by decide) (Nat.le_of_ble_eq_true rfl) dX4_submit_16 rfl (fun rv S9 n9 hp => ?_)
    obtain ⟨v4, rfl, rfl, rfl, h⟩ := hp
    refine fV_if_eq (tgt := 32) hF dX4_submit_19 (by decide) (fun c5 => ?_) (fun c5 => ?_)
    · have h := h.1 c5
      refine fV.sub (l' := [some (aR (some o)), some (aI p1), some (aI p2), some (aI p3), none, none]) ⟨rfl, ⟨rfl, ⟨rfl, ⟨rfl, trivial⟩⟩⟩⟩ ?_
      exact mB_X4_submit_32 hlv hF hxn hr hE (fun S9 n9 z0 h9 => mB_X4_submit_62 hlv hF hxn hr hE  S9 n9 z0 h9) S n h
    · have h := h.2 c5
      refine fV_iload_n hF dX4_submit_22 rfl rfl ?_
      refine fV_iconst (v := 1) hF dX4_submit_23 (by decide) ?_
      refine fV_bipush (v := 50) hF dX4_submit_24 (by decide) ?_
      refine fV_callS (As := [(aI p3), (aI (1 : Int32)), (aI (50 : Int32))]) hF (mc_X4_in hF.2.2.2.2.2.2.2.2.1 h) (by omega) fw_1272 fw_1270 fw_1271 fw_10 ⟨by decide, by decide, by decide +kernel⟩ (na := 3) rfl (by decide) (Nat.le_of_ble_eq_true rfl) dX4_submit_26 rfl (fun rv S9 n9 hp => ?_)
      obtain ⟨v6, rfl, rfl, rfl, h⟩ := hp
      refine fV_if_ne (tgt := 36) hF dX4_submit_29 (by decide) (fun c7 => ?_) (fun c7 => ?_)
      · have h := h.1 c7
        refine fV_aload_n hF dX4_submit_36 rfl rfl ?_
        refine fV_iload_n hF dX4_submit_37 rfl rfl ?_
        refine fV_callV (k := 5) (As := [(aI p1)]) hF (mc_X4_isLeaf hF.2.2.2.2.2.2.2.2.1 h) fK5 rfl hA1 (by omega) fw_1292 fw_1289 fw_1291 fwp_46 fw_10 ⟨rfl, by decide, by decide, by decide +kernel⟩ (na := 1) rfl (by decide) (Nat.le_of_ble_eq_true rfl) dX4_submit_38 rfl (fun rv S9 n9 hp => ?_)
        obtain ⟨v8, rfl, rfl, rfl, h⟩ := hp
        refine fV_if_ne (tgt := 48) hF dX4_submit_41 (by decide) (fun c9 => ?_) (fun c9 => ?_)
        · have h := h.1 c9
          refine fV_aload_n hF dX4_submit_48 rfl rfl ?_
          refine fV_getI (k := 5) (i := 21) hF fK5 rfl hA1 (by decide) fw_1176 (Or.inl rfl) rfl dX4_submit_49 ?_
          refine fV_bipush (v := 40) hF dX4_submit_52 (by decide) ?_
          refine fV_icmp_ne (tgt := 61) hF dX4_submit_54 (by decide) (fun c10 => ?_) (fun c10 => ?_)
          · have h := h.1 c10
            refine fV_iconst (v := 0) hF dX4_submit_61 (by decide) ?_
            refine fV.sub (l' := [some (aR (some o)), some (aI p1), some (aI p2), some (aI p3), none, none]) ⟨rfl, ⟨rfl, ⟨rfl, ⟨rfl, trivial⟩⟩⟩⟩ ?_
            exact mB_X4_submit_62 hlv hF hxn hr hE  S n (0 : Int32) h
          · have h := h.2 c10
            refine fV_iconst (v := 4) hF dX4_submit_57 (by decide) ?_
            refine fV_goto (tgt := 62) hF dX4_submit_58 (by decide) ?_
            refine fV.sub (l' := [some (aR (some o)), some (aI p1), some (aI p2), some (aI p3), none, none]) ⟨rfl, ⟨rfl, ⟨rfl, ⟨rfl, trivial⟩⟩⟩⟩ ?_
            exact mB_X4_submit_62 hlv hF hxn hr hE  S n (4 : Int32) h
        · have h := h.2 c9
          refine fV_iconst (v := 3) hF dX4_submit_44 (by decide) ?_
          refine fV_goto (tgt := 62) hF dX4_submit_45 (by decide) ?_
          refine fV.sub (l' := [some (aR (some o)), some (aI p1), some (aI p2), some (aI p3), none, none]) ⟨rfl, ⟨rfl, ⟨rfl, ⟨rfl, trivial⟩⟩⟩⟩ ?_
          exact mB_X4_submit_62 hlv hF hxn hr hE  S n (3 : Int32) h
      · have h := h.2 c7
        refine fV.sub (l' := [some (aR (some o)), some (aI p1), some (aI p2), some (aI p3), none, none]) ⟨rfl, ⟨rfl, ⟨rfl, ⟨rfl, trivial⟩⟩⟩⟩ ?_
        exact mB_X4_submit_32 hlv hF hxn hr hE (fun S9 n9 z0 h9 => mB_X4_submit_62 hlv hF hxn hr hE  S9 n9 z0 h9) S n h
  · have h := h.2 c3
    refine fV_iconst (v := 1) hF dX4_submit_8 (by decide) ?_
    refine fV_goto (tgt := 62) hF dX4_submit_9 (by decide) ?_
    refine fV.sub (l' := [some (aR (some o)), some (aI p1), some (aI p2), some (aI p3), none, none]) ⟨rfl, ⟨rfl, ⟨rfl, ⟨rfl, trivial⟩⟩⟩⟩ ?_
    exact mB_X4_submit_62 hlv hF hxn hr hE  S n (1 : Int32) h
set_option maxRecDepth 100000 in
set_option maxHeartbeats 4000000 in
theorem mc_X4_isJob {l : Launch} (hfl : l.stackTraces = false) {G : fG} {S : fMS} {n : Nat} {o : Nat} {p1 : Int32} {post : Int32 → Prop} (h : wp_X4_isJob S o p1 post) : fCM l yX4_isJob (.code yX4_isJob cX4_isJob 2 (some .boolean)) 2 G [(aR (some o)), (aI p1)] S n (fPI (fun x S' n' => S = S' ∧ n = n' ∧ post x)) := by
  refine fCM_of hfl (by decide) (by intro v hv; simp only [List.mem_cons, List.not_mem_nil, or_false] at hv; rcases hv with rfl | rfl <;> rfl) (Nat.le_of_ble_eq_true rfl) (fun F hF hxn hl hG hr hin hE => ?_)
  subst hl hG
  have hlv : 2 ≤ 2 := Nat.le_refl _
  show fV F S n 0 [some (aR (some o)), some (aI p1)] []
  unfold wp_X4_isJob at h
  refine fV_iload_n hF dX4_isJob_0 rfl rfl ?_
  refine fV_iconst (v := 0) hF dX4_isJob_1 (by decide) ?_
  refine fV_aload_n hF dX4_isJob_2 rfl rfl ?_
  obtain ⟨hA1, h⟩ := h
  refine fV_getI (k := 5) (i := 12) hF fK5 rfl hA1 (by decide) fw_1167 (Or.inl rfl) rfl dX4_isJob_3 ?_
  refine fV_iconst (v := 1) hF dX4_isJob_6 (by decide) ?_
  refine fV_isub hF dX4_isJob_7 ?_
  refine fV_callS (As := [(aI p1), (aI (0 : Int32)), (aI ((sI S o 12) - (1 : Int32)))]) hF (mc_X4_in hF.2.2.2.2.2.2.2.2.1 h) (by omega) fw_1272 fw_1270 fw_1271 fw_10 ⟨by decide, by decide, by decide +kernel⟩ (na := 3) rfl (by decide) (Nat.le_of_ble_eq_true rfl) dX4_isJob_8 rfl (fun rv S9 n9 hp => ?_)
  obtain ⟨v2, rfl, rfl, rfl, h⟩ := hp
  obtain ⟨hnr3, h⟩ := h
  exact fV_iret hF hE.s (by omega) hr hnr3 dX4_isJob_11 ⟨_, rfl, rfl, rfl, h⟩
set_option maxRecDepth 100000 in
set_option maxHeartbeats 4000000 in
theorem mc_X4_liveFault {l : Launch} (hfl : l.stackTraces = false) {G : fG} {S : fMS} {n : Nat} {o : Nat} {p1 : Int32} {post : Int32 → Prop} (h : wp_X4_liveFault S o p1 post) : fCM l yX4_liveFault (.code yX4_liveFault cX4_liveFault 2 (some .int)) 3 G [(aR (some o)), (aI p1)] S n (fPI (fun x S' n' => S = S' ∧ n = n' ∧ post x)) := by
  refine fCM_of hfl (by decide) (by intro v hv; simp only [List.mem_cons, List.not_mem_nil, or_false] at hv; rcases hv with rfl | rfl <;> rfl) (Nat.le_of_ble_eq_true rfl) (fun F hF hxn hl hG hr hin hE => ?_)
  subst hl hG
  have hlv : 3 ≤ 3 := Nat.le_refl _
  show fV F S n 0 [some (aR (some o)), some (aI p1)] []
  unfold wp_X4_liveFault at h
  refine fV_aload_n hF dX4_liveFault_0 rfl rfl ?_
  refine fV_iload_n hF dX4_liveFault_1 rfl rfl ?_
  obtain ⟨hA1, h⟩ := h
  refine fV_callV (k := 5) (As := [(aI p1)]) hF (mc_X4_isJob hF.2.2.2.2.2.2.2.2.1 h) fK5 rfl hA1 (by omega) fw_1408 fw_1405 fw_1407 fwp_66 fw_10 ⟨rfl, by decide, by decide, by decide +kernel⟩ (na := 1) rfl (by decide) (Nat.le_of_ble_eq_true rfl) dX4_liveFault_2 rfl (fun rv S9 n9 hp => ?_)
  obtain ⟨v2, rfl, rfl, rfl, h⟩ := hp
  refine fV_if_ne (tgt := 12) hF dX4_liveFault_5 (by decide) (fun c3 => ?_) (fun c3 => ?_)
  · have h := h.1 c3
    refine fV_aload_n hF dX4_liveFault_12 rfl rfl ?_
    refine fV_getR (k := 5) (i := 17) hF fK5 rfl hA1 (by decide) fw_1172 (Or.inl rfl) rfl dX4_liveFault_13 ?_
    refine fV_iload_n hF dX4_liveFault_16 rfl rfl ?_
    obtain ⟨a4, e5, hA6, h⟩ := h
    obtain ⟨hix7, h⟩ := h
    refine fV_iald hF e5 hA6 hix7 dX4_liveFault_17 ?_
    refine fV_if_eq (tgt := 35) hF dX4_liveFault_18 (by decide) (fun c8 => ?_) (fun c8 => ?_)
    · have h := h.1 c8
      refine fV_iconst (v := 0) hF dX4_liveFault_35 (by decide) ?_
      exact fV_iret hF hE.s (by omega) hr rfl dX4_liveFault_36 ⟨_, rfl, rfl, rfl, h⟩
    · have h := h.2 c8
      refine fV_aload_n hF dX4_liveFault_21 rfl rfl ?_
      refine fV_getR (k := 5) (i := 17) hF fK5 rfl hA1 (by decide) fw_1172 (Or.inl rfl) rfl dX4_liveFault_22 ?_
      refine fV_iload_n hF dX4_liveFault_25 rfl rfl ?_
      obtain ⟨hix9, h⟩ := h
      refine fV_iald hF e5 hA6 hix9 dX4_liveFault_26 ?_
      refine fV_iconst (v := 1) hF dX4_liveFault_27 (by decide) ?_
      refine fV_icmp_eq (tgt := 35) hF dX4_liveFault_28 (by decide) (fun c10 => ?_) (fun c10 => ?_)
      · have h := h.1 c10
        refine fV_iconst (v := 0) hF dX4_liveFault_35 (by decide) ?_
        exact fV_iret hF hE.s (by omega) hr rfl dX4_liveFault_36 ⟨_, rfl, rfl, rfl, h⟩
      · have h := h.2 c10
        refine fV_iconst (v := 2) hF dX4_liveFault_31 (by decide) ?_
        refine fV_goto (tgt := 36) hF dX4_liveFault_32 (by decide) ?_
        exact fV_iret hF hE.s (by omega) hr rfl dX4_liveFault_36 ⟨_, rfl, rfl, rfl, h⟩
  · have h := h.2 c3
    refine fV_iconst (v := 1) hF dX4_liveFault_8 (by decide) ?_
    refine fV_goto (tgt := 36) hF dX4_liveFault_9 (by decide) ?_
    exact fV_iret hF hE.s (by omega) hr rfl dX4_liveFault_36 ⟨_, rfl, rfl, rfl, h⟩
set_option maxRecDepth 100000 in
set_option maxHeartbeats 4000000 in
theorem mB_X4_leaves_50 {F : fX} {lv : Nat} (hlv : 2 ≤ lv) (hF : fOk F cX4_leaves RX4 lv) (hxn : xn F = 3) (hr : (xM F).sig.returnType = none) {post : fMS → Nat → Prop} {o : Nat} {p1 : Int32} {p2 : Int32} (hE : fEnd F lv (fPV post)) (S : fMS) (n : Nat) (h : wB_X4_leaves_50 post o p1 p2 S n) : fV F S n 50 [some (aR (some o)), some (aI p1), some (aI p2)] [] := by
  unfold wB_X4_leaves_50 at h
  refine fV_aload_n hF dX4_leaves_50 rfl rfl ?_
  obtain ⟨hA1, h⟩ := h
  refine fV_getR (k := 5) (i := 17) hF fK5 rfl hA1 (by decide) fw_1172 (Or.inl rfl) rfl dX4_leaves_51 ?_
  refine fV_iload_n hF dX4_leaves_54 rfl rfl ?_
  refine fV_iload_n hF dX4_leaves_55 rfl rfl ?_
  obtain ⟨a2, e3, hA4, h⟩ := h
  obtain ⟨hix5, h⟩ := h
  refine fV_iast hF e3 hA4 hix5 dX4_leaves_56 ?_
  refine fV_aload_n hF dX4_leaves_57 rfl rfl ?_
  refine fV_dup hF dX4_leaves_58 rfl ?_
  refine fV_getI (k := 5) (i := 21) hF fK5 rfl hA1 (by decide) fw_1176 (Or.inl rfl) rfl dX4_leaves_59 ?_
  refine fV_iconst (v := 1) hF dX4_leaves_62 (by decide) ?_
  refine fV_isub hF dX4_leaves_63 ?_
  refine fV_putI (k := 5) (i := 21) hF fK5 tyX4_ok nmX4 rfl hA1 (by decide) rfl fw_1176 (Or.inl rfl) (Or.inl rfl) rfl rfl dX4_leaves_64 ?_
  exact fV_vret hF hE.s (by omega) hr dX4_leaves_67 ⟨rfl, h⟩
set_option maxRecDepth 100000 in
set_option maxHeartbeats 4000000 in
theorem mc_X4_leaves {l : Launch} (hfl : l.stackTraces = false) {G : fG} {S : fMS} {n : Nat} {o : Nat} {p1 : Int32} {p2 : Int32} {post : fMS → Nat → Prop} (h : wp_X4_leaves S n o p1 p2 post) : fCM l yX4_leaves (.code yX4_leaves cX4_leaves 3 none) 2 G [(aR (some o)), (aI p1), (aI p2)] S n (fPV post) := by
  refine fCM_of hfl (by decide) (by intro v hv; simp only [List.mem_cons, List.not_mem_nil, or_false] at hv; rcases hv with rfl | rfl | rfl <;> rfl) (Nat.le_of_ble_eq_true rfl) (fun F hF hxn hl hG hr hin hE => ?_)
  subst hl hG
  have hlv : 2 ≤ 2 := Nat.le_refl _
  show fV F S n 0 [some (aR (some o)), some (aI p1), some (aI p2)] []
  unfold wp_X4_leaves at h
  refine fV_aload_n hF dX4_leaves_0 rfl rfl ?_
  obtain ⟨hA1, h⟩ := h
  refine fV_getR (k := 5) (i := 17) hF fK5 rfl hA1 (by decide) fw_1172 (Or.inl rfl) rfl dX4_leaves_1 ?_
  refine fV_iload_n hF dX4_leaves_4 rfl rfl ?_
  obtain ⟨a2, e3, hA4, h⟩ := h
  obtain ⟨hix5, h⟩ := h
  refine fV_iald hF e3 hA4 hix5 dX4_leaves_5 ?_
  refine fV_iconst (v := 1) hF dX4_leaves_6 (by decide) ?_
  refine fV_icmp_ne (tgt := 30) hF dX4_leaves_7 (by decide) (fun c6 => ?_) (fun c6 => ?_)
  · have h := h.1 c6
    refine fV_aload_n hF dX4_leaves_30 rfl rfl ?_
    refine fV_getR (k := 5) (i := 11) hF fK5 rfl hA1 (by decide) fw_1166 (Or.inl rfl) rfl dX4_leaves_31 ?_
    refine fV_aload_n hF dX4_leaves_34 rfl rfl ?_
    refine fV_getR (k := 5) (i := 13) hF fK5 rfl hA1 (by decide) fw_1168 (Or.inl rfl) rfl dX4_leaves_35 ?_
    refine fV_iload_n hF dX4_leaves_38 rfl rfl ?_
    obtain ⟨a7, e8, hA9, h⟩ := h
    obtain ⟨hix10, h⟩ := h
    refine fV_iald hF e8 hA9 hix10 dX4_leaves_39 ?_
    refine fV_dup2 hF dX4_leaves_40 rfl rfl ?_
    obtain ⟨a11, e12, hA13, h⟩ := h
    obtain ⟨hix14, h⟩ := h
    refine fV_iald hF e12 hA13 hix14 dX4_leaves_41 ?_
    refine fV_aload_n hF dX4_leaves_42 rfl rfl ?_
    refine fV_getR (k := 5) (i := 14) hF fK5 rfl hA1 (by decide) fw_1169 (Or.inl rfl) rfl dX4_leaves_43 ?_
    refine fV_iload_n hF dX4_leaves_46 rfl rfl ?_
    obtain ⟨a15, e16, hA17, h⟩ := h
    obtain ⟨hix18, h⟩ := h
    refine fV_iald hF e16 hA17 hix18 dX4_leaves_47 ?_
    refine fV_isub hF dX4_leaves_48 ?_
    obtain ⟨hix19, h⟩ := h
    refine fV_iast hF e12 hA13 hix19 dX4_leaves_49 ?_
    refine fV.sub (l' := [some (aR (some o)), some (aI p1), some (aI p2)]) ⟨rfl, ⟨rfl, ⟨rfl, trivial⟩⟩⟩ ?_
    exact mB_X4_leaves_50 hlv hF hxn hr hE  (wI S a11 (Int32.toNatClampNeg (sI S a7 (Int32.toNatClampNeg p1))) ((sI S a11 (Int32.toNatClampNeg (sI S a7 (Int32.toNatClampNeg p1)))) - (sI S a15 (Int32.toNatClampNeg p1)))) n h
  · have h := h.2 c6
    refine fV_aload_n hF dX4_leaves_10 rfl rfl ?_
    refine fV_aload_n hF dX4_leaves_11 rfl rfl ?_
    refine fV_getR (k := 5) (i := 13) hF fK5 rfl hA1 (by decide) fw_1168 (Or.inl rfl) rfl dX4_leaves_12 ?_
    refine fV_iload_n hF dX4_leaves_15 rfl rfl ?_
    obtain ⟨a20, e21, hA22, h⟩ := h
    obtain ⟨hix23, h⟩ := h
    refine fV_iald hF e21 hA22 hix23 dX4_leaves_16 ?_
    refine fV_aload_n hF dX4_leaves_17 rfl rfl ?_
    refine fV_getR (k := 5) (i := 14) hF fK5 rfl hA1 (by decide) fw_1169 (Or.inl rfl) rfl dX4_leaves_18 ?_
    refine fV_iload_n hF dX4_leaves_21 rfl rfl ?_
    obtain ⟨a24, e25, hA26, h⟩ := h
    obtain ⟨hix27, h⟩ := h
    refine fV_iald hF e25 hA26 hix27 dX4_leaves_22 ?_
    refine fV_ineg hF dX4_leaves_23 ?_
    refine fV_callV (k := 5) (As := [(aI (sI S a20 (Int32.toNatClampNeg p1))), (aI (-(sI S a24 (Int32.toNatClampNeg p1))))]) hF (mc_X4_runsMore hF.2.2.2.2.2.2.2.2.1 h) fK5 rfl hA1 (by omega) fw_1356 fw_1353 fw_1355 fwp_62 fw_10 ⟨rfl, by decide, by decide, by decide +kernel⟩ (na := 2) rfl (by decide) (Nat.le_of_ble_eq_true rfl) dX4_leaves_24 rfl (fun rv S28 n29 hp => ?_)
    obtain ⟨rfl, h⟩ := hp
    refine fV_goto (tgt := 50) hF dX4_leaves_27 (by decide) ?_
    refine fV.sub (l' := [some (aR (some o)), some (aI p1), some (aI p2)]) ⟨rfl, ⟨rfl, ⟨rfl, trivial⟩⟩⟩ ?_
    exact mB_X4_leaves_50 hlv hF hxn hr hE  S28 n29 h
set_option maxRecDepth 100000 in
set_option maxHeartbeats 4000000 in
theorem mB_X4_cancel_34 {F : fX} {lv : Nat} (hlv : 17 ≤ lv) (hF : fOk F cX4_cancel RX4 lv) (hxn : xn F = 3) (hr : (xM F).sig.returnType = (some .int)) {post : Int32 → fMS → Nat → Prop} {o : Nat} {p1 : Int32} (hE : fEnd F lv (fPI post)) (S : fMS) (n : Nat) (y0 : Int32) (h : wB_X4_cancel_34 post o p1 S n y0) : fV F S n 34 [some (aR (some o)), some (aI p1), none] [(aI y0)] := by
  unfold wB_X4_cancel_34 at h
  refine fV_istore_n0 hF [some (aR (some o)), some (aI p1), some (aI y0)] dX4_cancel_34 rfl (by rw [hxn]; decide) rfl rfl ?_
  refine fV_aload_n hF dX4_cancel_35 rfl rfl ?_
  refine fV_iload_n hF dX4_cancel_36 rfl rfl ?_
  refine fV_iconst (v := 3) hF dX4_cancel_37 (by decide) ?_
  obtain ⟨hA1, h⟩ := h
  refine fV_callV (k := 5) (As := [(aI p1), (aI (3 : Int32))]) hF (mc_X4_leaves hF.2.2.2.2.2.2.2.2.1 h) fK5 rfl hA1 (by omega) fw_1412 fw_1409 fw_1411 fwp_67 fw_10 ⟨rfl, by decide, by decide, by decide +kernel⟩ (na := 2) rfl (by decide) (Nat.le_of_ble_eq_true rfl) dX4_cancel_38 rfl (fun rv S2 n3 hp => ?_)
  obtain ⟨rfl, h⟩ := hp
  refine fV_aload_n hF dX4_cancel_41 rfl rfl ?_
  obtain ⟨hA4, h⟩ := h
  refine fV_callV (k := 5) (As := []) hF (mc_X4_serves hF.2.2.2.2.2.2.2.2.1 h) fK5 rfl hA4 (by omega) fw_1280 fw_1277 fw_1279 fwp_43 fw_10 ⟨rfl, by decide, by decide, by decide +kernel⟩ (na := 0) rfl (by decide) (Nat.le_of_ble_eq_true rfl) dX4_cancel_42 rfl (fun rv S5 n6 hp => ?_)
  obtain ⟨rfl, h⟩ := hp
  refine fV_iload_n hF dX4_cancel_45 rfl rfl ?_
  exact fV_iret hF hE.s (by omega) hr rfl dX4_cancel_46 ⟨_, rfl, h⟩
set_option maxRecDepth 100000 in
set_option maxHeartbeats 4000000 in
theorem mc_X4_cancel {l : Launch} (hfl : l.stackTraces = false) {G : fG} {S : fMS} {n : Nat} {o : Nat} {p1 : Int32} {post : Int32 → fMS → Nat → Prop} (h : wp_X4_cancel S n o p1 post) : fCM l yX4_cancel (.code yX4_cancel cX4_cancel 3 (some .int)) 17 G [(aR (some o)), (aI p1)] S n (fPI post) := by
  refine fCM_of hfl (by decide) (by intro v hv; simp only [List.mem_cons, List.not_mem_nil, or_false] at hv; rcases hv with rfl | rfl <;> rfl) (Nat.le_of_ble_eq_true rfl) (fun F hF hxn hl hG hr hin hE => ?_)
  subst hl hG
  have hlv : 17 ≤ 17 := Nat.le_refl _
  show fV F S n 0 [some (aR (some o)), some (aI p1), none] []
  unfold wp_X4_cancel at h
  refine fV_aload_n hF dX4_cancel_0 rfl rfl ?_
  refine fV_aload_n hF dX4_cancel_1 rfl rfl ?_
  refine fV_iload_n hF dX4_cancel_2 rfl rfl ?_
  obtain ⟨hA1, h⟩ := h
  refine fV_callV (k := 5) (As := [(aI p1)]) hF (mc_X4_liveFault hF.2.2.2.2.2.2.2.2.1 h) fK5 rfl hA1 (by omega) fw_1404 fw_1401 fw_1403 fwp_65 fw_10 ⟨rfl, by decide, by decide, by decide +kernel⟩ (na := 1) rfl (by decide) (Nat.le_of_ble_eq_true rfl) dX4_cancel_3 rfl (fun rv S9 n9 hp => ?_)
  obtain ⟨v2, rfl, rfl, rfl, h⟩ := hp
  refine fV_callV (k := 5) (As := [(aI v2)]) hF (mc_X4_goesOn hF.2.2.2.2.2.2.2.2.1 h) fK5 rfl hA1 (by omega) fw_1276 fw_1273 fw_1275 fwp_42 fw_10 ⟨rfl, by decide, by decide, by decide +kernel⟩ (na := 1) rfl (by decide) (Nat.le_of_ble_eq_true rfl) dX4_cancel_6 rfl (fun rv S4 n5 hp => ?_)
  obtain ⟨v3, rfl, h⟩ := hp
  refine fV_if_ne (tgt := 14) hF dX4_cancel_9 (by decide) (fun c6 => ?_) (fun c6 => ?_)
  · have h := h.1 c6
    refine fV_aload_n hF dX4_cancel_14 rfl rfl ?_
    obtain ⟨hA7, h⟩ := h
    refine fV_getR (k := 5) (i := 17) hF fK5 rfl hA7 (by decide) fw_1172 (Or.inl rfl) rfl dX4_cancel_15 ?_
    refine fV_iload_n hF dX4_cancel_18 rfl rfl ?_
    obtain ⟨a8, e9, hA10, h⟩ := h
    obtain ⟨hix11, h⟩ := h
    refine fV_iald hF e9 hA10 hix11 dX4_cancel_19 ?_
    refine fV_iconst (v := 1) hF dX4_cancel_20 (by decide) ?_
    refine fV_icmp_ne (tgt := 33) hF dX4_cancel_21 (by decide) (fun c12 => ?_) (fun c12 => ?_)
    · have h := h.1 c12
      refine fV_iconst (v := 0) hF dX4_cancel_33 (by decide) ?_
      refine fV.sub (l' := [some (aR (some o)), some (aI p1), none]) ⟨rfl, ⟨rfl, trivial⟩⟩ ?_
      exact mB_X4_cancel_34 hlv hF hxn hr hE  S4 n5 (0 : Int32) h
    · have h := h.2 c12
      refine fV_aload_n hF dX4_cancel_24 rfl rfl ?_
      refine fV_getR (k := 5) (i := 14) hF fK5 rfl hA7 (by decide) fw_1169 (Or.inl rfl) rfl dX4_cancel_25 ?_
      refine fV_iload_n hF dX4_cancel_28 rfl rfl ?_
      obtain ⟨a13, e14, hA15, h⟩ := h
      obtain ⟨hix16, h⟩ := h
      refine fV_iald hF e14 hA15 hix16 dX4_cancel_29 ?_
      refine fV_goto (tgt := 34) hF dX4_cancel_30 (by decide) ?_
      refine fV.sub (l' := [some (aR (some o)), some (aI p1), none]) ⟨rfl, ⟨rfl, trivial⟩⟩ ?_
      exact mB_X4_cancel_34 hlv hF hxn hr hE  S4 n5 (sI S4 a13 (Int32.toNatClampNeg p1)) h
  · have h := h.2 c6
    refine fV_iconst (v := 0) hF dX4_cancel_12 (by decide) ?_
    exact fV_iret hF hE.s (by omega) hr rfl dX4_cancel_13 ⟨_, rfl, h⟩
set_option maxRecDepth 100000 in
set_option maxHeartbeats 4000000 in
theorem mB_X4_passesOne_105 {F : fX} {lv : Nat} (hlv : 17 ≤ lv) (hF : fOk F cX4_passesOne RX4 lv) (hxn : xn F = 3) (hr : (xM F).sig.returnType = (some .int)) {post : Int32 → fMS → Nat → Prop} {K71 : fMS → Nat → Int32 → Int32 → Prop} {o : Nat} (hE : fEnd F lv (fPI post)) (hK71 : ∀ (S : fMS) (n : Nat) (x1 : Int32) (x2 : Int32), K71 S n x1 x2 → fV F S n 71 [some (aR (some o)), some (aI x1), some (aI x2)] []) (S : fMS) (n : Nat) (x1 : Int32) (x2 : Int32) (y0 : Option Nat) (y1 : Int32) (y2 : Int64) (y3 : Int64) (h : wB_X4_passesOne_105 post K71 o S n x1 x2 y0 y1 y2 y3) : fV F S n 105 [some (aR (some o)), some (aI x1), some (aI x2)] [(aJ y3), (aJ y2), (aI y1), (aR y0)] := by
  unfold wB_X4_passesOne_105 at h
  refine fV_ladd hF dX4_passesOne_105 ?_
  obtain ⟨a1, e2, hA3, h⟩ := h
  obtain ⟨hix4, h⟩ := h
  refine fV_last hF e2 hA3 hix4 dX4_passesOne_106 ?_
  refine fV_aload_n hF dX4_passesOne_107 rfl rfl ?_
  obtain ⟨hA5, h⟩ := h
  refine fV_getR (k := 5) (i := 8) hF fK5 rfl hA5 (by decide) fw_1163 (Or.inl rfl) rfl dX4_passesOne_108 ?_
  refine fV_iload_n hF dX4_passesOne_111 rfl rfl ?_
  refine fV_aload_n hF dX4_passesOne_112 rfl rfl ?_
  refine fV_getI (k := 5) (i := 1) hF fK5 rfl hA5 (by decide) fw_1156 (Or.inl rfl) rfl dX4_passesOne_113 ?_
  refine fV_aload_n hF dX4_passesOne_116 rfl rfl ?_
  refine fV_getI (k := 5) (i := 3) hF fK5 rfl hA5 (by decide) fw_1158 (Or.inl rfl) rfl dX4_passesOne_117 ?_
  obtain ⟨hne6, h⟩ := h
  refine fV_irem hF dX4_passesOne_120 hne6 ?_
  refine fV_if_ne (tgt := 137) hF dX4_passesOne_121 (by decide) (fun c7 => ?_) (fun c7 => ?_)
  · have h := h.1 c7
    refine fV_aload_n hF dX4_passesOne_137 rfl rfl ?_
    refine fV_getR (k := 5) (i := 8) hF fK5 rfl hA5 (by decide) fw_1163 (Or.inl rfl) rfl dX4_passesOne_138 ?_
    refine fV_iload_n hF dX4_passesOne_141 rfl rfl ?_
    obtain ⟨a8, e9, hA10, h⟩ := h
    obtain ⟨hix11, h⟩ := h
    refine fV_lald hF e9 hA10 hix11 dX4_passesOne_142 ?_
    obtain ⟨hix12, h⟩ := h
    refine fV_last hF e9 hA10 hix12 dX4_passesOne_143 ?_
    refine fV_iinc (v := 1) hF (fun y => [some (aR (some o)), some (aI x1), some (aI y)]) dX4_passesOne_144 rfl (by decide) (by rw [hxn]; decide) rfl (fun _ => rfl) (fun v13 ev13 => ?_)
    have h := h v13 ev13
    refine fV_goto (tgt := 71) hF dX4_passesOne_147 (by decide) ?_
    refine fV.sub (l' := [some (aR (some o)), some (aI x1), some (aI v13)]) ⟨rfl, ⟨rfl, ⟨rfl, trivial⟩⟩⟩ ?_
    exact hK71 (wJ (wJ S a1 (Int32.toNatClampNeg y1) (y2 + y3)) a8 (Int32.toNatClampNeg x2) (sJ (wJ S a1 (Int32.toNatClampNeg y1) (y2 + y3)) a8 (Int32.toNatClampNeg x2))) n x1 v13 h
  · have h := h.2 c7
    refine fV_aload_n hF dX4_passesOne_124 rfl rfl ?_
    refine fV_getR (k := 5) (i := 8) hF fK5 rfl hA5 (by decide) fw_1163 (Or.inl rfl) rfl dX4_passesOne_125 ?_
    refine fV_iload_n hF dX4_passesOne_128 rfl rfl ?_
    obtain ⟨a14, e15, hA16, h⟩ := h
    obtain ⟨hix17, h⟩ := h
    refine fV_lald hF e15 hA16 hix17 dX4_passesOne_129 ?_
    refine fV_ldc2 (v := 2) hF dX4_passesOne_130 fw_1421 ?_
    refine fV_ldiv hF dX4_passesOne_133 (by decide) ?_
    refine fV_goto (tgt := 143) hF dX4_passesOne_134 (by decide) ?_
    obtain ⟨hix18, h⟩ := h
    refine fV_last hF e15 hA16 hix18 dX4_passesOne_143 ?_
    refine fV_iinc (v := 1) hF (fun y => [some (aR (some o)), some (aI x1), some (aI y)]) dX4_passesOne_144 rfl (by decide) (by rw [hxn]; decide) rfl (fun _ => rfl) (fun v19 ev19 => ?_)
    have h := h v19 ev19
    refine fV_goto (tgt := 71) hF dX4_passesOne_147 (by decide) ?_
    refine fV.sub (l' := [some (aR (some o)), some (aI x1), some (aI v19)]) ⟨rfl, ⟨rfl, ⟨rfl, trivial⟩⟩⟩ ?_
    exact hK71 (wJ (wJ S a1 (Int32.toNatClampNeg y1) (y2 + y3)) a14 (Int32.toNatClampNeg x2) ((sJ (wJ S a1 (Int32.toNatClampNeg y1) (y2 + y3)) a14 (Int32.toNatClampNeg x2)) / (2 : Int64))) n x1 v19 h
set_option maxRecDepth 100000 in
set_option maxHeartbeats 4000000 in
theorem mB_X4_passesOne_71 {F : fX} {lv : Nat} (hlv : 17 ≤ lv) (hF : fOk F cX4_passesOne RX4 lv) (hxn : xn F = 3) (hr : (xM F).sig.returnType = (some .int)) {post : Int32 → fMS → Nat → Prop} {o : Nat} (hE : fEnd F lv (fPI post)) : ∀ (f : Nat) (S : fMS) (n : Nat) (x1 : Int32) (x2 : Int32) (h : wB_X4_passesOne_71 post o f S n x1 x2), fV F S n 71 [some (aR (some o)), some (aI x1), some (aI x2)] [] := by
  intro f
  induction f with
  | zero => intro _ _ _ _ h; exact h.elim
  | succ f ih =>
    intro S n x1 x2 h
    simp only [wB_X4_passesOne_71] at h
    refine fV_iload_n hF dX4_passesOne_71 rfl rfl ?_
    refine fV_aload_n hF dX4_passesOne_72 rfl rfl ?_
    obtain ⟨hA1, h⟩ := h
    refine fV_getI (k := 5) (i := 4) hF fK5 rfl hA1 (by decide) fw_1159 (Or.inl rfl) rfl dX4_passesOne_73 ?_
    refine fV_icmp_ge (tgt := 150) hF dX4_passesOne_76 (by decide) (fun c2 => ?_) (fun c2 => ?_)
    · have h := h.1 c2
      refine fV_aload_n hF dX4_passesOne_150 rfl rfl ?_
      refine fV_callV (k := 5) (As := []) hF (mc_X4_serves hF.2.2.2.2.2.2.2.2.1 h) fK5 rfl hA1 (by omega) fw_1280 fw_1277 fw_1279 fwp_43 fw_10 ⟨rfl, by decide, by decide, by decide +kernel⟩ (na := 0) rfl (by decide) (Nat.le_of_ble_eq_true rfl) dX4_passesOne_151 rfl (fun rv S3 n4 hp => ?_)
      obtain ⟨rfl, h⟩ := hp
      refine fV_iload_n hF dX4_passesOne_154 rfl rfl ?_
      exact fV_iret hF hE.s (by omega) hr rfl dX4_passesOne_155 ⟨_, rfl, h⟩
    · have h := h.2 c2
      refine fV_aload_n hF dX4_passesOne_79 rfl rfl ?_
      refine fV_getR (k := 5) (i := 8) hF fK5 rfl hA1 (by decide) fw_1163 (Or.inl rfl) rfl dX4_passesOne_80 ?_
      refine fV_iload_n hF dX4_passesOne_83 rfl rfl ?_
      refine fV_dup2 hF dX4_passesOne_84 rfl rfl ?_
      obtain ⟨a5, e6, hA7, h⟩ := h
      obtain ⟨hix8, h⟩ := h
      refine fV_lald hF e6 hA7 hix8 dX4_passesOne_85 ?_
      refine fV_aload_n hF dX4_passesOne_86 rfl rfl ?_
      refine fV_iload_n hF dX4_passesOne_87 rfl rfl ?_
      refine fV_callV (k := 5) (As := [(aI x2)]) hF (mc_X4_isLeaf hF.2.2.2.2.2.2.2.2.1 h) fK5 rfl hA1 (by omega) fw_1292 fw_1289 fw_1291 fwp_46 fw_10 ⟨rfl, by decide, by decide, by decide +kernel⟩ (na := 1) rfl (by decide) (Nat.le_of_ble_eq_true rfl) dX4_passesOne_88 rfl (fun rv S9 n9 hp => ?_)
      obtain ⟨v9, rfl, rfl, rfl, h⟩ := hp
      refine fV_if_eq (tgt := 104) hF dX4_passesOne_91 (by decide) (fun c10 => ?_) (fun c10 => ?_)
      · have h := h.1 c10
        refine fV_lconst (v := 0) hF dX4_passesOne_104 (by decide) ?_
        refine fV.sub (l' := [some (aR (some o)), some (aI x1), some (aI x2)]) ⟨rfl, ⟨rfl, ⟨rfl, trivial⟩⟩⟩ ?_
        exact mB_X4_passesOne_105 hlv hF hxn hr hE (fun S9 n9 z0 z1 h9 => ih S9 n9 z0 z1 h9) S n x1 x2 (sR S o 8) x2 (sJ S a5 (Int32.toNatClampNeg x2)) (0 : Int64) h
      · have h := h.2 c10
        refine fV_aload_n hF dX4_passesOne_94 rfl rfl ?_
        refine fV_getR (k := 5) (i := 10) hF fK5 rfl hA1 (by decide) fw_1165 (Or.inl rfl) rfl dX4_passesOne_95 ?_
        refine fV_iload_n hF dX4_passesOne_98 rfl rfl ?_
        obtain ⟨a11, e12, hA13, h⟩ := h
        obtain ⟨hix14, h⟩ := h
        refine fV_iald hF e12 hA13 hix14 dX4_passesOne_99 ?_
        refine fV_i2l hF dX4_passesOne_100 ?_
        refine fV_goto (tgt := 105) hF dX4_passesOne_101 (by decide) ?_
        refine fV.sub (l' := [some (aR (some o)), some (aI x1), some (aI x2)]) ⟨rfl, ⟨rfl, ⟨rfl, trivial⟩⟩⟩ ?_
        exact mB_X4_passesOne_105 hlv hF hxn hr hE (fun S9 n9 z0 z1 h9 => ih S9 n9 z0 z1 h9) S n x1 x2 (sR S o 8) x2 (sJ S a5 (Int32.toNatClampNeg x2)) (Int32.toInt64 (sI S a11 (Int32.toNatClampNeg x2))) h
set_option maxRecDepth 100000 in
set_option maxHeartbeats 4000000 in
theorem mB_X4_passesOne_14 {F : fX} {lv : Nat} (hlv : 17 ≤ lv) (hF : fOk F cX4_passesOne RX4 lv) (hxn : xn F = 3) (hr : (xM F).sig.returnType = (some .int)) {post : Int32 → fMS → Nat → Prop} {o : Nat} (hE : fEnd F lv (fPI post)) : ∀ (f : Nat) (S : fMS) (n : Nat) (x1 : Int32) (x2 : Int32) (h : wB_X4_passesOne_14 post o f S n x1 x2), fV F S n 14 [some (aR (some o)), some (aI x1), some (aI x2)] [] := by
  intro f
  induction f with
  | zero => intro _ _ _ _ h; exact h.elim
  | succ f ih =>
    intro S n x1 x2 h
    simp only [wB_X4_passesOne_14] at h
    refine fV_iload_n hF dX4_passesOne_14 rfl rfl ?_
    refine fV_aload_n hF dX4_passesOne_15 rfl rfl ?_
    obtain ⟨hA1, h⟩ := h
    refine fV_getI (k := 5) (i := 12) hF fK5 rfl hA1 (by decide) fw_1167 (Or.inl rfl) rfl dX4_passesOne_16 ?_
    refine fV_icmp_ge (tgt := 69) hF dX4_passesOne_19 (by decide) (fun c2 => ?_) (fun c2 => ?_)
    · have h := h.1 c2
      refine fV_iconst (v := 0) hF dX4_passesOne_69 (by decide) ?_
      refine fV_istore_n0 hF [some (aR (some o)), some (aI x1), some (aI (0 : Int32))] dX4_passesOne_70 rfl (by rw [hxn]; decide) rfl rfl ?_
      obtain ⟨f1, h⟩ := h
      refine fV.sub (l' := [some (aR (some o)), some (aI x1), some (aI (0 : Int32))]) ⟨rfl, ⟨rfl, ⟨rfl, trivial⟩⟩⟩ ?_
      exact mB_X4_passesOne_71 hlv hF hxn hr hE  f1 S n x1 (0 : Int32) h
    · have h := h.2 c2
      refine fV_aload_n hF dX4_passesOne_22 rfl rfl ?_
      refine fV_getR (k := 5) (i := 17) hF fK5 rfl hA1 (by decide) fw_1172 (Or.inl rfl) rfl dX4_passesOne_23 ?_
      refine fV_iload_n hF dX4_passesOne_26 rfl rfl ?_
      obtain ⟨a3, e4, hA5, h⟩ := h
      obtain ⟨hix6, h⟩ := h
      refine fV_iald hF e4 hA5 hix6 dX4_passesOne_27 ?_
      refine fV_iconst (v := 1) hF dX4_passesOne_28 (by decide) ?_
      refine fV_icmp_eq (tgt := 35) hF dX4_passesOne_29 (by decide) (fun c7 => ?_) (fun c7 => ?_)
      · have h := h.1 c7
        refine fV_aload_n hF dX4_passesOne_35 rfl rfl ?_
        refine fV_getR (k := 5) (i := 16) hF fK5 rfl hA1 (by decide) fw_1171 (Or.inl rfl) rfl dX4_passesOne_36 ?_
        refine fV_iload_n hF dX4_passesOne_39 rfl rfl ?_
        refine fV_dup2 hF dX4_passesOne_40 rfl rfl ?_
        obtain ⟨a8, e9, hA10, h⟩ := h
        obtain ⟨hix11, h⟩ := h
        refine fV_iald hF e9 hA10 hix11 dX4_passesOne_41 ?_
        refine fV_iconst (v := 1) hF dX4_passesOne_42 (by decide) ?_
        refine fV_isub hF dX4_passesOne_43 ?_
        obtain ⟨hix12, h⟩ := h
        refine fV_iast hF e9 hA10 hix12 dX4_passesOne_44 ?_
        refine fV_aload_n hF dX4_passesOne_45 rfl rfl ?_
        refine fV_getR (k := 5) (i := 16) hF fK5 rfl hA1 (by decide) fw_1171 (Or.inl rfl) rfl dX4_passesOne_46 ?_
        refine fV_iload_n hF dX4_passesOne_49 rfl rfl ?_
        obtain ⟨a13, e14, hA15, h⟩ := h
        obtain ⟨hix16, h⟩ := h
        refine fV_iald hF e14 hA15 hix16 dX4_passesOne_50 ?_
        refine fV_if_ne (tgt := 63) hF dX4_passesOne_51 (by decide) (fun c17 => ?_) (fun c17 => ?_)
        · have h := h.1 c17
          refine fV_iinc (v := 1) hF (fun y => [some (aR (some o)), some (aI x1), some (aI y)]) dX4_passesOne_63 rfl (by decide) (by rw [hxn]; decide) rfl (fun _ => rfl) (fun v18 ev18 => ?_)
          have h := h v18 ev18
          refine fV_goto (tgt := 14) hF dX4_passesOne_66 (by decide) ?_
          refine fV.sub (l' := [some (aR (some o)), some (aI x1), some (aI v18)]) ⟨rfl, ⟨rfl, ⟨rfl, trivial⟩⟩⟩ ?_
          exact ih (wI S a8 (Int32.toNatClampNeg x2) ((sI S a8 (Int32.toNatClampNeg x2)) - (1 : Int32))) n x1 v18 h
        · have h := h.2 c17
          refine fV_aload_n hF dX4_passesOne_54 rfl rfl ?_
          refine fV_iload_n hF dX4_passesOne_55 rfl rfl ?_
          refine fV_iconst (v := 2) hF dX4_passesOne_56 (by decide) ?_
          refine fV_callV (k := 5) (As := [(aI x2), (aI (2 : Int32))]) hF (mc_X4_leaves hF.2.2.2.2.2.2.2.2.1 h) fK5 rfl hA1 (by omega) fw_1412 fw_1409 fw_1411 fwp_67 fw_10 ⟨rfl, by decide, by decide, by decide +kernel⟩ (na := 2) rfl (by decide) (Nat.le_of_ble_eq_true rfl) dX4_passesOne_57 rfl (fun rv S19 n20 hp => ?_)
          obtain ⟨rfl, h⟩ := hp
          refine fV_iinc (v := 1) hF (fun y => [some (aR (some o)), some (aI y), some (aI x2)]) dX4_passesOne_60 rfl (by decide) (by rw [hxn]; decide) rfl (fun _ => rfl) (fun v21 ev21 => ?_)
          have h := h v21 ev21
          refine fV_iinc (v := 1) hF (fun y => [some (aR (some o)), some (aI v21), some (aI y)]) dX4_passesOne_63 rfl (by decide) (by rw [hxn]; decide) rfl (fun _ => rfl) (fun v22 ev22 => ?_)
          have h := h v22 ev22
          refine fV_goto (tgt := 14) hF dX4_passesOne_66 (by decide) ?_
          refine fV.sub (l' := [some (aR (some o)), some (aI v21), some (aI v22)]) ⟨rfl, ⟨rfl, ⟨rfl, trivial⟩⟩⟩ ?_
          exact ih S19 n20 v21 v22 h
      · have h := h.2 c7
        refine fV_goto (tgt := 63) hF dX4_passesOne_32 (by decide) ?_
        refine fV_iinc (v := 1) hF (fun y => [some (aR (some o)), some (aI x1), some (aI y)]) dX4_passesOne_63 rfl (by decide) (by rw [hxn]; decide) rfl (fun _ => rfl) (fun v23 ev23 => ?_)
        have h := h v23 ev23
        refine fV_goto (tgt := 14) hF dX4_passesOne_66 (by decide) ?_
        refine fV.sub (l' := [some (aR (some o)), some (aI x1), some (aI v23)]) ⟨rfl, ⟨rfl, ⟨rfl, trivial⟩⟩⟩ ?_
        exact ih S n x1 v23 h
set_option maxRecDepth 100000 in
set_option maxHeartbeats 4000000 in
theorem mc_X4_passesOne {l : Launch} (hfl : l.stackTraces = false) {G : fG} {S : fMS} {n : Nat} {o : Nat} {post : Int32 → fMS → Nat → Prop} (h : wp_X4_passesOne S n o post) : fCM l yX4_passesOne (.code yX4_passesOne cX4_passesOne 3 (some .int)) 17 G [(aR (some o))] S n (fPI post) := by
  refine fCM_of hfl (by decide) (by intro v hv; simp only [List.mem_cons, List.not_mem_nil, or_false] at hv; rcases hv with rfl <;> rfl) (Nat.le_of_ble_eq_true rfl) (fun F hF hxn hl hG hr hin hE => ?_)
  subst hl hG
  have hlv : 17 ≤ 17 := Nat.le_refl _
  show fV F S n 0 [some (aR (some o)), none, none] []
  unfold wp_X4_passesOne at h
  refine fV_aload_n hF dX4_passesOne_0 rfl rfl ?_
  refine fV_dup hF dX4_passesOne_1 rfl ?_
  obtain ⟨hA1, h⟩ := h
  refine fV_getI (k := 5) (i := 1) hF fK5 rfl hA1 (by decide) fw_1156 (Or.inl rfl) rfl dX4_passesOne_2 ?_
  refine fV_iconst (v := 1) hF dX4_passesOne_5 (by decide) ?_
  refine fV_iadd hF dX4_passesOne_6 ?_
  refine fV_putI (k := 5) (i := 1) hF fK5 tyX4_ok nmX4 rfl hA1 (by decide) rfl fw_1156 (Or.inl rfl) (Or.inl rfl) rfl rfl dX4_passesOne_7 ?_
  refine fV_iconst (v := 0) hF dX4_passesOne_10 (by decide) ?_
  refine fV_istore_n0 hF [some (aR (some o)), some (aI (0 : Int32)), none] dX4_passesOne_11 rfl (by rw [hxn]; decide) rfl rfl ?_
  refine fV_iconst (v := 0) hF dX4_passesOne_12 (by decide) ?_
  refine fV_istore_n0 hF [some (aR (some o)), some (aI (0 : Int32)), some (aI (0 : Int32))] dX4_passesOne_13 rfl (by rw [hxn]; decide) rfl rfl ?_
  obtain ⟨f1, h⟩ := h
  refine fV.sub (l' := [some (aR (some o)), some (aI (0 : Int32)), some (aI (0 : Int32))]) ⟨rfl, ⟨rfl, ⟨rfl, trivial⟩⟩⟩ ?_
  exact mB_X4_passesOne_14 hlv hF hxn hr hE  f1 (wI S o 1 ((sI S o 1) + (1 : Int32))) n (0 : Int32) (0 : Int32) h
set_option maxRecDepth 100000 in
set_option maxHeartbeats 4000000 in
theorem mB_X4_pass_28 {F : fX} {lv : Nat} (hlv : 18 ≤ lv) (hF : fOk F cX4_pass RX4 lv) (hxn : xn F = 4) (hr : (xM F).sig.returnType = (some .int)) {post : Int32 → fMS → Nat → Prop} {o : Nat} {p1 : Int32} (hE : fEnd F lv (fPI post)) : ∀ (f : Nat) (S : fMS) (n : Nat) (x2 : Int32) (x3 : Int32) (h : wB_X4_pass_28 post o p1 f S n x2 x3), fV F S n 28 [some (aR (some o)), some (aI p1), some (aI x2), some (aI x3)] [] := by
  intro f
  induction f with
  | zero => intro _ _ _ _ h; exact h.elim
  | succ f ih =>
    intro S n x2 x3 h
    simp only [wB_X4_pass_28] at h
    refine fV_iload_n hF dX4_pass_28 rfl rfl ?_
    refine fV_iload_n hF dX4_pass_29 rfl rfl ?_
    refine fV_icmp_ge (tgt := 46) hF dX4_pass_30 (by decide) (fun c1 => ?_) (fun c1 => ?_)
    · have h := h.1 c1
      refine fV_iload_n hF dX4_pass_46 rfl rfl ?_
      exact fV_iret hF hE.s (by omega) hr rfl dX4_pass_47 ⟨_, rfl, h⟩
    · have h := h.2 c1
      refine fV_iload_n hF dX4_pass_33 rfl rfl ?_
      refine fV_aload_n hF dX4_pass_34 rfl rfl ?_
      obtain ⟨hA2, h⟩ := h
      refine fV_callV (k := 5) (As := []) hF (mc_X4_passesOne hF.2.2.2.2.2.2.2.2.1 h) fK5 rfl hA2 (by omega) fw_1420 fw_1417 fw_1419 fwp_68 fw_10 ⟨rfl, by decide, by decide, by decide +kernel⟩ (na := 0) rfl (by decide) (Nat.le_of_ble_eq_true rfl) dX4_pass_35 rfl (fun rv S4 n5 hp => ?_)
      obtain ⟨v3, rfl, h⟩ := hp
      refine fV_iadd hF dX4_pass_38 ?_
      refine fV_istore_n hF (fun y => [some (aR (some o)), some (aI p1), some (aI y), some (aI x3)]) dX4_pass_39 rfl (by rw [hxn]; decide) rfl (fun _ => rfl) (fun v6 ev6 => ?_)
      have h := h v6 ev6
      refine fV_iinc (v := 1) hF (fun y => [some (aR (some o)), some (aI p1), some (aI v6), some (aI y)]) dX4_pass_40 rfl (by decide) (by rw [hxn]; decide) rfl (fun _ => rfl) (fun v7 ev7 => ?_)
      have h := h v7 ev7
      refine fV_goto (tgt := 28) hF dX4_pass_43 (by decide) ?_
      refine fV.sub (l' := [some (aR (some o)), some (aI p1), some (aI v6), some (aI v7)]) ⟨rfl, ⟨rfl, ⟨rfl, ⟨rfl, trivial⟩⟩⟩⟩ ?_
      exact ih S4 n5 v6 v7 h
set_option maxRecDepth 100000 in
set_option maxHeartbeats 4000000 in
theorem mB_X4_pass_16 {F : fX} {lv : Nat} (hlv : 18 ≤ lv) (hF : fOk F cX4_pass RX4 lv) (hxn : xn F = 4) (hr : (xM F).sig.returnType = (some .int)) {post : Int32 → fMS → Nat → Prop} {o : Nat} {p1 : Int32} (hE : fEnd F lv (fPI post)) (S : fMS) (n : Nat) (y0 : Option Nat) (y1 : Int32) (h : wB_X4_pass_16 post o p1 S n y0 y1) : fV F S n 16 [some (aR (some o)), some (aI p1), none, none] [(aI y1), (aR y0)] := by
  unfold wB_X4_pass_16 at h
  obtain ⟨a1, e2, hA3, h⟩ := h
  refine fV_callV (k := 5) (As := [(aI y1)]) hF (mc_X4_goesOn hF.2.2.2.2.2.2.2.2.1 h) fK5 e2 hA3 (by omega) fw_1276 fw_1273 fw_1275 fwp_42 fw_10 ⟨rfl, by decide, by decide, by decide +kernel⟩ (na := 1) rfl (by decide) (Nat.le_of_ble_eq_true rfl) dX4_pass_16 rfl (fun rv S5 n6 hp => ?_)
  obtain ⟨v4, rfl, h⟩ := hp
  refine fV_if_ne (tgt := 24) hF dX4_pass_19 (by decide) (fun c7 => ?_) (fun c7 => ?_)
  · have h := h.1 c7
    refine fV_iconst (v := 0) hF dX4_pass_24 (by decide) ?_
    refine fV_istore_n0 hF [some (aR (some o)), some (aI p1), some (aI (0 : Int32)), none] dX4_pass_25 rfl (by rw [hxn]; decide) rfl rfl ?_
    refine fV_iconst (v := 0) hF dX4_pass_26 (by decide) ?_
    refine fV_istore_n0 hF [some (aR (some o)), some (aI p1), some (aI (0 : Int32)), some (aI (0 : Int32))] dX4_pass_27 rfl (by rw [hxn]; decide) rfl rfl ?_
    obtain ⟨f1, h⟩ := h
    refine fV.sub (l' := [some (aR (some o)), some (aI p1), some (aI (0 : Int32)), some (aI (0 : Int32))]) ⟨rfl, ⟨rfl, ⟨rfl, ⟨rfl, trivial⟩⟩⟩⟩ ?_
    exact mB_X4_pass_28 hlv hF hxn hr hE  f1 S5 n6 (0 : Int32) (0 : Int32) h
  · have h := h.2 c7
    refine fV_iconst (v := 0) hF dX4_pass_22 (by decide) ?_
    exact fV_iret hF hE.s (by omega) hr rfl dX4_pass_23 ⟨_, rfl, h⟩
set_option maxRecDepth 100000 in
set_option maxHeartbeats 4000000 in
theorem mc_X4_pass {l : Launch} (hfl : l.stackTraces = false) {G : fG} {S : fMS} {n : Nat} {o : Nat} {p1 : Int32} {post : Int32 → fMS → Nat → Prop} (h : wp_X4_pass S n o p1 post) : fCM l yX4_pass (.code yX4_pass cX4_pass 4 (some .int)) 18 G [(aR (some o)), (aI p1)] S n (fPI post) := by
  refine fCM_of hfl (by decide) (by intro v hv; simp only [List.mem_cons, List.not_mem_nil, or_false] at hv; rcases hv with rfl | rfl <;> rfl) (Nat.le_of_ble_eq_true rfl) (fun F hF hxn hl hG hr hin hE => ?_)
  subst hl hG
  have hlv : 18 ≤ 18 := Nat.le_refl _
  show fV F S n 0 [some (aR (some o)), some (aI p1), none, none] []
  unfold wp_X4_pass at h
  refine fV_aload_n hF dX4_pass_0 rfl rfl ?_
  refine fV_iload_n hF dX4_pass_1 rfl rfl ?_
  refine fV_iconst (v := 1) hF dX4_pass_2 (by decide) ?_
  refine fV_bipush (v := 20) hF dX4_pass_3 (by decide) ?_
  refine fV_callS (As := [(aI p1), (aI (1 : Int32)), (aI (20 : Int32))]) hF (mc_X4_in hF.2.2.2.2.2.2.2.2.1 h) (by omega) fw_1272 fw_1270 fw_1271 fw_10 ⟨by decide, by decide, by decide +kernel⟩ (na := 3) rfl (by decide) (Nat.le_of_ble_eq_true rfl) dX4_pass_5 rfl (fun rv S9 n9 hp => ?_)
  obtain ⟨v1, rfl, rfl, rfl, h⟩ := hp
  refine fV_if_eq (tgt := 15) hF dX4_pass_8 (by decide) (fun c2 => ?_) (fun c2 => ?_)
  · have h := h.1 c2
    refine fV_iconst (v := 1) hF dX4_pass_15 (by decide) ?_
    refine fV.sub (l' := [some (aR (some o)), some (aI p1), none, none]) ⟨rfl, ⟨rfl, trivial⟩⟩ ?_
    exact mB_X4_pass_16 hlv hF hxn hr hE  S n (some o) (1 : Int32) h
  · have h := h.2 c2
    refine fV_iconst (v := 0) hF dX4_pass_11 (by decide) ?_
    refine fV_goto (tgt := 16) hF dX4_pass_12 (by decide) ?_
    refine fV.sub (l' := [some (aR (some o)), some (aI p1), none, none]) ⟨rfl, ⟨rfl, trivial⟩⟩ ?_
    exact mB_X4_pass_16 hlv hF hxn hr hE  S n (some o) (0 : Int32) h
set_option maxRecDepth 100000 in
set_option maxHeartbeats 4000000 in
theorem mc_X4_tick {l : Launch} (hfl : l.stackTraces = false) {G : fG} {S : fMS} {n : Nat} {o : Nat} {post : Int32 → fMS → Nat → Prop} (h : wp_X4_tick S n o post) : fCM l yX4_tick (.code yX4_tick cX4_tick 1 (some .int)) 1 G [(aR (some o))] S n (fPI post) := by
  refine fCM_of hfl (by decide) (by intro v hv; simp only [List.mem_cons, List.not_mem_nil, or_false] at hv; rcases hv with rfl <;> rfl) (Nat.le_of_ble_eq_true rfl) (fun F hF hxn hl hG hr hin hE => ?_)
  subst hl hG
  have hlv : 1 ≤ 1 := Nat.le_refl _
  show fV F S n 0 [some (aR (some o))] []
  unfold wp_X4_tick at h
  refine fV_aload_n hF dX4_tick_0 rfl rfl ?_
  refine fV_iconst (v := 0) hF dX4_tick_1 (by decide) ?_
  obtain ⟨hA1, h⟩ := h
  refine fV_putI (k := 5) (i := 0) hF fK5 tyX4_ok nmX4 rfl hA1 (by decide) rfl fw_1155 (Or.inl rfl) (Or.inl rfl) rfl rfl dX4_tick_2 ?_
  refine fV_aload_n hF dX4_tick_5 rfl rfl ?_
  refine fV_getI (k := 5) (i := 1) hF fK5 rfl hA1 (by decide) fw_1156 (Or.inl rfl) rfl dX4_tick_6 ?_
  exact fV_iret hF hE.s (by omega) hr rfl dX4_tick_9 ⟨_, rfl, h⟩
set_option maxRecDepth 100000 in
set_option maxHeartbeats 4000000 in
theorem mc_X4_jobs {l : Launch} (hfl : l.stackTraces = false) {G : fG} {S : fMS} {n : Nat} {o : Nat} {post : Int32 → fMS → Nat → Prop} (h : wp_X4_jobs S n o post) : fCM l yX4_jobs (.code yX4_jobs cX4_jobs 1 (some .int)) 1 G [(aR (some o))] S n (fPI post) := by
  refine fCM_of hfl (by decide) (by intro v hv; simp only [List.mem_cons, List.not_mem_nil, or_false] at hv; rcases hv with rfl <;> rfl) (Nat.le_of_ble_eq_true rfl) (fun F hF hxn hl hG hr hin hE => ?_)
  subst hl hG
  have hlv : 1 ≤ 1 := Nat.le_refl _
  show fV F S n 0 [some (aR (some o))] []
  unfold wp_X4_jobs at h
  refine fV_aload_n hF dX4_jobs_0 rfl rfl ?_
  refine fV_iconst (v := 0) hF dX4_jobs_1 (by decide) ?_
  obtain ⟨hA1, h⟩ := h
  refine fV_putI (k := 5) (i := 0) hF fK5 tyX4_ok nmX4 rfl hA1 (by decide) rfl fw_1155 (Or.inl rfl) (Or.inl rfl) rfl rfl dX4_jobs_2 ?_
  refine fV_aload_n hF dX4_jobs_5 rfl rfl ?_
  refine fV_getI (k := 5) (i := 12) hF fK5 rfl hA1 (by decide) fw_1167 (Or.inl rfl) rfl dX4_jobs_6 ?_
  exact fV_iret hF hE.s (by omega) hr rfl dX4_jobs_9 ⟨_, rfl, h⟩
set_option maxRecDepth 100000 in
set_option maxHeartbeats 4000000 in
theorem mB_X4_stateOf_14 {F : fX} {lv : Nat} (hlv : 3 ≤ lv) (hF : fOk F cX4_stateOf RX4 lv) (hxn : xn F = 2) (hr : (xM F).sig.returnType = (some .char)) {post : Int32 → fMS → Nat → Prop} {o : Nat} {p1 : Int32} (hE : fEnd F lv (fPI post)) (S : fMS) (n : Nat) (y0 : Option Nat) (y1 : Int32) (h : wB_X4_stateOf_14 post o p1 S n y0 y1) : fV F S n 14 [some (aR (some o)), some (aI p1)] [(aI y1), (aR y0)] := by
  unfold wB_X4_stateOf_14 at h
  obtain ⟨a1, e2, hA3, h⟩ := h
  refine fV_callV (k := 5) (As := [(aI y1)]) hF (mc_X4_goesOn hF.2.2.2.2.2.2.2.2.1 h) fK5 e2 hA3 (by omega) fw_1276 fw_1273 fw_1275 fwp_42 fw_10 ⟨rfl, by decide, by decide, by decide +kernel⟩ (na := 1) rfl (by decide) (Nat.le_of_ble_eq_true rfl) dX4_stateOf_14 rfl (fun rv S5 n6 hp => ?_)
  obtain ⟨v4, rfl, h⟩ := hp
  refine fV_if_ne (tgt := 22) hF dX4_stateOf_17 (by decide) (fun c7 => ?_) (fun c7 => ?_)
  · have h := h.1 c7
    refine fV_aload_n hF dX4_stateOf_22 rfl rfl ?_
    obtain ⟨hA8, h⟩ := h
    refine fV_getR (k := 5) (i := 17) hF fK5 rfl hA8 (by decide) fw_1172 (Or.inl rfl) rfl dX4_stateOf_23 ?_
    refine fV_iload_n hF dX4_stateOf_26 rfl rfl ?_
    obtain ⟨a9, e10, hA11, h⟩ := h
    obtain ⟨hix12, h⟩ := h
    refine fV_iald hF e10 hA11 hix12 dX4_stateOf_27 ?_
    refine fV_if_ne (tgt := 36) hF dX4_stateOf_28 (by decide) (fun c13 => ?_) (fun c13 => ?_)
    · have h := h.1 c13
      refine fV_aload_n hF dX4_stateOf_36 rfl rfl ?_
      refine fV_getR (k := 5) (i := 17) hF fK5 rfl hA8 (by decide) fw_1172 (Or.inl rfl) rfl dX4_stateOf_37 ?_
      refine fV_iload_n hF dX4_stateOf_40 rfl rfl ?_
      obtain ⟨hix14, h⟩ := h
      refine fV_iald hF e10 hA11 hix14 dX4_stateOf_41 ?_
      refine fV_iconst (v := 1) hF dX4_stateOf_42 (by decide) ?_
      refine fV_icmp_ne (tgt := 51) hF dX4_stateOf_43 (by decide) (fun c15 => ?_) (fun c15 => ?_)
      · have h := h.1 c15
        refine fV_aload_n hF dX4_stateOf_51 rfl rfl ?_
        refine fV_getR (k := 5) (i := 17) hF fK5 rfl hA8 (by decide) fw_1172 (Or.inl rfl) rfl dX4_stateOf_52 ?_
        refine fV_iload_n hF dX4_stateOf_55 rfl rfl ?_
        obtain ⟨hix16, h⟩ := h
        refine fV_iald hF e10 hA11 hix16 dX4_stateOf_56 ?_
        refine fV_iconst (v := 2) hF dX4_stateOf_57 (by decide) ?_
        refine fV_icmp_ne (tgt := 66) hF dX4_stateOf_58 (by decide) (fun c17 => ?_) (fun c17 => ?_)
        · have h := h.1 c17
          refine fV_bipush (v := 99) hF dX4_stateOf_66 (by decide) ?_
          exact fV_iret hF hE.s (by omega) hr (by decide) dX4_stateOf_68 ⟨_, rfl, h⟩
        · have h := h.2 c17
          refine fV_bipush (v := 101) hF dX4_stateOf_61 (by decide) ?_
          refine fV_goto (tgt := 68) hF dX4_stateOf_63 (by decide) ?_
          exact fV_iret hF hE.s (by omega) hr (by decide) dX4_stateOf_68 ⟨_, rfl, h⟩
      · have h := h.2 c15
        refine fV_bipush (v := 114) hF dX4_stateOf_46 (by decide) ?_
        refine fV_goto (tgt := 68) hF dX4_stateOf_48 (by decide) ?_
        exact fV_iret hF hE.s (by omega) hr (by decide) dX4_stateOf_68 ⟨_, rfl, h⟩
    · have h := h.2 c13
      refine fV_bipush (v := 119) hF dX4_stateOf_31 (by decide) ?_
      refine fV_goto (tgt := 68) hF dX4_stateOf_33 (by decide) ?_
      exact fV_iret hF hE.s (by omega) hr (by decide) dX4_stateOf_68 ⟨_, rfl, h⟩
  · have h := h.2 c7
    refine fV_iconst (v := 0) hF dX4_stateOf_20 (by decide) ?_
    exact fV_iret hF hE.s (by omega) hr (by decide) dX4_stateOf_21 ⟨_, rfl, h⟩
set_option maxRecDepth 100000 in
set_option maxHeartbeats 4000000 in
theorem mc_X4_stateOf {l : Launch} (hfl : l.stackTraces = false) {G : fG} {S : fMS} {n : Nat} {o : Nat} {p1 : Int32} {post : Int32 → fMS → Nat → Prop} (h : wp_X4_stateOf S n o p1 post) : fCM l yX4_stateOf (.code yX4_stateOf cX4_stateOf 2 (some .char)) 3 G [(aR (some o)), (aI p1)] S n (fPI post) := by
  refine fCM_of hfl (by decide) (by intro v hv; simp only [List.mem_cons, List.not_mem_nil, or_false] at hv; rcases hv with rfl | rfl <;> rfl) (Nat.le_of_ble_eq_true rfl) (fun F hF hxn hl hG hr hin hE => ?_)
  subst hl hG
  have hlv : 3 ≤ 3 := Nat.le_refl _
  show fV F S n 0 [some (aR (some o)), some (aI p1)] []
  unfold wp_X4_stateOf at h
  refine fV_aload_n hF dX4_stateOf_0 rfl rfl ?_
  refine fV_aload_n hF dX4_stateOf_1 rfl rfl ?_
  refine fV_iload_n hF dX4_stateOf_2 rfl rfl ?_
  obtain ⟨hA1, h⟩ := h
  refine fV_callV (k := 5) (As := [(aI p1)]) hF (mc_X4_isJob hF.2.2.2.2.2.2.2.2.1 h) fK5 rfl hA1 (by omega) fw_1408 fw_1405 fw_1407 fwp_66 fw_10 ⟨rfl, by decide, by decide, by decide +kernel⟩ (na := 1) rfl (by decide) (Nat.le_of_ble_eq_true rfl) dX4_stateOf_3 rfl (fun rv S9 n9 hp => ?_)
  obtain ⟨v2, rfl, rfl, rfl, h⟩ := hp
  refine fV_if_eq (tgt := 13) hF dX4_stateOf_6 (by decide) (fun c3 => ?_) (fun c3 => ?_)
  · have h := h.1 c3
    refine fV_iconst (v := 1) hF dX4_stateOf_13 (by decide) ?_
    refine fV.sub (l' := [some (aR (some o)), some (aI p1)]) ⟨rfl, ⟨rfl, trivial⟩⟩ ?_
    exact mB_X4_stateOf_14 hlv hF hxn hr hE  S n (some o) (1 : Int32) h
  · have h := h.2 c3
    refine fV_iconst (v := 0) hF dX4_stateOf_9 (by decide) ?_
    refine fV_goto (tgt := 14) hF dX4_stateOf_10 (by decide) ?_
    refine fV.sub (l' := [some (aR (some o)), some (aI p1)]) ⟨rfl, ⟨rfl, trivial⟩⟩ ?_
    exact mB_X4_stateOf_14 hlv hF hxn hr hE  S n (some o) (0 : Int32) h
set_option maxRecDepth 100000 in
set_option maxHeartbeats 4000000 in
theorem mc_X4_toGo {l : Launch} (hfl : l.stackTraces = false) {G : fG} {S : fMS} {n : Nat} {o : Nat} {p1 : Int32} {post : Int32 → fMS → Nat → Prop} (h : wp_X4_toGo S n o p1 post) : fCM l yX4_toGo (.code yX4_toGo cX4_toGo 2 (some .int)) 4 G [(aR (some o)), (aI p1)] S n (fPI post) := by
  refine fCM_of hfl (by decide) (by intro v hv; simp only [List.mem_cons, List.not_mem_nil, or_false] at hv; rcases hv with rfl | rfl <;> rfl) (Nat.le_of_ble_eq_true rfl) (fun F hF hxn hl hG hr hin hE => ?_)
  subst hl hG
  have hlv : 4 ≤ 4 := Nat.le_refl _
  show fV F S n 0 [some (aR (some o)), some (aI p1)] []
  unfold wp_X4_toGo at h
  refine fV_aload_n hF dX4_toGo_0 rfl rfl ?_
  refine fV_aload_n hF dX4_toGo_1 rfl rfl ?_
  refine fV_iload_n hF dX4_toGo_2 rfl rfl ?_
  obtain ⟨hA1, h⟩ := h
  refine fV_callV (k := 5) (As := [(aI p1)]) hF (mc_X4_liveFault hF.2.2.2.2.2.2.2.2.1 h) fK5 rfl hA1 (by omega) fw_1404 fw_1401 fw_1403 fwp_65 fw_10 ⟨rfl, by decide, by decide, by decide +kernel⟩ (na := 1) rfl (by decide) (Nat.le_of_ble_eq_true rfl) dX4_toGo_3 rfl (fun rv S9 n9 hp => ?_)
  obtain ⟨v2, rfl, rfl, rfl, h⟩ := hp
  refine fV_callV (k := 5) (As := [(aI v2)]) hF (mc_X4_goesOn hF.2.2.2.2.2.2.2.2.1 h) fK5 rfl hA1 (by omega) fw_1276 fw_1273 fw_1275 fwp_42 fw_10 ⟨rfl, by decide, by decide, by decide +kernel⟩ (na := 1) rfl (by decide) (Nat.le_of_ble_eq_true rfl) dX4_toGo_6 rfl (fun rv S4 n5 hp => ?_)
  obtain ⟨v3, rfl, h⟩ := hp
  refine fV_if_eq (tgt := 39) hF dX4_toGo_9 (by decide) (fun c6 => ?_) (fun c6 => ?_)
  · have h := h.1 c6
    refine fV_iconst (v := 0) hF dX4_toGo_39 (by decide) ?_
    exact fV_iret hF hE.s (by omega) hr rfl dX4_toGo_40 ⟨_, rfl, h⟩
  · have h := h.2 c6
    refine fV_aload_n hF dX4_toGo_12 rfl rfl ?_
    obtain ⟨hA7, h⟩ := h
    refine fV_getR (k := 5) (i := 17) hF fK5 rfl hA7 (by decide) fw_1172 (Or.inl rfl) rfl dX4_toGo_13 ?_
    refine fV_iload_n hF dX4_toGo_16 rfl rfl ?_
    obtain ⟨a8, e9, hA10, h⟩ := h
    obtain ⟨hix11, h⟩ := h
    refine fV_iald hF e9 hA10 hix11 dX4_toGo_17 ?_
    refine fV_if_ne (tgt := 30) hF dX4_toGo_18 (by decide) (fun c12 => ?_) (fun c12 => ?_)
    · have h := h.1 c12
      refine fV_aload_n hF dX4_toGo_30 rfl rfl ?_
      refine fV_getR (k := 5) (i := 16) hF fK5 rfl hA7 (by decide) fw_1171 (Or.inl rfl) rfl dX4_toGo_31 ?_
      refine fV_iload_n hF dX4_toGo_34 rfl rfl ?_
      obtain ⟨a13, e14, hA15, h⟩ := h
      obtain ⟨hix16, h⟩ := h
      refine fV_iald hF e14 hA15 hix16 dX4_toGo_35 ?_
      refine fV_goto (tgt := 40) hF dX4_toGo_36 (by decide) ?_
      exact fV_iret hF hE.s (by omega) hr rfl dX4_toGo_40 ⟨_, rfl, h⟩
    · have h := h.2 c12
      refine fV_aload_n hF dX4_toGo_21 rfl rfl ?_
      refine fV_getR (k := 5) (i := 15) hF fK5 rfl hA7 (by decide) fw_1170 (Or.inl rfl) rfl dX4_toGo_22 ?_
      refine fV_iload_n hF dX4_toGo_25 rfl rfl ?_
      obtain ⟨a17, e18, hA19, h⟩ := h
      obtain ⟨hix20, h⟩ := h
      refine fV_iald hF e18 hA19 hix20 dX4_toGo_26 ?_
      refine fV_goto (tgt := 40) hF dX4_toGo_27 (by decide) ?_
      exact fV_iret hF hE.s (by omega) hr rfl dX4_toGo_40 ⟨_, rfl, h⟩
set_option maxRecDepth 100000 in
set_option maxHeartbeats 4000000 in
theorem mB_X4_stops_14 {F : fX} {lv : Nat} (hlv : 3 ≤ lv) (hF : fOk F cX4_stops RX4 lv) (hxn : xn F = 2) (hr : (xM F).sig.returnType = (some .int)) {post : Int32 → fMS → Nat → Prop} {o : Nat} {p1 : Int32} (hE : fEnd F lv (fPI post)) (S : fMS) (n : Nat) (y0 : Option Nat) (y1 : Int32) (h : wB_X4_stops_14 post o p1 S n y0 y1) : fV F S n 14 [some (aR (some o)), some (aI p1)] [(aI y1), (aR y0)] := by
  unfold wB_X4_stops_14 at h
  obtain ⟨a1, e2, hA3, h⟩ := h
  refine fV_callV (k := 5) (As := [(aI y1)]) hF (mc_X4_goesOn hF.2.2.2.2.2.2.2.2.1 h) fK5 e2 hA3 (by omega) fw_1276 fw_1273 fw_1275 fwp_42 fw_10 ⟨rfl, by decide, by decide, by decide +kernel⟩ (na := 1) rfl (by decide) (Nat.le_of_ble_eq_true rfl) dX4_stops_14 rfl (fun rv S5 n6 hp => ?_)
  obtain ⟨v4, rfl, h⟩ := hp
  refine fV_if_eq (tgt := 29) hF dX4_stops_17 (by decide) (fun c7 => ?_) (fun c7 => ?_)
  · have h := h.1 c7
    refine fV_iconst (v := 0) hF dX4_stops_29 (by decide) ?_
    exact fV_iret hF hE.s (by omega) hr rfl dX4_stops_30 ⟨_, rfl, h⟩
  · have h := h.2 c7
    refine fV_aload_n hF dX4_stops_20 rfl rfl ?_
    obtain ⟨hA8, h⟩ := h
    refine fV_getR (k := 5) (i := 18) hF fK5 rfl hA8 (by decide) fw_1173 (Or.inl rfl) rfl dX4_stops_21 ?_
    refine fV_iload_n hF dX4_stops_24 rfl rfl ?_
    obtain ⟨a9, e10, hA11, h⟩ := h
    obtain ⟨hix12, h⟩ := h
    refine fV_iald hF e10 hA11 hix12 dX4_stops_25 ?_
    refine fV_goto (tgt := 30) hF dX4_stops_26 (by decide) ?_
    exact fV_iret hF hE.s (by omega) hr rfl dX4_stops_30 ⟨_, rfl, h⟩
set_option maxRecDepth 100000 in
set_option maxHeartbeats 4000000 in
theorem mc_X4_stops {l : Launch} (hfl : l.stackTraces = false) {G : fG} {S : fMS} {n : Nat} {o : Nat} {p1 : Int32} {post : Int32 → fMS → Nat → Prop} (h : wp_X4_stops S n o p1 post) : fCM l yX4_stops (.code yX4_stops cX4_stops 2 (some .int)) 3 G [(aR (some o)), (aI p1)] S n (fPI post) := by
  refine fCM_of hfl (by decide) (by intro v hv; simp only [List.mem_cons, List.not_mem_nil, or_false] at hv; rcases hv with rfl | rfl <;> rfl) (Nat.le_of_ble_eq_true rfl) (fun F hF hxn hl hG hr hin hE => ?_)
  subst hl hG
  have hlv : 3 ≤ 3 := Nat.le_refl _
  show fV F S n 0 [some (aR (some o)), some (aI p1)] []
  unfold wp_X4_stops at h
  refine fV_aload_n hF dX4_stops_0 rfl rfl ?_
  refine fV_aload_n hF dX4_stops_1 rfl rfl ?_
  refine fV_iload_n hF dX4_stops_2 rfl rfl ?_
  obtain ⟨hA1, h⟩ := h
  refine fV_callV (k := 5) (As := [(aI p1)]) hF (mc_X4_isJob hF.2.2.2.2.2.2.2.2.1 h) fK5 rfl hA1 (by omega) fw_1408 fw_1405 fw_1407 fwp_66 fw_10 ⟨rfl, by decide, by decide, by decide +kernel⟩ (na := 1) rfl (by decide) (Nat.le_of_ble_eq_true rfl) dX4_stops_3 rfl (fun rv S9 n9 hp => ?_)
  obtain ⟨v2, rfl, rfl, rfl, h⟩ := hp
  refine fV_if_eq (tgt := 13) hF dX4_stops_6 (by decide) (fun c3 => ?_) (fun c3 => ?_)
  · have h := h.1 c3
    refine fV_iconst (v := 1) hF dX4_stops_13 (by decide) ?_
    refine fV.sub (l' := [some (aR (some o)), some (aI p1)]) ⟨rfl, ⟨rfl, trivial⟩⟩ ?_
    exact mB_X4_stops_14 hlv hF hxn hr hE  S n (some o) (1 : Int32) h
  · have h := h.2 c3
    refine fV_iconst (v := 0) hF dX4_stops_9 (by decide) ?_
    refine fV_goto (tgt := 14) hF dX4_stops_10 (by decide) ?_
    refine fV.sub (l' := [some (aR (some o)), some (aI p1)]) ⟨rfl, ⟨rfl, trivial⟩⟩ ?_
    exact mB_X4_stops_14 hlv hF hxn hr hE  S n (some o) (0 : Int32) h
set_option maxRecDepth 100000 in
set_option maxHeartbeats 4000000 in
theorem mB_X4_firstOf_23 {F : fX} {lv : Nat} (hlv : 4 ≤ lv) (hF : fOk F cX4_firstOf RX4 lv) (hxn : xn F = 3) (hr : (xM F).sig.returnType = (some .int)) {post : Int32 → fMS → Nat → Prop} {K24 : fMS → Nat → Int32 → Prop} {o : Nat} {p1 : Int32} (hE : fEnd F lv (fPI post)) (hK24 : ∀ (S : fMS) (n : Nat) (y0 : Int32), K24 S n y0 → fV F S n 24 [some (aR (some o)), some (aI p1), none] [(aI y0)]) (S : fMS) (n : Nat) (x2 : Int32) (h : wB_X4_firstOf_23 post K24 o p1 S n x2) : fV F S n 23 [some (aR (some o)), some (aI p1), some (aI x2)] [] := by
  unfold wB_X4_firstOf_23 at h
  refine fV_iload_n hF dX4_firstOf_23 rfl rfl ?_
  refine fV.sub (l' := [some (aR (some o)), some (aI p1), none]) ⟨rfl, ⟨rfl, trivial⟩⟩ ?_
  exact hK24 S n x2 h
set_option maxRecDepth 100000 in
set_option maxHeartbeats 4000000 in
theorem mB_X4_firstOf_24 {F : fX} {lv : Nat} (hlv : 4 ≤ lv) (hF : fOk F cX4_firstOf RX4 lv) (hxn : xn F = 3) (hr : (xM F).sig.returnType = (some .int)) {post : Int32 → fMS → Nat → Prop} {o : Nat} {p1 : Int32} (hE : fEnd F lv (fPI post)) (S : fMS) (n : Nat) (y0 : Int32) (h : wB_X4_firstOf_24 post o p1 S n y0) : fV F S n 24 [some (aR (some o)), some (aI p1), none] [(aI y0)] := by
  unfold wB_X4_firstOf_24 at h
  refine fV_istore_n0 hF [some (aR (some o)), some (aI p1), some (aI y0)] dX4_firstOf_24 rfl (by rw [hxn]; decide) rfl rfl ?_
  refine fV_aload_n hF dX4_firstOf_25 rfl rfl ?_
  refine fV_iload_n hF dX4_firstOf_26 rfl rfl ?_
  obtain ⟨hA1, h⟩ := h
  refine fV_callV (k := 5) (As := [(aI y0)]) hF (mc_X4_goesOn hF.2.2.2.2.2.2.2.2.1 h) fK5 rfl hA1 (by omega) fw_1276 fw_1273 fw_1275 fwp_42 fw_10 ⟨rfl, by decide, by decide, by decide +kernel⟩ (na := 1) rfl (by decide) (Nat.le_of_ble_eq_true rfl) dX4_firstOf_27 rfl (fun rv S3 n4 hp => ?_)
  obtain ⟨v2, rfl, h⟩ := hp
  refine fV_if_eq (tgt := 41) hF dX4_firstOf_30 (by decide) (fun c5 => ?_) (fun c5 => ?_)
  · have h := h.1 c5
    refine fV_iconst (v := 0) hF dX4_firstOf_41 (by decide) ?_
    exact fV_iret hF hE.s (by omega) hr rfl dX4_firstOf_42 ⟨_, rfl, h⟩
  · have h := h.2 c5
    refine fV_aload_n hF dX4_firstOf_33 rfl rfl ?_
    refine fV_iload_n hF dX4_firstOf_34 rfl rfl ?_
    obtain ⟨hA6, h⟩ := h
    refine fV_callV (k := 5) (As := [(aI p1)]) hF (mc_X4_firstJob hF.2.2.2.2.2.2.2.2.1 h) fK5 rfl hA6 (by omega) fw_1312 fw_1309 fw_1311 fwp_51 fw_10 ⟨rfl, by decide, by decide, by decide +kernel⟩ (na := 1) rfl (by decide) (Nat.le_of_ble_eq_true rfl) dX4_firstOf_35 rfl (fun rv S9 n9 hp => ?_)
    obtain ⟨v7, rfl, rfl, rfl, h⟩ := hp
    refine fV_goto (tgt := 42) hF dX4_firstOf_38 (by decide) ?_
    exact fV_iret hF hE.s (by omega) hr rfl dX4_firstOf_42 ⟨_, rfl, h⟩
set_option maxRecDepth 100000 in
set_option maxHeartbeats 4000000 in
theorem mc_X4_firstOf {l : Launch} (hfl : l.stackTraces = false) {G : fG} {S : fMS} {n : Nat} {o : Nat} {p1 : Int32} {post : Int32 → fMS → Nat → Prop} (h : wp_X4_firstOf S n o p1 post) : fCM l yX4_firstOf (.code yX4_firstOf cX4_firstOf 3 (some .int)) 4 G [(aR (some o)), (aI p1)] S n (fPI post) := by
  refine fCM_of hfl (by decide) (by intro v hv; simp only [List.mem_cons, List.not_mem_nil, or_false] at hv; rcases hv with rfl | rfl <;> rfl) (Nat.le_of_ble_eq_true rfl) (fun F hF hxn hl hG hr hin hE => ?_)
  subst hl hG
  have hlv : 4 ≤ 4 := Nat.le_refl _
  show fV F S n 0 [some (aR (some o)), some (aI p1), none] []
  unfold wp_X4_firstOf at h
  refine fV_aload_n hF dX4_firstOf_0 rfl rfl ?_
  refine fV_iload_n hF dX4_firstOf_1 rfl rfl ?_
  obtain ⟨hA1, h⟩ := h
  refine fV_callV (k := 5) (As := [(aI p1)]) hF (mc_X4_leafFault hF.2.2.2.2.2.2.2.2.1 h) fK5 rfl hA1 (by omega) fw_1449 fw_1446 fw_1448 fwp_69 fw_10 ⟨rfl, by decide, by decide, by decide +kernel⟩ (na := 1) rfl (by decide) (Nat.le_of_ble_eq_true rfl) dX4_firstOf_2 rfl (fun rv S9 n9 hp => ?_)
  obtain ⟨v2, rfl, rfl, rfl, h⟩ := hp
  refine fV_istore_n0 hF [some (aR (some o)), some (aI p1), some (aI v2)] dX4_firstOf_5 rfl (by rw [hxn]; decide) rfl rfl ?_
  refine fV_iload_n hF dX4_firstOf_6 rfl rfl ?_
  refine fV_if_ne (tgt := 23) hF dX4_firstOf_7 (by decide) (fun c3 => ?_) (fun c3 => ?_)
  · have h := h.1 c3
    refine fV.sub (l' := [some (aR (some o)), some (aI p1), some (aI v2)]) ⟨rfl, ⟨rfl, ⟨rfl, trivial⟩⟩⟩ ?_
    exact mB_X4_firstOf_23 hlv hF hxn hr hE (fun S9 n9 z0 h9 => mB_X4_firstOf_24 hlv hF hxn hr hE  S9 n9 z0 h9) S n v2 h
  · have h := h.2 c3
    refine fV_aload_n hF dX4_firstOf_10 rfl rfl ?_
    refine fV_iload_n hF dX4_firstOf_11 rfl rfl ?_
    refine fV_callV (k := 5) (As := [(aI p1)]) hF (mc_X4_firstJob hF.2.2.2.2.2.2.2.2.1 h) fK5 rfl hA1 (by omega) fw_1312 fw_1309 fw_1311 fwp_51 fw_10 ⟨rfl, by decide, by decide, by decide +kernel⟩ (na := 1) rfl (by decide) (Nat.le_of_ble_eq_true rfl) dX4_firstOf_12 rfl (fun rv S9 n9 hp => ?_)
    obtain ⟨v4, rfl, rfl, rfl, h⟩ := hp
    refine fV_iconst (v := -1) hF dX4_firstOf_15 (by decide) ?_
    refine fV_icmp_ne (tgt := 23) hF dX4_firstOf_16 (by decide) (fun c5 => ?_) (fun c5 => ?_)
    · have h := h.1 c5
      refine fV.sub (l' := [some (aR (some o)), some (aI p1), some (aI v2)]) ⟨rfl, ⟨rfl, ⟨rfl, trivial⟩⟩⟩ ?_
      exact mB_X4_firstOf_23 hlv hF hxn hr hE (fun S9 n9 z0 h9 => mB_X4_firstOf_24 hlv hF hxn hr hE  S9 n9 z0 h9) S n v2 h
    · have h := h.2 c5
      refine fV_iconst (v := 3) hF dX4_firstOf_19 (by decide) ?_
      refine fV_goto (tgt := 24) hF dX4_firstOf_20 (by decide) ?_
      refine fV.sub (l' := [some (aR (some o)), some (aI p1), none]) ⟨rfl, ⟨rfl, trivial⟩⟩ ?_
      exact mB_X4_firstOf_24 hlv hF hxn hr hE  S n (3 : Int32) h
set_option maxRecDepth 100000 in
set_option maxHeartbeats 4000000 in
theorem mB_X4_inLine_24 {F : fX} {lv : Nat} (hlv : 4 ≤ lv) (hF : fOk F cX4_inLine RX4 lv) (hxn : xn F = 2) (hr : (xM F).sig.returnType = (some .int)) {post : Int32 → fMS → Nat → Prop} {o : Nat} {p1 : Int32} (hE : fEnd F lv (fPI post)) (S : fMS) (n : Nat) (y0 : Option Nat) (y1 : Int32) (h : wB_X4_inLine_24 post o p1 S n y0 y1) : fV F S n 24 [some (aR (some o)), some (aI p1)] [(aI y1), (aR y0)] := by
  unfold wB_X4_inLine_24 at h
  obtain ⟨a1, e2, hA3, h⟩ := h
  refine fV_callV (k := 5) (As := [(aI y1)]) hF (mc_X4_goesOn hF.2.2.2.2.2.2.2.2.1 h) fK5 e2 hA3 (by omega) fw_1276 fw_1273 fw_1275 fwp_42 fw_10 ⟨rfl, by decide, by decide, by decide +kernel⟩ (na := 1) rfl (by decide) (Nat.le_of_ble_eq_true rfl) dX4_inLine_24 rfl (fun rv S5 n6 hp => ?_)
  obtain ⟨v4, rfl, h⟩ := hp
  refine fV_if_eq (tgt := 39) hF dX4_inLine_27 (by decide) (fun c7 => ?_) (fun c7 => ?_)
  · have h := h.1 c7
    refine fV_iconst (v := 0) hF dX4_inLine_39 (by decide) ?_
    exact fV_iret hF hE.s (by omega) hr rfl dX4_inLine_40 ⟨_, rfl, h⟩
  · have h := h.2 c7
    refine fV_aload_n hF dX4_inLine_30 rfl rfl ?_
    obtain ⟨hA8, h⟩ := h
    refine fV_getR (k := 5) (i := 29) hF fK5 rfl hA8 (by decide) fw_1184 (Or.inl rfl) rfl dX4_inLine_31 ?_
    refine fV_iload_n hF dX4_inLine_34 rfl rfl ?_
    obtain ⟨a9, e10, hA11, h⟩ := h
    obtain ⟨hix12, h⟩ := h
    refine fV_iald hF e10 hA11 hix12 dX4_inLine_35 ?_
    refine fV_goto (tgt := 40) hF dX4_inLine_36 (by decide) ?_
    exact fV_iret hF hE.s (by omega) hr rfl dX4_inLine_40 ⟨_, rfl, h⟩
set_option maxRecDepth 100000 in
set_option maxHeartbeats 4000000 in
theorem mc_X4_inLine {l : Launch} (hfl : l.stackTraces = false) {G : fG} {S : fMS} {n : Nat} {o : Nat} {p1 : Int32} {post : Int32 → fMS → Nat → Prop} (h : wp_X4_inLine S n o p1 post) : fCM l yX4_inLine (.code yX4_inLine cX4_inLine 2 (some .int)) 4 G [(aR (some o)), (aI p1)] S n (fPI post) := by
  refine fCM_of hfl (by decide) (by intro v hv; simp only [List.mem_cons, List.not_mem_nil, or_false] at hv; rcases hv with rfl | rfl <;> rfl) (Nat.le_of_ble_eq_true rfl) (fun F hF hxn hl hG hr hin hE => ?_)
  subst hl hG
  have hlv : 4 ≤ 4 := Nat.le_refl _
  show fV F S n 0 [some (aR (some o)), some (aI p1)] []
  unfold wp_X4_inLine at h
  refine fV_aload_n hF dX4_inLine_0 rfl rfl ?_
  obtain ⟨hA1, h⟩ := h
  refine fV_callV (k := 5) (As := []) hF (mc_X4_laysLine hF.2.2.2.2.2.2.2.2.1 h) fK5 rfl hA1 (by omega) fw_1308 fw_1305 fw_1307 fwp_50 fw_10 ⟨rfl, by decide, by decide, by decide +kernel⟩ (na := 0) rfl (by decide) (Nat.le_of_ble_eq_true rfl) dX4_inLine_1 rfl (fun rv S2 n3 hp => ?_)
  obtain ⟨rfl, h⟩ := hp
  refine fV_aload_n hF dX4_inLine_4 rfl rfl ?_
  refine fV_iload_n hF dX4_inLine_5 rfl rfl ?_
  refine fV_iconst (v := 0) hF dX4_inLine_6 (by decide) ?_
  refine fV_aload_n hF dX4_inLine_7 rfl rfl ?_
  obtain ⟨hA4, h⟩ := h
  refine fV_getI (k := 5) (i := 30) hF fK5 rfl hA4 (by decide) fw_1185 (Or.inl rfl) rfl dX4_inLine_8 ?_
  refine fV_iconst (v := 1) hF dX4_inLine_11 (by decide) ?_
  refine fV_isub hF dX4_inLine_12 ?_
  refine fV_callS (As := [(aI p1), (aI (0 : Int32)), (aI ((sI S2 o 30) - (1 : Int32)))]) hF (mc_X4_in hF.2.2.2.2.2.2.2.2.1 h) (by omega) fw_1272 fw_1270 fw_1271 fw_10 ⟨by decide, by decide, by decide +kernel⟩ (na := 3) rfl (by decide) (Nat.le_of_ble_eq_true rfl) dX4_inLine_13 rfl (fun rv S9 n9 hp => ?_)
  obtain ⟨v5, rfl, rfl, rfl, h⟩ := hp
  refine fV_if_eq (tgt := 23) hF dX4_inLine_16 (by decide) (fun c6 => ?_) (fun c6 => ?_)
  · have h := h.1 c6
    refine fV_iconst (v := 1) hF dX4_inLine_23 (by decide) ?_
    refine fV.sub (l' := [some (aR (some o)), some (aI p1)]) ⟨rfl, ⟨rfl, trivial⟩⟩ ?_
    exact mB_X4_inLine_24 hlv hF hxn hr hE  S2 n3 (some o) (1 : Int32) h
  · have h := h.2 c6
    refine fV_iconst (v := 0) hF dX4_inLine_19 (by decide) ?_
    refine fV_goto (tgt := 24) hF dX4_inLine_20 (by decide) ?_
    refine fV.sub (l' := [some (aR (some o)), some (aI p1)]) ⟨rfl, ⟨rfl, trivial⟩⟩ ?_
    exact mB_X4_inLine_24 hlv hF hxn hr hE  S2 n3 (some o) (0 : Int32) h
set_option maxRecDepth 100000 in
set_option maxHeartbeats 4000000 in
theorem mB_X4_spanOf_3 {F : fX} {lv : Nat} (hlv : 1 ≤ lv) (hF : fOk F cX4_spanOf RX4 lv) (hxn : xn F = 5) (hr : (xM F).sig.returnType = (some .int)) {S : fMS} {n : Nat} {post : Int32 → Prop} {o : Nat} {p1 : Int32} {p2 : Int32} {p3 : Int32} (hE : fEnd F lv (fPI (fun x S' n' => S = S' ∧ n = n' ∧ post x))) : ∀ (f : Nat) (x4 : Int32) (h : wB_X4_spanOf_3 S post o p1 p2 p3 f x4), fV F S n 3 [some (aR (some o)), some (aI p1), some (aI p2), some (aI p3), some (aI x4)] [] := by
  intro f
  induction f with
  | zero => intro _ h; exact h.elim
  | succ f ih =>
    intro x4 h
    simp only [wB_X4_spanOf_3] at h
    refine fV_iload hF dX4_spanOf_3 rfl ?_
    refine fV_aload_n hF dX4_spanOf_5 rfl rfl ?_
    obtain ⟨hA1, h⟩ := h
    refine fV_getI (k := 5) (i := 22) hF fK5 rfl hA1 (by decide) fw_1177 (Or.inl rfl) rfl dX4_spanOf_6 ?_
    refine fV_icmp_ge (tgt := 54) hF dX4_spanOf_9 (by decide) (fun c2 => ?_) (fun c2 => ?_)
    · have h := h.1 c2
      refine fV_iconst (v := -1) hF dX4_spanOf_54 (by decide) ?_
      exact fV_iret hF hE.s (by omega) hr rfl dX4_spanOf_55 ⟨_, rfl, rfl, rfl, h⟩
    · have h := h.2 c2
      refine fV_aload_n hF dX4_spanOf_12 rfl rfl ?_
      refine fV_getR (k := 5) (i := 23) hF fK5 rfl hA1 (by decide) fw_1178 (Or.inl rfl) rfl dX4_spanOf_13 ?_
      refine fV_iload hF dX4_spanOf_16 rfl ?_
      obtain ⟨a3, e4, hA5, h⟩ := h
      obtain ⟨hix6, h⟩ := h
      refine fV_iald hF e4 hA5 hix6 dX4_spanOf_18 ?_
      refine fV_iload_n hF dX4_spanOf_19 rfl rfl ?_
      refine fV_icmp_ne (tgt := 48) hF dX4_spanOf_20 (by decide) (fun c7 => ?_) (fun c7 => ?_)
      · have h := h.1 c7
        refine fV_iinc (v := 1) hF (fun y => [some (aR (some o)), some (aI p1), some (aI p2), some (aI p3), some (aI y)]) dX4_spanOf_48 rfl (by decide) (by rw [hxn]; decide) rfl (fun _ => rfl) (fun v8 ev8 => ?_)
        have h := h v8 ev8
        refine fV_goto (tgt := 3) hF dX4_spanOf_51 (by decide) ?_
        refine fV.sub (l' := [some (aR (some o)), some (aI p1), some (aI p2), some (aI p3), some (aI v8)]) ⟨rfl, ⟨rfl, ⟨rfl, ⟨rfl, ⟨rfl, trivial⟩⟩⟩⟩⟩ ?_
        exact ih v8 h
      · have h := h.2 c7
        refine fV_aload_n hF dX4_spanOf_23 rfl rfl ?_
        refine fV_getR (k := 5) (i := 25) hF fK5 rfl hA1 (by decide) fw_1180 (Or.inl rfl) rfl dX4_spanOf_24 ?_
        refine fV_iload hF dX4_spanOf_27 rfl ?_
        obtain ⟨a9, e10, hA11, h⟩ := h
        obtain ⟨hix12, h⟩ := h
        refine fV_iald hF e10 hA11 hix12 dX4_spanOf_29 ?_
        refine fV_iload_n hF dX4_spanOf_30 rfl rfl ?_
        refine fV_icmp_ne (tgt := 48) hF dX4_spanOf_31 (by decide) (fun c13 => ?_) (fun c13 => ?_)
        · have h := h.1 c13
          refine fV_iinc (v := 1) hF (fun y => [some (aR (some o)), some (aI p1), some (aI p2), some (aI p3), some (aI y)]) dX4_spanOf_48 rfl (by decide) (by rw [hxn]; decide) rfl (fun _ => rfl) (fun v14 ev14 => ?_)
          have h := h v14 ev14
          refine fV_goto (tgt := 3) hF dX4_spanOf_51 (by decide) ?_
          refine fV.sub (l' := [some (aR (some o)), some (aI p1), some (aI p2), some (aI p3), some (aI v14)]) ⟨rfl, ⟨rfl, ⟨rfl, ⟨rfl, ⟨rfl, trivial⟩⟩⟩⟩⟩ ?_
          exact ih v14 h
        · have h := h.2 c13
          refine fV_aload_n hF dX4_spanOf_34 rfl rfl ?_
          refine fV_getR (k := 5) (i := 26) hF fK5 rfl hA1 (by decide) fw_1181 (Or.inl rfl) rfl dX4_spanOf_35 ?_
          refine fV_iload hF dX4_spanOf_38 rfl ?_
          obtain ⟨a15, e16, hA17, h⟩ := h
          obtain ⟨hix18, h⟩ := h
          refine fV_iald hF e16 hA17 hix18 dX4_spanOf_40 ?_
          refine fV_iload_n hF dX4_spanOf_41 rfl rfl ?_
          refine fV_icmp_ne (tgt := 48) hF dX4_spanOf_42 (by decide) (fun c19 => ?_) (fun c19 => ?_)
          · have h := h.1 c19
            refine fV_iinc (v := 1) hF (fun y => [some (aR (some o)), some (aI p1), some (aI p2), some (aI p3), some (aI y)]) dX4_spanOf_48 rfl (by decide) (by rw [hxn]; decide) rfl (fun _ => rfl) (fun v20 ev20 => ?_)
            have h := h v20 ev20
            refine fV_goto (tgt := 3) hF dX4_spanOf_51 (by decide) ?_
            refine fV.sub (l' := [some (aR (some o)), some (aI p1), some (aI p2), some (aI p3), some (aI v20)]) ⟨rfl, ⟨rfl, ⟨rfl, ⟨rfl, ⟨rfl, trivial⟩⟩⟩⟩⟩ ?_
            exact ih v20 h
          · have h := h.2 c19
            refine fV_iload hF dX4_spanOf_45 rfl ?_
            exact fV_iret hF hE.s (by omega) hr rfl dX4_spanOf_47 ⟨_, rfl, rfl, rfl, h⟩
set_option maxRecDepth 100000 in
set_option maxHeartbeats 4000000 in
theorem mc_X4_spanOf {l : Launch} (hfl : l.stackTraces = false) {G : fG} {S : fMS} {n : Nat} {o : Nat} {p1 : Int32} {p2 : Int32} {p3 : Int32} {post : Int32 → Prop} (h : wp_X4_spanOf S o p1 p2 p3 post) : fCM l yX4_spanOf (.code yX4_spanOf cX4_spanOf 5 (some .int)) 1 G [(aR (some o)), (aI p1), (aI p2), (aI p3)] S n (fPI (fun x S' n' => S = S' ∧ n = n' ∧ post x)) := by
  refine fCM_of hfl (by decide) (by intro v hv; simp only [List.mem_cons, List.not_mem_nil, or_false] at hv; rcases hv with rfl | rfl | rfl | rfl <;> rfl) (Nat.le_of_ble_eq_true rfl) (fun F hF hxn hl hG hr hin hE => ?_)
  subst hl hG
  have hlv : 1 ≤ 1 := Nat.le_refl _
  show fV F S n 0 [some (aR (some o)), some (aI p1), some (aI p2), some (aI p3), none] []
  unfold wp_X4_spanOf at h
  refine fV_iconst (v := 0) hF dX4_spanOf_0 (by decide) ?_
  refine fV_istore0 hF [some (aR (some o)), some (aI p1), some (aI p2), some (aI p3), some (aI (0 : Int32))] dX4_spanOf_1 (by rw [hxn]; decide) rfl rfl ?_
  obtain ⟨f1, h⟩ := h
  refine fV.sub (l' := [some (aR (some o)), some (aI p1), some (aI p2), some (aI p3), some (aI (0 : Int32))]) ⟨rfl, ⟨rfl, ⟨rfl, ⟨rfl, ⟨rfl, trivial⟩⟩⟩⟩⟩ ?_
  exact mB_X4_spanOf_3 hlv hF hxn hr hE  f1 (0 : Int32) h
set_option maxRecDepth 100000 in
set_option maxHeartbeats 4000000 in
theorem mB_X4_reserveFault_78 {F : fX} {lv : Nat} (hlv : 3 ≤ lv) (hF : fOk F cX4_reserveFault RX4 lv) (hxn : xn F = 6) (hr : (xM F).sig.returnType = (some .int)) {S : fMS} {n : Nat} {post : Int32 → Prop} {o : Nat} {p1 : Int32} {p2 : Int32} {p3 : Int32} {p4 : Int32} (hE : fEnd F lv (fPI (fun x S' n' => S = S' ∧ n = n' ∧ post x))) (x5 : Int32) (h : wB_X4_reserveFault_78 S post o p1 p2 p3 p4 x5) : fV F S n 78 [some (aR (some o)), some (aI p1), some (aI p2), some (aI p3), some (aI p4), some (aI x5)] [] := by
  unfold wB_X4_reserveFault_78 at h
  refine fV_aload_n hF dX4_reserveFault_78 rfl rfl ?_
  refine fV_iload_n hF dX4_reserveFault_79 rfl rfl ?_
  obtain ⟨hA1, h⟩ := h
  refine fV_callV (k := 5) (As := [(aI p1)]) hF (mc_X4_isLeaf hF.2.2.2.2.2.2.2.2.1 h) fK5 rfl hA1 (by omega) fw_1292 fw_1289 fw_1291 fwp_46 fw_10 ⟨rfl, by decide, by decide, by decide +kernel⟩ (na := 1) rfl (by decide) (Nat.le_of_ble_eq_true rfl) dX4_reserveFault_80 rfl (fun rv S9 n9 hp => ?_)
  obtain ⟨v2, rfl, rfl, rfl, h⟩ := hp
  refine fV_if_ne (tgt := 90) hF dX4_reserveFault_83 (by decide) (fun c3 => ?_) (fun c3 => ?_)
  · have h := h.1 c3
    refine fV_aload_n hF dX4_reserveFault_90 rfl rfl ?_
    refine fV_getI (k := 5) (i := 22) hF fK5 rfl hA1 (by decide) fw_1177 (Or.inl rfl) rfl dX4_reserveFault_91 ?_
    refine fV_bipush (v := 8) hF dX4_reserveFault_94 (by decide) ?_
    refine fV_icmp_ne (tgt := 109) hF dX4_reserveFault_96 (by decide) (fun c4 => ?_) (fun c4 => ?_)
    · have h := h.1 c4
      refine fV_iconst (v := 0) hF dX4_reserveFault_109 (by decide) ?_
      exact fV_iret hF hE.s (by omega) hr rfl dX4_reserveFault_110 ⟨_, rfl, rfl, rfl, h⟩
    · have h := h.2 c4
      refine fV_iload hF dX4_reserveFault_99 rfl ?_
      refine fV_iconst (v := -1) hF dX4_reserveFault_101 (by decide) ?_
      refine fV_icmp_ne (tgt := 109) hF dX4_reserveFault_102 (by decide) (fun c5 => ?_) (fun c5 => ?_)
      · have h := h.1 c5
        refine fV_iconst (v := 0) hF dX4_reserveFault_109 (by decide) ?_
        exact fV_iret hF hE.s (by omega) hr rfl dX4_reserveFault_110 ⟨_, rfl, rfl, rfl, h⟩
      · have h := h.2 c5
        refine fV_iconst (v := 4) hF dX4_reserveFault_105 (by decide) ?_
        refine fV_goto (tgt := 110) hF dX4_reserveFault_106 (by decide) ?_
        exact fV_iret hF hE.s (by omega) hr rfl dX4_reserveFault_110 ⟨_, rfl, rfl, rfl, h⟩
  · have h := h.2 c3
    refine fV_iconst (v := 3) hF dX4_reserveFault_86 (by decide) ?_
    refine fV_goto (tgt := 110) hF dX4_reserveFault_87 (by decide) ?_
    exact fV_iret hF hE.s (by omega) hr rfl dX4_reserveFault_110 ⟨_, rfl, rfl, rfl, h⟩
set_option maxRecDepth 100000 in
set_option maxHeartbeats 4000000 in
theorem mc_X4_reserveFault {l : Launch} (hfl : l.stackTraces = false) {G : fG} {S : fMS} {n : Nat} {o : Nat} {p1 : Int32} {p2 : Int32} {p3 : Int32} {p4 : Int32} {post : Int32 → Prop} (h : wp_X4_reserveFault S o p1 p2 p3 p4 post) : fCM l yX4_reserveFault (.code yX4_reserveFault cX4_reserveFault 6 (some .int)) 3 G [(aR (some o)), (aI p1), (aI p2), (aI p3), (aI p4)] S n (fPI (fun x S' n' => S = S' ∧ n = n' ∧ post x)) := by
  refine fCM_of hfl (by decide) (by intro v hv; simp only [List.mem_cons, List.not_mem_nil, or_false] at hv; rcases hv with rfl | rfl | rfl | rfl | rfl <;> rfl) (Nat.le_of_ble_eq_true rfl) (fun F hF hxn hl hG hr hin hE => ?_)
  subst hl hG
  have hlv : 3 ≤ 3 := Nat.le_refl _
  show fV F S n 0 [some (aR (some o)), some (aI p1), some (aI p2), some (aI p3), some (aI p4), none] []
  unfold wp_X4_reserveFault at h
  refine fV_aload_n hF dX4_reserveFault_0 rfl rfl ?_
  refine fV_iload_n hF dX4_reserveFault_1 rfl rfl ?_
  obtain ⟨hA1, h⟩ := h
  refine fV_callV (k := 5) (As := [(aI p1)]) hF (mc_X4_isTeam hF.2.2.2.2.2.2.2.2.1 h) fK5 rfl hA1 (by omega) fw_1269 fw_1266 fw_1268 fwp_41 fw_10 ⟨rfl, by decide, by decide, by decide +kernel⟩ (na := 1) rfl (by decide) (Nat.le_of_ble_eq_true rfl) dX4_reserveFault_2 rfl (fun rv S9 n9 hp => ?_)
  obtain ⟨v2, rfl, rfl, rfl, h⟩ := hp
  refine fV_if_ne (tgt := 10) hF dX4_reserveFault_5 (by decide) (fun c3 => ?_) (fun c3 => ?_)
  · have h := h.1 c3
    refine fV_aload_n hF dX4_reserveFault_10 rfl rfl ?_
    refine fV_iload_n hF dX4_reserveFault_11 rfl rfl ?_
    refine fV_iload_n hF dX4_reserveFault_12 rfl rfl ?_
    refine fV_iload hF dX4_reserveFault_13 rfl ?_
    refine fV_callV (k := 5) (As := [(aI p1), (aI p3), (aI p4)]) hF (mc_X4_spanOf hF.2.2.2.2.2.2.2.2.1 h) fK5 rfl hA1 (by omega) fw_1465 fw_1462 fw_1464 fwp_71 fw_10 ⟨rfl, by decide, by decide, by decide +kernel⟩ (na := 3) rfl (by decide) (Nat.le_of_ble_eq_true rfl) dX4_reserveFault_15 rfl (fun rv S9 n9 hp => ?_)
    obtain ⟨v4, rfl, rfl, rfl, h⟩ := hp
    refine fV_istore0 hF [some (aR (some o)), some (aI p1), some (aI p2), some (aI p3), some (aI p4), some (aI v4)] dX4_reserveFault_18 (by rw [hxn]; decide) rfl rfl ?_
    refine fV_iload_n hF dX4_reserveFault_20 rfl rfl ?_
    refine fV_iconst (v := 1) hF dX4_reserveFault_21 (by decide) ?_
    refine fV_bipush (v := 60) hF dX4_reserveFault_22 (by decide) ?_
    refine fV_callS (As := [(aI p2), (aI (1 : Int32)), (aI (60 : Int32))]) hF (mc_X4_in hF.2.2.2.2.2.2.2.2.1 h) (by omega) fw_1272 fw_1270 fw_1271 fw_10 ⟨by decide, by decide, by decide +kernel⟩ (na := 3) rfl (by decide) (Nat.le_of_ble_eq_true rfl) dX4_reserveFault_24 rfl (fun rv S9 n9 hp => ?_)
    obtain ⟨v5, rfl, rfl, rfl, h⟩ := hp
    refine fV_if_eq (tgt := 76) hF dX4_reserveFault_27 (by decide) (fun c6 => ?_) (fun c6 => ?_)
    · have h := h.1 c6
      refine fV_iconst (v := 2) hF dX4_reserveFault_76 (by decide) ?_
      exact fV_iret hF hE.s (by omega) hr rfl dX4_reserveFault_77 ⟨_, rfl, rfl, rfl, h⟩
    · have h := h.2 c6
      refine fV_iload_n hF dX4_reserveFault_30 rfl rfl ?_
      refine fV_iconst (v := 0) hF dX4_reserveFault_31 (by decide) ?_
      refine fV_sipush (v := 9999) hF dX4_reserveFault_32 (by decide) ?_
      refine fV_callS (As := [(aI p3), (aI (0 : Int32)), (aI (9999 : Int32))]) hF (mc_X4_in hF.2.2.2.2.2.2.2.2.1 h) (by omega) fw_1272 fw_1270 fw_1271 fw_10 ⟨by decide, by decide, by decide +kernel⟩ (na := 3) rfl (by decide) (Nat.le_of_ble_eq_true rfl) dX4_reserveFault_35 rfl (fun rv S9 n9 hp => ?_)
      obtain ⟨v7, rfl, rfl, rfl, h⟩ := hp
      refine fV_if_eq (tgt := 76) hF dX4_reserveFault_38 (by decide) (fun c8 => ?_) (fun c8 => ?_)
      · have h := h.1 c8
        refine fV_iconst (v := 2) hF dX4_reserveFault_76 (by decide) ?_
        exact fV_iret hF hE.s (by omega) hr rfl dX4_reserveFault_77 ⟨_, rfl, rfl, rfl, h⟩
      · have h := h.2 c8
        refine fV_iload hF dX4_reserveFault_41 rfl ?_
        refine fV_iload_n hF dX4_reserveFault_43 rfl rfl ?_
        refine fV_icmp_le (tgt := 76) hF dX4_reserveFault_44 (by decide) (fun c9 => ?_) (fun c9 => ?_)
        · have h := h.1 c9
          refine fV_iconst (v := 2) hF dX4_reserveFault_76 (by decide) ?_
          exact fV_iret hF hE.s (by omega) hr rfl dX4_reserveFault_77 ⟨_, rfl, rfl, rfl, h⟩
        · have h := h.2 c9
          refine fV_iload hF dX4_reserveFault_47 rfl ?_
          refine fV_sipush (v := 9999) hF dX4_reserveFault_49 (by decide) ?_
          refine fV_icmp_gt (tgt := 76) hF dX4_reserveFault_52 (by decide) (fun c10 => ?_) (fun c10 => ?_)
          · have h := h.1 c10
            refine fV_iconst (v := 2) hF dX4_reserveFault_76 (by decide) ?_
            exact fV_iret hF hE.s (by omega) hr rfl dX4_reserveFault_77 ⟨_, rfl, rfl, rfl, h⟩
          · have h := h.2 c10
            refine fV_iload hF dX4_reserveFault_55 rfl ?_
            refine fV_iconst (v := -1) hF dX4_reserveFault_57 (by decide) ?_
            refine fV_icmp_eq (tgt := 78) hF dX4_reserveFault_58 (by decide) (fun c11 => ?_) (fun c11 => ?_)
            · have h := h.1 c11
              refine fV.sub (l' := [some (aR (some o)), some (aI p1), some (aI p2), some (aI p3), some (aI p4), some (aI v4)]) ⟨rfl, ⟨rfl, ⟨rfl, ⟨rfl, ⟨rfl, ⟨rfl, trivial⟩⟩⟩⟩⟩⟩ ?_
              exact mB_X4_reserveFault_78 hlv hF hxn hr hE  v4 h
            · have h := h.2 c11
              refine fV_aload_n hF dX4_reserveFault_61 rfl rfl ?_
              refine fV_getR (k := 5) (i := 24) hF fK5 rfl hA1 (by decide) fw_1179 (Or.inl rfl) rfl dX4_reserveFault_62 ?_
              refine fV_iload hF dX4_reserveFault_65 rfl ?_
              obtain ⟨a12, e13, hA14, h⟩ := h
              obtain ⟨hix15, h⟩ := h
              refine fV_iald hF e13 hA14 hix15 dX4_reserveFault_67 ?_
              refine fV_iload_n hF dX4_reserveFault_68 rfl rfl ?_
              refine fV_iadd hF dX4_reserveFault_69 ?_
              refine fV_sipush (v := 200) hF dX4_reserveFault_70 (by decide) ?_
              refine fV_icmp_le (tgt := 78) hF dX4_reserveFault_73 (by decide) (fun c16 => ?_) (fun c16 => ?_)
              · have h := h.1 c16
                refine fV.sub (l' := [some (aR (some o)), some (aI p1), some (aI p2), some (aI p3), some (aI p4), some (aI v4)]) ⟨rfl, ⟨rfl, ⟨rfl, ⟨rfl, ⟨rfl, ⟨rfl, trivial⟩⟩⟩⟩⟩⟩ ?_
                exact mB_X4_reserveFault_78 hlv hF hxn hr hE  v4 h
              · have h := h.2 c16
                refine fV_iconst (v := 2) hF dX4_reserveFault_76 (by decide) ?_
                exact fV_iret hF hE.s (by omega) hr rfl dX4_reserveFault_77 ⟨_, rfl, rfl, rfl, h⟩
  · have h := h.2 c3
    refine fV_iconst (v := 1) hF dX4_reserveFault_8 (by decide) ?_
    exact fV_iret hF hE.s (by omega) hr rfl dX4_reserveFault_9 ⟨_, rfl, rfl, rfl, h⟩
set_option maxRecDepth 100000 in
set_option maxHeartbeats 4000000 in
theorem mB_X4_reserve_83 {F : fX} {lv : Nat} (hlv : 17 ≤ lv) (hF : fOk F cX4_reserve RX4 lv) (hxn : xn F = 7) (hr : (xM F).sig.returnType = (some .int)) {post : Int32 → fMS → Nat → Prop} {o : Nat} {p1 : Int32} {p2 : Int32} {p3 : Int32} {p4 : Int32} (hE : fEnd F lv (fPI post)) (S : fMS) (n : Nat) (x5 : Int32) (h : wB_X4_reserve_83 post o p1 p2 p3 p4 S n x5) : fV F S n 83 [some (aR (some o)), some (aI p1), some (aI p2), some (aI p3), some (aI p4), some (aI x5), none] [] := by
  unfold wB_X4_reserve_83 at h
  refine fV_aload_n hF dX4_reserve_83 rfl rfl ?_
  obtain ⟨hA1, h⟩ := h
  refine fV_getR (k := 5) (i := 24) hF fK5 rfl hA1 (by decide) fw_1179 (Or.inl rfl) rfl dX4_reserve_84 ?_
  refine fV_iload hF dX4_reserve_87 rfl ?_
  refine fV_dup2 hF dX4_reserve_89 rfl rfl ?_
  obtain ⟨a2, e3, hA4, h⟩ := h
  obtain ⟨hix5, h⟩ := h
  refine fV_iald hF e3 hA4 hix5 dX4_reserve_90 ?_
  refine fV_iload_n hF dX4_reserve_91 rfl rfl ?_
  refine fV_iadd hF dX4_reserve_92 ?_
  obtain ⟨hix6, h⟩ := h
  refine fV_iast hF e3 hA4 hix6 dX4_reserve_93 ?_
  refine fV_aload_n hF dX4_reserve_94 rfl rfl ?_
  refine fV_getR (k := 5) (i := 9) hF fK5 rfl hA1 (by decide) fw_1164 (Or.inl rfl) rfl dX4_reserve_95 ?_
  refine fV_iload_n hF dX4_reserve_98 rfl rfl ?_
  refine fV_iconst (v := 1) hF dX4_reserve_99 (by decide) ?_
  obtain ⟨a7, e8, hA9, h⟩ := h
  obtain ⟨hix10, h⟩ := h
  refine fV_zast hF e8 hA9 hix10 dX4_reserve_100 ?_
  refine fV_aload_n hF dX4_reserve_101 rfl rfl ?_
  refine fV_getR (k := 5) (i := 24) hF fK5 rfl hA1 (by decide) fw_1179 (Or.inl rfl) rfl dX4_reserve_102 ?_
  refine fV_iload hF dX4_reserve_105 rfl ?_
  obtain ⟨a11, e12, hA13, h⟩ := h
  obtain ⟨hix14, h⟩ := h
  refine fV_iald hF e12 hA13 hix14 dX4_reserve_107 ?_
  refine fV_istore hF (fun y => [some (aR (some o)), some (aI p1), some (aI p2), some (aI p3), some (aI p4), some (aI x5), some (aI y)]) dX4_reserve_108 (by rw [hxn]; decide) rfl (fun _ => rfl) (fun v15 ev15 => ?_)
  have h := h v15 ev15
  refine fV_aload_n hF dX4_reserve_110 rfl rfl ?_
  refine fV_callV (k := 5) (As := []) hF (mc_X4_serves hF.2.2.2.2.2.2.2.2.1 h) fK5 rfl hA1 (by omega) fw_1280 fw_1277 fw_1279 fwp_43 fw_10 ⟨rfl, by decide, by decide, by decide +kernel⟩ (na := 0) rfl (by decide) (Nat.le_of_ble_eq_true rfl) dX4_reserve_111 rfl (fun rv S16 n17 hp => ?_)
  obtain ⟨rfl, h⟩ := hp
  refine fV_iload hF dX4_reserve_114 rfl ?_
  exact fV_iret hF hE.s (by omega) hr rfl dX4_reserve_116 ⟨_, rfl, h⟩
set_option maxRecDepth 100000 in
set_option maxHeartbeats 4000000 in
theorem mc_X4_reserve {l : Launch} (hfl : l.stackTraces = false) {G : fG} {S : fMS} {n : Nat} {o : Nat} {p1 : Int32} {p2 : Int32} {p3 : Int32} {p4 : Int32} {post : Int32 → fMS → Nat → Prop} (h : wp_X4_reserve S n o p1 p2 p3 p4 post) : fCM l yX4_reserve (.code yX4_reserve cX4_reserve 7 (some .int)) 17 G [(aR (some o)), (aI p1), (aI p2), (aI p3), (aI p4)] S n (fPI post) := by
  refine fCM_of hfl (by decide) (by intro v hv; simp only [List.mem_cons, List.not_mem_nil, or_false] at hv; rcases hv with rfl | rfl | rfl | rfl | rfl <;> rfl) (Nat.le_of_ble_eq_true rfl) (fun F hF hxn hl hG hr hin hE => ?_)
  subst hl hG
  have hlv : 17 ≤ 17 := Nat.le_refl _
  show fV F S n 0 [some (aR (some o)), some (aI p1), some (aI p2), some (aI p3), some (aI p4), none, none] []
  unfold wp_X4_reserve at h
  refine fV_aload_n hF dX4_reserve_0 rfl rfl ?_
  refine fV_aload_n hF dX4_reserve_1 rfl rfl ?_
  refine fV_iload_n hF dX4_reserve_2 rfl rfl ?_
  refine fV_iload_n hF dX4_reserve_3 rfl rfl ?_
  refine fV_iload_n hF dX4_reserve_4 rfl rfl ?_
  refine fV_iload hF dX4_reserve_5 rfl ?_
  obtain ⟨hA1, h⟩ := h
  refine fV_callV (k := 5) (As := [(aI p1), (aI p2), (aI p3), (aI p4)]) hF (mc_X4_reserveFault hF.2.2.2.2.2.2.2.2.1 h) fK5 rfl hA1 (by omega) fw_1461 fw_1458 fw_1460 fwp_70 fw_10 ⟨rfl, by decide, by decide, by decide +kernel⟩ (na := 4) rfl (by decide) (Nat.le_of_ble_eq_true rfl) dX4_reserve_7 rfl (fun rv S9 n9 hp => ?_)
  obtain ⟨v2, rfl, rfl, rfl, h⟩ := hp
  refine fV_callV (k := 5) (As := [(aI v2)]) hF (mc_X4_goesOn hF.2.2.2.2.2.2.2.2.1 h) fK5 rfl hA1 (by omega) fw_1276 fw_1273 fw_1275 fwp_42 fw_10 ⟨rfl, by decide, by decide, by decide +kernel⟩ (na := 1) rfl (by decide) (Nat.le_of_ble_eq_true rfl) dX4_reserve_10 rfl (fun rv S4 n5 hp => ?_)
  obtain ⟨v3, rfl, h⟩ := hp
  refine fV_if_ne (tgt := 18) hF dX4_reserve_13 (by decide) (fun c6 => ?_) (fun c6 => ?_)
  · have h := h.1 c6
    refine fV_aload_n hF dX4_reserve_18 rfl rfl ?_
    refine fV_iload_n hF dX4_reserve_19 rfl rfl ?_
    refine fV_iload_n hF dX4_reserve_20 rfl rfl ?_
    refine fV_iload hF dX4_reserve_21 rfl ?_
    obtain ⟨hA7, h⟩ := h
    refine fV_callV (k := 5) (As := [(aI p1), (aI p3), (aI p4)]) hF (mc_X4_spanOf hF.2.2.2.2.2.2.2.2.1 h) fK5 rfl hA7 (by omega) fw_1465 fw_1462 fw_1464 fwp_71 fw_10 ⟨rfl, by decide, by decide, by decide +kernel⟩ (na := 3) rfl (by decide) (Nat.le_of_ble_eq_true rfl) dX4_reserve_23 rfl (fun rv S9 n9 hp => ?_)
    obtain ⟨v8, rfl, rfl, rfl, h⟩ := hp
    refine fV_istore0 hF [some (aR (some o)), some (aI p1), some (aI p2), some (aI p3), some (aI p4), some (aI v8), none] dX4_reserve_26 (by rw [hxn]; decide) rfl rfl ?_
    refine fV_iload hF dX4_reserve_28 rfl ?_
    refine fV_iconst (v := -1) hF dX4_reserve_30 (by decide) ?_
    refine fV_icmp_ne (tgt := 83) hF dX4_reserve_31 (by decide) (fun c9 => ?_) (fun c9 => ?_)
    · have h := h.1 c9
      refine fV.sub (l' := [some (aR (some o)), some (aI p1), some (aI p2), some (aI p3), some (aI p4), some (aI v8), none]) ⟨rfl, ⟨rfl, ⟨rfl, ⟨rfl, ⟨rfl, ⟨rfl, trivial⟩⟩⟩⟩⟩⟩ ?_
      exact mB_X4_reserve_83 hlv hF hxn hr hE  S4 n5 v8 h
    · have h := h.2 c9
      refine fV_aload_n hF dX4_reserve_34 rfl rfl ?_
      refine fV_getI (k := 5) (i := 22) hF fK5 rfl hA7 (by decide) fw_1177 (Or.inl rfl) rfl dX4_reserve_35 ?_
      refine fV_istore hF (fun y => [some (aR (some o)), some (aI p1), some (aI p2), some (aI p3), some (aI p4), some (aI y), none]) dX4_reserve_38 (by rw [hxn]; decide) rfl (fun _ => rfl) (fun v10 ev10 => ?_)
      have h := h v10 ev10
      refine fV_aload_n hF dX4_reserve_40 rfl rfl ?_
      refine fV_getR (k := 5) (i := 23) hF fK5 rfl hA7 (by decide) fw_1178 (Or.inl rfl) rfl dX4_reserve_41 ?_
      refine fV_iload hF dX4_reserve_44 rfl ?_
      refine fV_iload_n hF dX4_reserve_46 rfl rfl ?_
      obtain ⟨a11, e12, hA13, h⟩ := h
      obtain ⟨hix14, h⟩ := h
      refine fV_iast hF e12 hA13 hix14 dX4_reserve_47 ?_
      refine fV_aload_n hF dX4_reserve_48 rfl rfl ?_
      refine fV_getR (k := 5) (i := 24) hF fK5 rfl hA7 (by decide) fw_1179 (Or.inl rfl) rfl dX4_reserve_49 ?_
      refine fV_iload hF dX4_reserve_52 rfl ?_
      refine fV_iconst (v := 0) hF dX4_reserve_54 (by decide) ?_
      obtain ⟨a15, e16, hA17, h⟩ := h
      obtain ⟨hix18, h⟩ := h
      refine fV_iast hF e16 hA17 hix18 dX4_reserve_55 ?_
      refine fV_aload_n hF dX4_reserve_56 rfl rfl ?_
      refine fV_getR (k := 5) (i := 25) hF fK5 rfl hA7 (by decide) fw_1180 (Or.inl rfl) rfl dX4_reserve_57 ?_
      refine fV_iload hF dX4_reserve_60 rfl ?_
      refine fV_iload_n hF dX4_reserve_62 rfl rfl ?_
      obtain ⟨a19, e20, hA21, h⟩ := h
      obtain ⟨hix22, h⟩ := h
      refine fV_iast hF e20 hA21 hix22 dX4_reserve_63 ?_
      refine fV_aload_n hF dX4_reserve_64 rfl rfl ?_
      refine fV_getR (k := 5) (i := 26) hF fK5 rfl hA7 (by decide) fw_1181 (Or.inl rfl) rfl dX4_reserve_65 ?_
      refine fV_iload hF dX4_reserve_68 rfl ?_
      refine fV_iload hF dX4_reserve_70 rfl ?_
      obtain ⟨a23, e24, hA25, h⟩ := h
      obtain ⟨hix26, h⟩ := h
      refine fV_iast hF e24 hA25 hix26 dX4_reserve_72 ?_
      refine fV_aload_n hF dX4_reserve_73 rfl rfl ?_
      refine fV_dup hF dX4_reserve_74 rfl ?_
      refine fV_getI (k := 5) (i := 22) hF fK5 rfl hA7 (by decide) fw_1177 (Or.inl rfl) rfl dX4_reserve_75 ?_
      refine fV_iconst (v := 1) hF dX4_reserve_78 (by decide) ?_
      refine fV_iadd hF dX4_reserve_79 ?_
      refine fV_putI (k := 5) (i := 22) hF fK5 tyX4_ok nmX4 rfl hA7 (by decide) rfl fw_1177 (Or.inl rfl) (Or.inl rfl) rfl rfl dX4_reserve_80 ?_
      refine fV.sub (l' := [some (aR (some o)), some (aI p1), some (aI p2), some (aI p3), some (aI p4), some (aI v10), none]) ⟨rfl, ⟨rfl, ⟨rfl, ⟨rfl, ⟨rfl, ⟨rfl, trivial⟩⟩⟩⟩⟩⟩ ?_
      exact mB_X4_reserve_83 hlv hF hxn hr hE  (wI (wI (wI (wI (wI S4 a11 (Int32.toNatClampNeg v10) p1) a15 (Int32.toNatClampNeg v10) (0 : Int32)) a19 (Int32.toNatClampNeg v10) p3) a23 (Int32.toNatClampNeg v10) p4) o 22 ((sI (wI (wI (wI (wI S4 a11 (Int32.toNatClampNeg v10) p1) a15 (Int32.toNatClampNeg v10) (0 : Int32)) a19 (Int32.toNatClampNeg v10) p3) a23 (Int32.toNatClampNeg v10) p4) o 22) + (1 : Int32))) n5 v10 h
  · have h := h.2 c6
    refine fV_iconst (v := 0) hF dX4_reserve_16 (by decide) ?_
    exact fV_iret hF hE.s (by omega) hr rfl dX4_reserve_17 ⟨_, rfl, h⟩
set_option maxRecDepth 100000 in
set_option maxHeartbeats 4000000 in
theorem mB_X4_drop_52 {F : fX} {lv : Nat} (hlv : 17 ≤ lv) (hF : fOk F cX4_drop RX4 lv) (hxn : xn F = 7) (hr : (xM F).sig.returnType = (some .int)) {post : Int32 → fMS → Nat → Prop} {o : Nat} {p1 : Int32} {p2 : Int32} {p3 : Int32} (hE : fEnd F lv (fPI post)) : ∀ (f : Nat) (S : fMS) (n : Nat) (x5 : Int32) (x6 : Int32) (h : wB_X4_drop_52 post o p1 p2 p3 f S n x5 x6), fV F S n 52 [some (aR (some o)), some (aI p1), some (aI p2), some (aI p3), none, some (aI x5), some (aI x6)] [] := by
  intro f
  induction f with
  | zero => intro _ _ _ _ h; exact h.elim
  | succ f ih =>
    intro S n x5 x6 h
    simp only [wB_X4_drop_52] at h
    refine fV_iload hF dX4_drop_52 rfl ?_
    refine fV_aload_n hF dX4_drop_54 rfl rfl ?_
    obtain ⟨hA1, h⟩ := h
    refine fV_getI (k := 5) (i := 22) hF fK5 rfl hA1 (by decide) fw_1177 (Or.inl rfl) rfl dX4_drop_55 ?_
    refine fV_icmp_ge (tgt := 131) hF dX4_drop_58 (by decide) (fun c2 => ?_) (fun c2 => ?_)
    · have h := h.1 c2
      refine fV_aload_n hF dX4_drop_131 rfl rfl ?_
      refine fV_callV (k := 5) (As := []) hF (mc_X4_serves hF.2.2.2.2.2.2.2.2.1 h) fK5 rfl hA1 (by omega) fw_1280 fw_1277 fw_1279 fwp_43 fw_10 ⟨rfl, by decide, by decide, by decide +kernel⟩ (na := 0) rfl (by decide) (Nat.le_of_ble_eq_true rfl) dX4_drop_132 rfl (fun rv S3 n4 hp => ?_)
      obtain ⟨rfl, h⟩ := hp
      refine fV_iload hF dX4_drop_135 rfl ?_
      exact fV_iret hF hE.s (by omega) hr rfl dX4_drop_137 ⟨_, rfl, h⟩
    · have h := h.2 c2
      refine fV_aload_n hF dX4_drop_61 rfl rfl ?_
      refine fV_getR (k := 5) (i := 23) hF fK5 rfl hA1 (by decide) fw_1178 (Or.inl rfl) rfl dX4_drop_62 ?_
      refine fV_iload hF dX4_drop_65 rfl ?_
      refine fV_aload_n hF dX4_drop_67 rfl rfl ?_
      refine fV_getR (k := 5) (i := 23) hF fK5 rfl hA1 (by decide) fw_1178 (Or.inl rfl) rfl dX4_drop_68 ?_
      refine fV_iload hF dX4_drop_71 rfl ?_
      refine fV_iconst (v := 1) hF dX4_drop_73 (by decide) ?_
      refine fV_iadd hF dX4_drop_74 ?_
      obtain ⟨a5, e6, hA7, h⟩ := h
      obtain ⟨hix8, h⟩ := h
      refine fV_iald hF e6 hA7 hix8 dX4_drop_75 ?_
      obtain ⟨hix9, h⟩ := h
      refine fV_iast hF e6 hA7 hix9 dX4_drop_76 ?_
      refine fV_aload_n hF dX4_drop_77 rfl rfl ?_
      refine fV_getR (k := 5) (i := 24) hF fK5 rfl hA1 (by decide) fw_1179 (Or.inl rfl) rfl dX4_drop_78 ?_
      refine fV_iload hF dX4_drop_81 rfl ?_
      refine fV_aload_n hF dX4_drop_83 rfl rfl ?_
      refine fV_getR (k := 5) (i := 24) hF fK5 rfl hA1 (by decide) fw_1179 (Or.inl rfl) rfl dX4_drop_84 ?_
      refine fV_iload hF dX4_drop_87 rfl ?_
      refine fV_iconst (v := 1) hF dX4_drop_89 (by decide) ?_
      refine fV_iadd hF dX4_drop_90 ?_
      obtain ⟨a10, e11, hA12, h⟩ := h
      obtain ⟨hix13, h⟩ := h
      refine fV_iald hF e11 hA12 hix13 dX4_drop_91 ?_
      obtain ⟨hix14, h⟩ := h
      refine fV_iast hF e11 hA12 hix14 dX4_drop_92 ?_
      refine fV_aload_n hF dX4_drop_93 rfl rfl ?_
      refine fV_getR (k := 5) (i := 25) hF fK5 rfl hA1 (by decide) fw_1180 (Or.inl rfl) rfl dX4_drop_94 ?_
      refine fV_iload hF dX4_drop_97 rfl ?_
      refine fV_aload_n hF dX4_drop_99 rfl rfl ?_
      refine fV_getR (k := 5) (i := 25) hF fK5 rfl hA1 (by decide) fw_1180 (Or.inl rfl) rfl dX4_drop_100 ?_
      refine fV_iload hF dX4_drop_103 rfl ?_
      refine fV_iconst (v := 1) hF dX4_drop_105 (by decide) ?_
      refine fV_iadd hF dX4_drop_106 ?_
      obtain ⟨a15, e16, hA17, h⟩ := h
      obtain ⟨hix18, h⟩ := h
      refine fV_iald hF e16 hA17 hix18 dX4_drop_107 ?_
      obtain ⟨hix19, h⟩ := h
      refine fV_iast hF e16 hA17 hix19 dX4_drop_108 ?_
      refine fV_aload_n hF dX4_drop_109 rfl rfl ?_
      refine fV_getR (k := 5) (i := 26) hF fK5 rfl hA1 (by decide) fw_1181 (Or.inl rfl) rfl dX4_drop_110 ?_
      refine fV_iload hF dX4_drop_113 rfl ?_
      refine fV_aload_n hF dX4_drop_115 rfl rfl ?_
      refine fV_getR (k := 5) (i := 26) hF fK5 rfl hA1 (by decide) fw_1181 (Or.inl rfl) rfl dX4_drop_116 ?_
      refine fV_iload hF dX4_drop_119 rfl ?_
      refine fV_iconst (v := 1) hF dX4_drop_121 (by decide) ?_
      refine fV_iadd hF dX4_drop_122 ?_
      obtain ⟨a20, e21, hA22, h⟩ := h
      obtain ⟨hix23, h⟩ := h
      refine fV_iald hF e21 hA22 hix23 dX4_drop_123 ?_
      obtain ⟨hix24, h⟩ := h
      refine fV_iast hF e21 hA22 hix24 dX4_drop_124 ?_
      refine fV_iinc (v := 1) hF (fun y => [some (aR (some o)), some (aI p1), some (aI p2), some (aI p3), none, some (aI x5), some (aI y)]) dX4_drop_125 rfl (by decide) (by rw [hxn]; decide) rfl (fun _ => rfl) (fun v25 ev25 => ?_)
      have h := h v25 ev25
      refine fV_goto (tgt := 52) hF dX4_drop_128 (by decide) ?_
      refine fV.sub (l' := [some (aR (some o)), some (aI p1), some (aI p2), some (aI p3), none, some (aI x5), some (aI v25)]) ⟨rfl, ⟨rfl, ⟨rfl, ⟨rfl, ⟨rfl, ⟨rfl, trivial⟩⟩⟩⟩⟩⟩ ?_
      exact ih (wI (wI (wI (wI S a5 (Int32.toNatClampNeg x6) (sI S a5 (Int32.toNatClampNeg (x6 + (1 : Int32))))) a10 (Int32.toNatClampNeg x6) (sI (wI S a5 (Int32.toNatClampNeg x6) (sI S a5 (Int32.toNatClampNeg (x6 + (1 : Int32))))) a10 (Int32.toNatClampNeg (x6 + (1 : Int32))))) a15 (Int32.toNatClampNeg x6) (sI (wI (wI S a5 (Int32.toNatClampNeg x6) (sI S a5 (Int32.toNatClampNeg (x6 + (1 : Int32))))) a10 (Int32.toNatClampNeg x6) (sI (wI S a5 (Int32.toNatClampNeg x6) (sI S a5 (Int32.toNatClampNeg (x6 + (1 : Int32))))) a10 (Int32.toNatClampNeg (x6 + (1 : Int32))))) a15 (Int32.toNatClampNeg (x6 + (1 : Int32))))) a20 (Int32.toNatClampNeg x6) (sI (wI (wI (wI S a5 (Int32.toNatClampNeg x6) (sI S a5 (Int32.toNatClampNeg (x6 + (1 : Int32))))) a10 (Int32.toNatClampNeg x6) (sI (wI S a5 (Int32.toNatClampNeg x6) (sI S a5 (Int32.toNatClampNeg (x6 + (1 : Int32))))) a10 (Int32.toNatClampNeg (x6 + (1 : Int32))))) a15 (Int32.toNatClampNeg x6) (sI (wI (wI S a5 (Int32.toNatClampNeg x6) (sI S a5 (Int32.toNatClampNeg (x6 + (1 : Int32))))) a10 (Int32.toNatClampNeg x6) (sI (wI S a5 (Int32.toNatClampNeg x6) (sI S a5 (Int32.toNatClampNeg (x6 + (1 : Int32))))) a10 (Int32.toNatClampNeg (x6 + (1 : Int32))))) a15 (Int32.toNatClampNeg (x6 + (1 : Int32))))) a20 (Int32.toNatClampNeg (x6 + (1 : Int32))))) n x5 v25 h
set_option maxRecDepth 100000 in
set_option maxHeartbeats 4000000 in
theorem mB_X4_drop_21 {F : fX} {lv : Nat} (hlv : 17 ≤ lv) (hF : fOk F cX4_drop RX4 lv) (hxn : xn F = 7) (hr : (xM F).sig.returnType = (some .int)) {post : Int32 → fMS → Nat → Prop} {o : Nat} {p1 : Int32} {p2 : Int32} {p3 : Int32} (hE : fEnd F lv (fPI post)) (S : fMS) (n : Nat) (x4 : Int32) (y0 : Option Nat) (y1 : Int32) (h : wB_X4_drop_21 post o p1 p2 p3 S n x4 y0 y1) : fV F S n 21 [some (aR (some o)), some (aI p1), some (aI p2), some (aI p3), some (aI x4), none, none] [(aI y1), (aR y0)] := by
  unfold wB_X4_drop_21 at h
  obtain ⟨a1, e2, hA3, h⟩ := h
  refine fV_callV (k := 5) (As := [(aI y1)]) hF (mc_X4_goesOn hF.2.2.2.2.2.2.2.2.1 h) fK5 e2 hA3 (by omega) fw_1276 fw_1273 fw_1275 fwp_42 fw_10 ⟨rfl, by decide, by decide, by decide +kernel⟩ (na := 1) rfl (by decide) (Nat.le_of_ble_eq_true rfl) dX4_drop_21 rfl (fun rv S5 n6 hp => ?_)
  obtain ⟨v4, rfl, h⟩ := hp
  refine fV_if_ne (tgt := 29) hF dX4_drop_24 (by decide) (fun c7 => ?_) (fun c7 => ?_)
  · have h := h.1 c7
    refine fV_aload_n hF dX4_drop_29 rfl rfl ?_
    obtain ⟨hA8, h⟩ := h
    refine fV_getR (k := 5) (i := 24) hF fK5 rfl hA8 (by decide) fw_1179 (Or.inl rfl) rfl dX4_drop_30 ?_
    refine fV_iload hF dX4_drop_33 rfl ?_
    obtain ⟨a9, e10, hA11, h⟩ := h
    obtain ⟨hix12, h⟩ := h
    refine fV_iald hF e10 hA11 hix12 dX4_drop_35 ?_
    refine fV_istore hF (fun y => [some (aR (some o)), some (aI p1), some (aI p2), some (aI p3), some (aI x4), some (aI y), none]) dX4_drop_36 (by rw [hxn]; decide) rfl (fun _ => rfl) (fun v13 ev13 => ?_)
    have h := h v13 ev13
    refine fV_aload_n hF dX4_drop_38 rfl rfl ?_
    refine fV_dup hF dX4_drop_39 rfl ?_
    refine fV_getI (k := 5) (i := 22) hF fK5 rfl hA8 (by decide) fw_1177 (Or.inl rfl) rfl dX4_drop_40 ?_
    refine fV_iconst (v := 1) hF dX4_drop_43 (by decide) ?_
    refine fV_isub hF dX4_drop_44 ?_
    refine fV_putI (k := 5) (i := 22) hF fK5 tyX4_ok nmX4 rfl hA8 (by decide) rfl fw_1177 (Or.inl rfl) (Or.inl rfl) rfl rfl dX4_drop_45 ?_
    refine fV_iload hF dX4_drop_48 rfl ?_
    refine fV_istore0 hF [some (aR (some o)), some (aI p1), some (aI p2), some (aI p3), some (aI x4), some (aI v13), some (aI x4)] dX4_drop_50 (by rw [hxn]; decide) rfl rfl ?_
    obtain ⟨f1, h⟩ := h
    refine fV.sub (l' := [some (aR (some o)), some (aI p1), some (aI p2), some (aI p3), none, some (aI v13), some (aI x4)]) ⟨rfl, ⟨rfl, ⟨rfl, ⟨rfl, ⟨rfl, ⟨rfl, trivial⟩⟩⟩⟩⟩⟩ ?_
    exact mB_X4_drop_52 hlv hF hxn hr hE  f1 (wI S5 o 22 ((sI S5 o 22) - (1 : Int32))) n6 v13 x4 h
  · have h := h.2 c7
    refine fV_iconst (v := 0) hF dX4_drop_27 (by decide) ?_
    exact fV_iret hF hE.s (by omega) hr rfl dX4_drop_28 ⟨_, rfl, h⟩
set_option maxRecDepth 100000 in
set_option maxHeartbeats 4000000 in
theorem mc_X4_drop {l : Launch} (hfl : l.stackTraces = false) {G : fG} {S : fMS} {n : Nat} {o : Nat} {p1 : Int32} {p2 : Int32} {p3 : Int32} {post : Int32 → fMS → Nat → Prop} (h : wp_X4_drop S n o p1 p2 p3 post) : fCM l yX4_drop (.code yX4_drop cX4_drop 7 (some .int)) 17 G [(aR (some o)), (aI p1), (aI p2), (aI p3)] S n (fPI post) := by
  refine fCM_of hfl (by decide) (by intro v hv; simp only [List.mem_cons, List.not_mem_nil, or_false] at hv; rcases hv with rfl | rfl | rfl | rfl <;> rfl) (Nat.le_of_ble_eq_true rfl) (fun F hF hxn hl hG hr hin hE => ?_)
  subst hl hG
  have hlv : 17 ≤ 17 := Nat.le_refl _
  show fV F S n 0 [some (aR (some o)), some (aI p1), some (aI p2), some (aI p3), none, none, none] []
  unfold wp_X4_drop at h
  refine fV_aload_n hF dX4_drop_0 rfl rfl ?_
  refine fV_iload_n hF dX4_drop_1 rfl rfl ?_
  refine fV_iload_n hF dX4_drop_2 rfl rfl ?_
  refine fV_iload_n hF dX4_drop_3 rfl rfl ?_
  obtain ⟨hA1, h⟩ := h
  refine fV_callV (k := 5) (As := [(aI p1), (aI p2), (aI p3)]) hF (mc_X4_spanOf hF.2.2.2.2.2.2.2.2.1 h) fK5 rfl hA1 (by omega) fw_1465 fw_1462 fw_1464 fwp_71 fw_10 ⟨rfl, by decide, by decide, by decide +kernel⟩ (na := 3) rfl (by decide) (Nat.le_of_ble_eq_true rfl) dX4_drop_4 rfl (fun rv S9 n9 hp => ?_)
  obtain ⟨v2, rfl, rfl, rfl, h⟩ := hp
  refine fV_istore0 hF [some (aR (some o)), some (aI p1), some (aI p2), some (aI p3), some (aI v2), none, none] dX4_drop_7 (by rw [hxn]; decide) rfl rfl ?_
  refine fV_aload_n hF dX4_drop_9 rfl rfl ?_
  refine fV_iload hF dX4_drop_10 rfl ?_
  refine fV_iconst (v := -1) hF dX4_drop_12 (by decide) ?_
  refine fV_icmp_ne (tgt := 20) hF dX4_drop_13 (by decide) (fun c3 => ?_) (fun c3 => ?_)
  · have h := h.1 c3
    refine fV_iconst (v := 0) hF dX4_drop_20 (by decide) ?_
    refine fV.sub (l' := [some (aR (some o)), some (aI p1), some (aI p2), some (aI p3), some (aI v2), none, none]) ⟨rfl, ⟨rfl, ⟨rfl, ⟨rfl, ⟨rfl, trivial⟩⟩⟩⟩⟩ ?_
    exact mB_X4_drop_21 hlv hF hxn hr hE  S n v2 (some o) (0 : Int32) h
  · have h := h.2 c3
    refine fV_iconst (v := 1) hF dX4_drop_16 (by decide) ?_
    refine fV_goto (tgt := 21) hF dX4_drop_17 (by decide) ?_
    refine fV.sub (l' := [some (aR (some o)), some (aI p1), some (aI p2), some (aI p3), some (aI v2), none, none]) ⟨rfl, ⟨rfl, ⟨rfl, ⟨rfl, ⟨rfl, trivial⟩⟩⟩⟩⟩ ?_
    exact mB_X4_drop_21 hlv hF hxn hr hE  S n v2 (some o) (1 : Int32) h
set_option maxRecDepth 100000 in
set_option maxHeartbeats 4000000 in
theorem mc_X4_reserved {l : Launch} (hfl : l.stackTraces = false) {G : fG} {S : fMS} {n : Nat} {o : Nat} {p1 : Int32} {post : Int32 → fMS → Nat → Prop} (h : wp_X4_reserved S n o p1 post) : fCM l yX4_reserved (.code yX4_reserved cX4_reserved 2 (some .int)) 4 G [(aR (some o)), (aI p1)] S n (fPI post) := by
  refine fCM_of hfl (by decide) (by intro v hv; simp only [List.mem_cons, List.not_mem_nil, or_false] at hv; rcases hv with rfl | rfl <;> rfl) (Nat.le_of_ble_eq_true rfl) (fun F hF hxn hl hG hr hin hE => ?_)
  subst hl hG
  have hlv : 4 ≤ 4 := Nat.le_refl _
  show fV F S n 0 [some (aR (some o)), some (aI p1)] []
  unfold wp_X4_reserved at h
  refine fV_aload_n hF dX4_reserved_0 rfl rfl ?_
  refine fV_aload_n hF dX4_reserved_1 rfl rfl ?_
  refine fV_iload_n hF dX4_reserved_2 rfl rfl ?_
  obtain ⟨hA1, h⟩ := h
  refine fV_callV (k := 5) (As := [(aI p1)]) hF (mc_X4_leafFault hF.2.2.2.2.2.2.2.2.1 h) fK5 rfl hA1 (by omega) fw_1449 fw_1446 fw_1448 fwp_69 fw_10 ⟨rfl, by decide, by decide, by decide +kernel⟩ (na := 1) rfl (by decide) (Nat.le_of_ble_eq_true rfl) dX4_reserved_3 rfl (fun rv S9 n9 hp => ?_)
  obtain ⟨v2, rfl, rfl, rfl, h⟩ := hp
  refine fV_callV (k := 5) (As := [(aI v2)]) hF (mc_X4_goesOn hF.2.2.2.2.2.2.2.2.1 h) fK5 rfl hA1 (by omega) fw_1276 fw_1273 fw_1275 fwp_42 fw_10 ⟨rfl, by decide, by decide, by decide +kernel⟩ (na := 1) rfl (by decide) (Nat.le_of_ble_eq_true rfl) dX4_reserved_6 rfl (fun rv S4 n5 hp => ?_)
  obtain ⟨v3, rfl, h⟩ := hp
  refine fV_if_eq (tgt := 20) hF dX4_reserved_9 (by decide) (fun c6 => ?_) (fun c6 => ?_)
  · have h := h.1 c6
    refine fV_iconst (v := 0) hF dX4_reserved_20 (by decide) ?_
    exact fV_iret hF hE.s (by omega) hr rfl dX4_reserved_21 ⟨_, rfl, h⟩
  · have h := h.2 c6
    refine fV_aload_n hF dX4_reserved_12 rfl rfl ?_
    refine fV_iload_n hF dX4_reserved_13 rfl rfl ?_
    obtain ⟨hA7, h⟩ := h
    refine fV_callV (k := 5) (As := [(aI p1)]) hF (mc_X4_reservedFor hF.2.2.2.2.2.2.2.2.1 h) fK5 rfl hA7 (by omega) fw_1332 fw_1329 fw_1331 fwp_56 fw_10 ⟨rfl, by decide, by decide, by decide +kernel⟩ (na := 1) rfl (by decide) (Nat.le_of_ble_eq_true rfl) dX4_reserved_14 rfl (fun rv S9 n9 hp => ?_)
    obtain ⟨v8, rfl, rfl, rfl, h⟩ := hp
    refine fV_goto (tgt := 21) hF dX4_reserved_17 (by decide) ?_
    exact fV_iret hF hE.s (by omega) hr rfl dX4_reserved_21 ⟨_, rfl, h⟩
set_option maxRecDepth 100000 in
set_option maxHeartbeats 4000000 in
theorem mB_X4_running_14 {F : fX} {lv : Nat} (hlv : 3 ≤ lv) (hF : fOk F cX4_running RX4 lv) (hxn : xn F = 2) (hr : (xM F).sig.returnType = (some .int)) {post : Int32 → fMS → Nat → Prop} {o : Nat} {p1 : Int32} (hE : fEnd F lv (fPI post)) (S : fMS) (n : Nat) (y0 : Option Nat) (y1 : Int32) (h : wB_X4_running_14 post o p1 S n y0 y1) : fV F S n 14 [some (aR (some o)), some (aI p1)] [(aI y1), (aR y0)] := by
  unfold wB_X4_running_14 at h
  obtain ⟨a1, e2, hA3, h⟩ := h
  refine fV_callV (k := 5) (As := [(aI y1)]) hF (mc_X4_goesOn hF.2.2.2.2.2.2.2.2.1 h) fK5 e2 hA3 (by omega) fw_1276 fw_1273 fw_1275 fwp_42 fw_10 ⟨rfl, by decide, by decide, by decide +kernel⟩ (na := 1) rfl (by decide) (Nat.le_of_ble_eq_true rfl) dX4_running_14 rfl (fun rv S5 n6 hp => ?_)
  obtain ⟨v4, rfl, h⟩ := hp
  refine fV_if_eq (tgt := 29) hF dX4_running_17 (by decide) (fun c7 => ?_) (fun c7 => ?_)
  · have h := h.1 c7
    refine fV_iconst (v := 0) hF dX4_running_29 (by decide) ?_
    exact fV_iret hF hE.s (by omega) hr rfl dX4_running_30 ⟨_, rfl, h⟩
  · have h := h.2 c7
    refine fV_aload_n hF dX4_running_20 rfl rfl ?_
    obtain ⟨hA8, h⟩ := h
    refine fV_getR (k := 5) (i := 10) hF fK5 rfl hA8 (by decide) fw_1165 (Or.inl rfl) rfl dX4_running_21 ?_
    refine fV_iload_n hF dX4_running_24 rfl rfl ?_
    obtain ⟨a9, e10, hA11, h⟩ := h
    obtain ⟨hix12, h⟩ := h
    refine fV_iald hF e10 hA11 hix12 dX4_running_25 ?_
    refine fV_goto (tgt := 30) hF dX4_running_26 (by decide) ?_
    exact fV_iret hF hE.s (by omega) hr rfl dX4_running_30 ⟨_, rfl, h⟩
set_option maxRecDepth 100000 in
set_option maxHeartbeats 4000000 in
theorem mc_X4_running {l : Launch} (hfl : l.stackTraces = false) {G : fG} {S : fMS} {n : Nat} {o : Nat} {p1 : Int32} {post : Int32 → fMS → Nat → Prop} (h : wp_X4_running S n o p1 post) : fCM l yX4_running (.code yX4_running cX4_running 2 (some .int)) 3 G [(aR (some o)), (aI p1)] S n (fPI post) := by
  refine fCM_of hfl (by decide) (by intro v hv; simp only [List.mem_cons, List.not_mem_nil, or_false] at hv; rcases hv with rfl | rfl <;> rfl) (Nat.le_of_ble_eq_true rfl) (fun F hF hxn hl hG hr hin hE => ?_)
  subst hl hG
  have hlv : 3 ≤ 3 := Nat.le_refl _
  show fV F S n 0 [some (aR (some o)), some (aI p1)] []
  unfold wp_X4_running at h
  refine fV_aload_n hF dX4_running_0 rfl rfl ?_
  refine fV_aload_n hF dX4_running_1 rfl rfl ?_
  refine fV_iload_n hF dX4_running_2 rfl rfl ?_
  obtain ⟨hA1, h⟩ := h
  refine fV_callV (k := 5) (As := [(aI p1)]) hF (mc_X4_isTeam hF.2.2.2.2.2.2.2.2.1 h) fK5 rfl hA1 (by omega) fw_1269 fw_1266 fw_1268 fwp_41 fw_10 ⟨rfl, by decide, by decide, by decide +kernel⟩ (na := 1) rfl (by decide) (Nat.le_of_ble_eq_true rfl) dX4_running_3 rfl (fun rv S9 n9 hp => ?_)
  obtain ⟨v2, rfl, rfl, rfl, h⟩ := hp
  refine fV_if_eq (tgt := 13) hF dX4_running_6 (by decide) (fun c3 => ?_) (fun c3 => ?_)
  · have h := h.1 c3
    refine fV_iconst (v := 1) hF dX4_running_13 (by decide) ?_
    refine fV.sub (l' := [some (aR (some o)), some (aI p1)]) ⟨rfl, ⟨rfl, trivial⟩⟩ ?_
    exact mB_X4_running_14 hlv hF hxn hr hE  S n (some o) (1 : Int32) h
  · have h := h.2 c3
    refine fV_iconst (v := 0) hF dX4_running_9 (by decide) ?_
    refine fV_goto (tgt := 14) hF dX4_running_10 (by decide) ?_
    refine fV.sub (l' := [some (aR (some o)), some (aI p1)]) ⟨rfl, ⟨rfl, trivial⟩⟩ ?_
    exact mB_X4_running_14 hlv hF hxn hr hE  S n (some o) (0 : Int32) h
set_option maxRecDepth 100000 in
set_option maxHeartbeats 4000000 in
theorem mB_X4_demand_14 {F : fX} {lv : Nat} (hlv : 15 ≤ lv) (hF : fOk F cX4_demand RX4 lv) (hxn : xn F = 2) (hr : (xM F).sig.returnType = (some .int)) {post : Int32 → fMS → Nat → Prop} {o : Nat} {p1 : Int32} (hE : fEnd F lv (fPI post)) (S : fMS) (n : Nat) (y0 : Option Nat) (y1 : Int32) (h : wB_X4_demand_14 post o p1 S n y0 y1) : fV F S n 14 [some (aR (some o)), some (aI p1)] [(aI y1), (aR y0)] := by
  unfold wB_X4_demand_14 at h
  obtain ⟨a1, e2, hA3, h⟩ := h
  refine fV_callV (k := 5) (As := [(aI y1)]) hF (mc_X4_goesOn hF.2.2.2.2.2.2.2.2.1 h) fK5 e2 hA3 (by omega) fw_1276 fw_1273 fw_1275 fwp_42 fw_10 ⟨rfl, by decide, by decide, by decide +kernel⟩ (na := 1) rfl (by decide) (Nat.le_of_ble_eq_true rfl) dX4_demand_14 rfl (fun rv S5 n6 hp => ?_)
  obtain ⟨v4, rfl, h⟩ := hp
  refine fV_if_eq (tgt := 28) hF dX4_demand_17 (by decide) (fun c7 => ?_) (fun c7 => ?_)
  · have h := h.1 c7
    refine fV_iconst (v := 0) hF dX4_demand_28 (by decide) ?_
    exact fV_iret hF hE.s (by omega) hr rfl dX4_demand_29 ⟨_, rfl, h⟩
  · have h := h.2 c7
    refine fV_aload_n hF dX4_demand_20 rfl rfl ?_
    refine fV_iload_n hF dX4_demand_21 rfl rfl ?_
    obtain ⟨hA8, h⟩ := h
    refine fV_callV (k := 5) (As := [(aI p1)]) hF (mc_X4_demandOf 11 hF.2.2.2.2.2.2.2.2.1 h) fK5 rfl hA8 (by omega) fw_1288 fw_1285 fw_1287 fwp_45 fw_10 ⟨rfl, by decide, by decide, by decide +kernel⟩ (na := 1) rfl (by decide) (Nat.le_of_ble_eq_true rfl) dX4_demand_22 rfl (fun rv S9 n9 hp => ?_)
    obtain ⟨v9, rfl, rfl, rfl, h⟩ := hp
    refine fV_goto (tgt := 29) hF dX4_demand_25 (by decide) ?_
    exact fV_iret hF hE.s (by omega) hr rfl dX4_demand_29 ⟨_, rfl, h⟩
set_option maxRecDepth 100000 in
set_option maxHeartbeats 4000000 in
theorem mc_X4_demand {l : Launch} (hfl : l.stackTraces = false) {G : fG} {S : fMS} {n : Nat} {o : Nat} {p1 : Int32} {post : Int32 → fMS → Nat → Prop} (h : wp_X4_demand S n o p1 post) : fCM l yX4_demand (.code yX4_demand cX4_demand 2 (some .int)) 15 G [(aR (some o)), (aI p1)] S n (fPI post) := by
  refine fCM_of hfl (by decide) (by intro v hv; simp only [List.mem_cons, List.not_mem_nil, or_false] at hv; rcases hv with rfl | rfl <;> rfl) (Nat.le_of_ble_eq_true rfl) (fun F hF hxn hl hG hr hin hE => ?_)
  subst hl hG
  have hlv : 15 ≤ 15 := Nat.le_refl _
  show fV F S n 0 [some (aR (some o)), some (aI p1)] []
  unfold wp_X4_demand at h
  refine fV_aload_n hF dX4_demand_0 rfl rfl ?_
  refine fV_aload_n hF dX4_demand_1 rfl rfl ?_
  refine fV_iload_n hF dX4_demand_2 rfl rfl ?_
  obtain ⟨hA1, h⟩ := h
  refine fV_callV (k := 5) (As := [(aI p1)]) hF (mc_X4_isTeam hF.2.2.2.2.2.2.2.2.1 h) fK5 rfl hA1 (by omega) fw_1269 fw_1266 fw_1268 fwp_41 fw_10 ⟨rfl, by decide, by decide, by decide +kernel⟩ (na := 1) rfl (by decide) (Nat.le_of_ble_eq_true rfl) dX4_demand_3 rfl (fun rv S9 n9 hp => ?_)
  obtain ⟨v2, rfl, rfl, rfl, h⟩ := hp
  refine fV_if_eq (tgt := 13) hF dX4_demand_6 (by decide) (fun c3 => ?_) (fun c3 => ?_)
  · have h := h.1 c3
    refine fV_iconst (v := 1) hF dX4_demand_13 (by decide) ?_
    refine fV.sub (l' := [some (aR (some o)), some (aI p1)]) ⟨rfl, ⟨rfl, trivial⟩⟩ ?_
    exact mB_X4_demand_14 hlv hF hxn hr hE  S n (some o) (1 : Int32) h
  · have h := h.2 c3
    refine fV_iconst (v := 0) hF dX4_demand_9 (by decide) ?_
    refine fV_goto (tgt := 14) hF dX4_demand_10 (by decide) ?_
    refine fV.sub (l' := [some (aR (some o)), some (aI p1)]) ⟨rfl, ⟨rfl, trivial⟩⟩ ?_
    exact mB_X4_demand_14 hlv hF hxn hr hE  S n (some o) (0 : Int32) h
set_option maxRecDepth 100000 in
set_option maxHeartbeats 4000000 in
theorem mB_X4_share_18 {F : fX} {lv : Nat} (hlv : 16 ≤ lv) (hF : fOk F cX4_share RX4 lv) (hxn : xn F = 2) (hr : (xM F).sig.returnType = (some .int)) {post : Int32 → fMS → Nat → Prop} {o : Nat} {p1 : Int32} (hE : fEnd F lv (fPI post)) (S : fMS) (n : Nat) (y0 : Option Nat) (y1 : Int32) (h : wB_X4_share_18 post o p1 S n y0 y1) : fV F S n 18 [some (aR (some o)), some (aI p1)] [(aI y1), (aR y0)] := by
  unfold wB_X4_share_18 at h
  obtain ⟨a1, e2, hA3, h⟩ := h
  refine fV_callV (k := 5) (As := [(aI y1)]) hF (mc_X4_goesOn hF.2.2.2.2.2.2.2.2.1 h) fK5 e2 hA3 (by omega) fw_1276 fw_1273 fw_1275 fwp_42 fw_10 ⟨rfl, by decide, by decide, by decide +kernel⟩ (na := 1) rfl (by decide) (Nat.le_of_ble_eq_true rfl) dX4_share_18 rfl (fun rv S5 n6 hp => ?_)
  obtain ⟨v4, rfl, h⟩ := hp
  refine fV_if_eq (tgt := 33) hF dX4_share_21 (by decide) (fun c7 => ?_) (fun c7 => ?_)
  · have h := h.1 c7
    refine fV_iconst (v := 0) hF dX4_share_33 (by decide) ?_
    exact fV_iret hF hE.s (by omega) hr rfl dX4_share_34 ⟨_, rfl, h⟩
  · have h := h.2 c7
    refine fV_aload_n hF dX4_share_24 rfl rfl ?_
    obtain ⟨hA8, h⟩ := h
    refine fV_getR (k := 5) (i := 28) hF fK5 rfl hA8 (by decide) fw_1183 (Or.inl rfl) rfl dX4_share_25 ?_
    refine fV_iload_n hF dX4_share_28 rfl rfl ?_
    obtain ⟨a9, e10, hA11, h⟩ := h
    obtain ⟨hix12, h⟩ := h
    refine fV_iald hF e10 hA11 hix12 dX4_share_29 ?_
    refine fV_goto (tgt := 34) hF dX4_share_30 (by decide) ?_
    exact fV_iret hF hE.s (by omega) hr rfl dX4_share_34 ⟨_, rfl, h⟩
set_option maxRecDepth 100000 in
set_option maxHeartbeats 4000000 in
theorem mc_X4_share {l : Launch} (hfl : l.stackTraces = false) {G : fG} {S : fMS} {n : Nat} {o : Nat} {p1 : Int32} {post : Int32 → fMS → Nat → Prop} (h : wp_X4_share S n o p1 post) : fCM l yX4_share (.code yX4_share cX4_share 2 (some .int)) 16 G [(aR (some o)), (aI p1)] S n (fPI post) := by
  refine fCM_of hfl (by decide) (by intro v hv; simp only [List.mem_cons, List.not_mem_nil, or_false] at hv; rcases hv with rfl | rfl <;> rfl) (Nat.le_of_ble_eq_true rfl) (fun F hF hxn hl hG hr hin hE => ?_)
  subst hl hG
  have hlv : 16 ≤ 16 := Nat.le_refl _
  show fV F S n 0 [some (aR (some o)), some (aI p1)] []
  unfold wp_X4_share at h
  refine fV_aload_n hF dX4_share_0 rfl rfl ?_
  obtain ⟨hA1, h⟩ := h
  refine fV_callV (k := 5) (As := []) hF (mc_X4_laysShares hF.2.2.2.2.2.2.2.2.1 h) fK5 rfl hA1 (by omega) fw_1284 fw_1281 fw_1283 fwp_44 fw_10 ⟨rfl, by decide, by decide, by decide +kernel⟩ (na := 0) rfl (by decide) (Nat.le_of_ble_eq_true rfl) dX4_share_1 rfl (fun rv S2 n3 hp => ?_)
  obtain ⟨rfl, h⟩ := hp
  refine fV_aload_n hF dX4_share_4 rfl rfl ?_
  refine fV_aload_n hF dX4_share_5 rfl rfl ?_
  refine fV_iload_n hF dX4_share_6 rfl rfl ?_
  obtain ⟨hA4, h⟩ := h
  refine fV_callV (k := 5) (As := [(aI p1)]) hF (mc_X4_isTeam hF.2.2.2.2.2.2.2.2.1 h) fK5 rfl hA4 (by omega) fw_1269 fw_1266 fw_1268 fwp_41 fw_10 ⟨rfl, by decide, by decide, by decide +kernel⟩ (na := 1) rfl (by decide) (Nat.le_of_ble_eq_true rfl) dX4_share_7 rfl (fun rv S9 n9 hp => ?_)
  obtain ⟨v5, rfl, rfl, rfl, h⟩ := hp
  refine fV_if_eq (tgt := 17) hF dX4_share_10 (by decide) (fun c6 => ?_) (fun c6 => ?_)
  · have h := h.1 c6
    refine fV_iconst (v := 1) hF dX4_share_17 (by decide) ?_
    refine fV.sub (l' := [some (aR (some o)), some (aI p1)]) ⟨rfl, ⟨rfl, trivial⟩⟩ ?_
    exact mB_X4_share_18 hlv hF hxn hr hE  S2 n3 (some o) (1 : Int32) h
  · have h := h.2 c6
    refine fV_iconst (v := 0) hF dX4_share_13 (by decide) ?_
    refine fV_goto (tgt := 18) hF dX4_share_14 (by decide) ?_
    refine fV.sub (l' := [some (aR (some o)), some (aI p1)]) ⟨rfl, ⟨rfl, trivial⟩⟩ ?_
    exact mB_X4_share_18 hlv hF hxn hr hE  S2 n3 (some o) (0 : Int32) h
set_option maxRecDepth 100000 in
set_option maxHeartbeats 4000000 in
theorem mc_X4_shareByLevels {l : Launch} (hfl : l.stackTraces = false) {G : fG} {S : fMS} {n : Nat} {o : Nat} {p1 : Int32} {post : Int32 → fMS → Nat → Prop} (h : wp_X4_shareByLevels S n o p1 post) : fCM l yX4_shareByLevels (.code yX4_shareByLevels cX4_shareByLevels 2 (some .int)) 17 G [(aR (some o)), (aI p1)] S n (fPI post) := by
  refine fCM_of hfl (by decide) (by intro v hv; simp only [List.mem_cons, List.not_mem_nil, or_false] at hv; rcases hv with rfl | rfl <;> rfl) (Nat.le_of_ble_eq_true rfl) (fun F hF hxn hl hG hr hin hE => ?_)
  subst hl hG
  have hlv : 17 ≤ 17 := Nat.le_refl _
  show fV F S n 0 [some (aR (some o)), some (aI p1)] []
  unfold wp_X4_shareByLevels at h
  refine fV_aload_n hF dX4_shareByLevels_0 rfl rfl ?_
  refine fV_iload_n hF dX4_shareByLevels_1 rfl rfl ?_
  obtain ⟨hA1, h⟩ := h
  refine fV_callV (k := 5) (As := [(aI p1)]) hF (mc_X4_share hF.2.2.2.2.2.2.2.2.1 h) fK5 rfl hA1 (by omega) fw_1485 fw_1490 fw_1483 fw_1484 fw_10 ⟨rfl, by decide, by decide, by decide +kernel⟩ (na := 1) rfl (by decide) (Nat.le_of_ble_eq_true rfl) dX4_shareByLevels_2 rfl (fun rv S3 n4 hp => ?_)
  obtain ⟨v2, rfl, h⟩ := hp
  exact fV_iret hF hE.s (by omega) hr rfl dX4_shareByLevels_5 ⟨_, rfl, h⟩
set_option maxRecDepth 100000 in
set_option maxHeartbeats 4000000 in
theorem mc_X4_due {l : Launch} (hfl : l.stackTraces = false) {G : fG} {S : fMS} {n : Nat} {o : Nat} {p1 : Int32} {post : Int32 → fMS → Nat → Prop} (h : wp_X4_due S n o p1 post) : fCM l yX4_due (.code yX4_due cX4_due 2 (some .int)) 16 G [(aR (some o)), (aI p1)] S n (fPI post) := by
  refine fCM_of hfl (by decide) (by intro v hv; simp only [List.mem_cons, List.not_mem_nil, or_false] at hv; rcases hv with rfl | rfl <;> rfl) (Nat.le_of_ble_eq_true rfl) (fun F hF hxn hl hG hr hin hE => ?_)
  subst hl hG
  have hlv : 16 ≤ 16 := Nat.le_refl _
  show fV F S n 0 [some (aR (some o)), some (aI p1)] []
  unfold wp_X4_due at h
  refine fV_aload_n hF dX4_due_0 rfl rfl ?_
  obtain ⟨hA1, h⟩ := h
  refine fV_callV (k := 5) (As := []) hF (mc_X4_laysShares hF.2.2.2.2.2.2.2.2.1 h) fK5 rfl hA1 (by omega) fw_1284 fw_1281 fw_1283 fwp_44 fw_10 ⟨rfl, by decide, by decide, by decide +kernel⟩ (na := 0) rfl (by decide) (Nat.le_of_ble_eq_true rfl) dX4_due_1 rfl (fun rv S2 n3 hp => ?_)
  obtain ⟨rfl, h⟩ := hp
  refine fV_aload_n hF dX4_due_4 rfl rfl ?_
  refine fV_aload_n hF dX4_due_5 rfl rfl ?_
  refine fV_iload_n hF dX4_due_6 rfl rfl ?_
  obtain ⟨hA4, h⟩ := h
  refine fV_callV (k := 5) (As := [(aI p1)]) hF (mc_X4_leafFault hF.2.2.2.2.2.2.2.2.1 h) fK5 rfl hA4 (by omega) fw_1449 fw_1446 fw_1448 fwp_69 fw_10 ⟨rfl, by decide, by decide, by decide +kernel⟩ (na := 1) rfl (by decide) (Nat.le_of_ble_eq_true rfl) dX4_due_7 rfl (fun rv S9 n9 hp => ?_)
  obtain ⟨v5, rfl, rfl, rfl, h⟩ := hp
  refine fV_callV (k := 5) (As := [(aI v5)]) hF (mc_X4_goesOn hF.2.2.2.2.2.2.2.2.1 h) fK5 rfl hA4 (by omega) fw_1276 fw_1273 fw_1275 fwp_42 fw_10 ⟨rfl, by decide, by decide, by decide +kernel⟩ (na := 1) rfl (by decide) (Nat.le_of_ble_eq_true rfl) dX4_due_10 rfl (fun rv S7 n8 hp => ?_)
  obtain ⟨v6, rfl, h⟩ := hp
  refine fV_if_eq (tgt := 24) hF dX4_due_13 (by decide) (fun c9 => ?_) (fun c9 => ?_)
  · have h := h.1 c9
    refine fV_iconst (v := 0) hF dX4_due_24 (by decide) ?_
    exact fV_iret hF hE.s (by omega) hr rfl dX4_due_25 ⟨_, rfl, h⟩
  · have h := h.2 c9
    refine fV_aload_n hF dX4_due_16 rfl rfl ?_
    refine fV_iload_n hF dX4_due_17 rfl rfl ?_
    obtain ⟨hA10, h⟩ := h
    refine fV_callV (k := 5) (As := [(aI p1)]) hF (mc_X4_dueOf hF.2.2.2.2.2.2.2.2.1 h) fK5 rfl hA10 (by omega) fw_1340 fw_1337 fw_1339 fwp_58 fw_10 ⟨rfl, by decide, by decide, by decide +kernel⟩ (na := 1) rfl (by decide) (Nat.le_of_ble_eq_true rfl) dX4_due_18 rfl (fun rv S9 n9 hp => ?_)
    obtain ⟨v11, rfl, rfl, rfl, h⟩ := hp
    refine fV_goto (tgt := 25) hF dX4_due_21 (by decide) ?_
    exact fV_iret hF hE.s (by omega) hr rfl dX4_due_25 ⟨_, rfl, h⟩
set_option maxRecDepth 100000 in
set_option maxHeartbeats 4000000 in
theorem mc_X4_freeFor {l : Launch} (hfl : l.stackTraces = false) {G : fG} {S : fMS} {n : Nat} {o : Nat} {p1 : Int32} {post : Int32 → fMS → Nat → Prop} (h : wp_X4_freeFor S n o p1 post) : fCM l yX4_freeFor (.code yX4_freeFor cX4_freeFor 2 (some .int)) 4 G [(aR (some o)), (aI p1)] S n (fPI post) := by
  refine fCM_of hfl (by decide) (by intro v hv; simp only [List.mem_cons, List.not_mem_nil, or_false] at hv; rcases hv with rfl | rfl <;> rfl) (Nat.le_of_ble_eq_true rfl) (fun F hF hxn hl hG hr hin hE => ?_)
  subst hl hG
  have hlv : 4 ≤ 4 := Nat.le_refl _
  show fV F S n 0 [some (aR (some o)), some (aI p1)] []
  unfold wp_X4_freeFor at h
  refine fV_aload_n hF dX4_freeFor_0 rfl rfl ?_
  refine fV_aload_n hF dX4_freeFor_1 rfl rfl ?_
  refine fV_iload_n hF dX4_freeFor_2 rfl rfl ?_
  obtain ⟨hA1, h⟩ := h
  refine fV_callV (k := 5) (As := [(aI p1)]) hF (mc_X4_leafFault hF.2.2.2.2.2.2.2.2.1 h) fK5 rfl hA1 (by omega) fw_1449 fw_1446 fw_1448 fwp_69 fw_10 ⟨rfl, by decide, by decide, by decide +kernel⟩ (na := 1) rfl (by decide) (Nat.le_of_ble_eq_true rfl) dX4_freeFor_3 rfl (fun rv S9 n9 hp => ?_)
  obtain ⟨v2, rfl, rfl, rfl, h⟩ := hp
  refine fV_callV (k := 5) (As := [(aI v2)]) hF (mc_X4_goesOn hF.2.2.2.2.2.2.2.2.1 h) fK5 rfl hA1 (by omega) fw_1276 fw_1273 fw_1275 fwp_42 fw_10 ⟨rfl, by decide, by decide, by decide +kernel⟩ (na := 1) rfl (by decide) (Nat.le_of_ble_eq_true rfl) dX4_freeFor_6 rfl (fun rv S4 n5 hp => ?_)
  obtain ⟨v3, rfl, h⟩ := hp
  refine fV_if_eq (tgt := 20) hF dX4_freeFor_9 (by decide) (fun c6 => ?_) (fun c6 => ?_)
  · have h := h.1 c6
    refine fV_iconst (v := 0) hF dX4_freeFor_20 (by decide) ?_
    exact fV_iret hF hE.s (by omega) hr rfl dX4_freeFor_21 ⟨_, rfl, h⟩
  · have h := h.2 c6
    refine fV_aload_n hF dX4_freeFor_12 rfl rfl ?_
    refine fV_iload_n hF dX4_freeFor_13 rfl rfl ?_
    obtain ⟨hA7, h⟩ := h
    refine fV_callV (k := 5) (As := [(aI p1)]) hF (mc_X4_freeOf hF.2.2.2.2.2.2.2.2.1 h) fK5 rfl hA7 (by omega) fw_1328 fw_1325 fw_1327 fwp_55 fw_10 ⟨rfl, by decide, by decide, by decide +kernel⟩ (na := 1) rfl (by decide) (Nat.le_of_ble_eq_true rfl) dX4_freeFor_14 rfl (fun rv S9 n9 hp => ?_)
    obtain ⟨v8, rfl, rfl, rfl, h⟩ := hp
    refine fV_goto (tgt := 21) hF dX4_freeFor_17 (by decide) ?_
    exact fV_iret hF hE.s (by omega) hr rfl dX4_freeFor_21 ⟨_, rfl, h⟩
set_option maxRecDepth 100000 in
set_option maxHeartbeats 4000000 in
theorem mc_X4_use {l : Launch} (hfl : l.stackTraces = false) {G : fG} {S : fMS} {n : Nat} {o : Nat} {p1 : Int32} {post : Int64 → fMS → Nat → Prop} (h : wp_X4_use S n o p1 post) : fCM l yX4_use (.code yX4_use cX4_use 2 (some .long)) 4 G [(aR (some o)), (aI p1)] S n (fPJ post) := by
  refine fCM_of hfl (by decide) (by intro v hv; simp only [List.mem_cons, List.not_mem_nil, or_false] at hv; rcases hv with rfl | rfl <;> rfl) (Nat.le_of_ble_eq_true rfl) (fun F hF hxn hl hG hr hin hE => ?_)
  subst hl hG
  have hlv : 4 ≤ 4 := Nat.le_refl _
  show fV F S n 0 [some (aR (some o)), some (aI p1)] []
  unfold wp_X4_use at h
  refine fV_aload_n hF dX4_use_0 rfl rfl ?_
  refine fV_aload_n hF dX4_use_1 rfl rfl ?_
  refine fV_iload_n hF dX4_use_2 rfl rfl ?_
  obtain ⟨hA1, h⟩ := h
  refine fV_callV (k := 5) (As := [(aI p1)]) hF (mc_X4_leafFault hF.2.2.2.2.2.2.2.2.1 h) fK5 rfl hA1 (by omega) fw_1449 fw_1446 fw_1448 fwp_69 fw_10 ⟨rfl, by decide, by decide, by decide +kernel⟩ (na := 1) rfl (by decide) (Nat.le_of_ble_eq_true rfl) dX4_use_3 rfl (fun rv S9 n9 hp => ?_)
  obtain ⟨v2, rfl, rfl, rfl, h⟩ := hp
  refine fV_callV (k := 5) (As := [(aI v2)]) hF (mc_X4_goesOn hF.2.2.2.2.2.2.2.2.1 h) fK5 rfl hA1 (by omega) fw_1276 fw_1273 fw_1275 fwp_42 fw_10 ⟨rfl, by decide, by decide, by decide +kernel⟩ (na := 1) rfl (by decide) (Nat.le_of_ble_eq_true rfl) dX4_use_6 rfl (fun rv S4 n5 hp => ?_)
  obtain ⟨v3, rfl, h⟩ := hp
  refine fV_if_eq (tgt := 21) hF dX4_use_9 (by decide) (fun c6 => ?_) (fun c6 => ?_)
  · have h := h.1 c6
    refine fV_lconst (v := 0) hF dX4_use_21 (by decide) ?_
    exact fV_lret hF hE.s (by omega) hr dX4_use_22 ⟨_, rfl, h⟩
  · have h := h.2 c6
    refine fV_aload_n hF dX4_use_12 rfl rfl ?_
    obtain ⟨hA7, h⟩ := h
    refine fV_getR (k := 5) (i := 8) hF fK5 rfl hA7 (by decide) fw_1163 (Or.inl rfl) rfl dX4_use_13 ?_
    refine fV_iload_n hF dX4_use_16 rfl rfl ?_
    obtain ⟨a8, e9, hA10, h⟩ := h
    obtain ⟨hix11, h⟩ := h
    refine fV_lald hF e9 hA10 hix11 dX4_use_17 ?_
    refine fV_goto (tgt := 22) hF dX4_use_18 (by decide) ?_
    exact fV_lret hF hE.s (by omega) hr dX4_use_22 ⟨_, rfl, h⟩
set_option maxRecDepth 100000 in
set_option maxHeartbeats 4000000 in
theorem mB_X4_usedShare_13 {F : fX} {lv : Nat} (hlv : 2 ≤ lv) (hF : fOk F cX4_usedShare RX4 lv) (hxn : xn F = 1) (hr : (xM F).sig.returnType = (some .float)) {post : UInt32 → fMS → Nat → Prop} {o : Nat} (hE : fEnd F lv (fPF post)) (S : fMS) (n : Nat) (y0 : Option Nat) (y1 : Int32) (h : wB_X4_usedShare_13 post o S n y0 y1) : fV F S n 13 [some (aR (some o))] [(aI y1), (aR y0)] := by
  unfold wB_X4_usedShare_13 at h
  obtain ⟨a1, e2, hA3, h⟩ := h
  refine fV_callV (k := 5) (As := [(aI y1)]) hF (mc_X4_goesOn hF.2.2.2.2.2.2.2.2.1 h) fK5 e2 hA3 (by omega) fw_1276 fw_1273 fw_1275 fwp_42 fw_10 ⟨rfl, by decide, by decide, by decide +kernel⟩ (na := 1) rfl (by decide) (Nat.le_of_ble_eq_true rfl) dX4_usedShare_13 rfl (fun rv S5 n6 hp => ?_)
  obtain ⟨v4, rfl, h⟩ := hp
  refine fV_if_eq (tgt := 35) hF dX4_usedShare_16 (by decide) (fun c7 => ?_) (fun c7 => ?_)
  · have h := h.1 c7
    refine fV_fconst0 hF dX4_usedShare_35 ?_
    exact fV_fret hF hE.s (by omega) hr dX4_usedShare_36 ⟨_, rfl, h⟩
  · have h := h.2 c7
    refine fV_aload_n hF dX4_usedShare_19 rfl rfl ?_
    obtain ⟨hA8, h⟩ := h
    refine fV_getR (k := 5) (i := 10) hF fK5 rfl hA8 (by decide) fw_1165 (Or.inl rfl) rfl dX4_usedShare_20 ?_
    refine fV_iconst (v := 0) hF dX4_usedShare_23 (by decide) ?_
    obtain ⟨a9, e10, hA11, h⟩ := h
    obtain ⟨hix12, h⟩ := h
    refine fV_iald hF e10 hA11 hix12 dX4_usedShare_24 ?_
    refine fV_i2f hF dX4_usedShare_25 ?_
    refine fV_aload_n hF dX4_usedShare_26 rfl rfl ?_
    refine fV_getI (k := 5) (i := 2) hF fK5 rfl hA8 (by decide) fw_1157 (Or.inl rfl) rfl dX4_usedShare_27 ?_
    refine fV_i2f hF dX4_usedShare_30 ?_
    obtain ⟨hne13, h⟩ := h
    refine fV_fdiv hF dX4_usedShare_31 hne13 ?_
    refine fV_goto (tgt := 36) hF dX4_usedShare_32 (by decide) ?_
    exact fV_fret hF hE.s (by omega) hr dX4_usedShare_36 ⟨_, rfl, h⟩
set_option maxRecDepth 100000 in
set_option maxHeartbeats 4000000 in
theorem mc_X4_usedShare {l : Launch} (hfl : l.stackTraces = false) {G : fG} {S : fMS} {n : Nat} {o : Nat} {post : UInt32 → fMS → Nat → Prop} (h : wp_X4_usedShare S n o post) : fCM l yX4_usedShare (.code yX4_usedShare cX4_usedShare 1 (some .float)) 2 G [(aR (some o))] S n (fPF post) := by
  refine fCM_of hfl (by decide) (by intro v hv; simp only [List.mem_cons, List.not_mem_nil, or_false] at hv; rcases hv with rfl <;> rfl) (Nat.le_of_ble_eq_true rfl) (fun F hF hxn hl hG hr hin hE => ?_)
  subst hl hG
  have hlv : 2 ≤ 2 := Nat.le_refl _
  show fV F S n 0 [some (aR (some o))] []
  unfold wp_X4_usedShare at h
  refine fV_aload_n hF dX4_usedShare_0 rfl rfl ?_
  refine fV_aload_n hF dX4_usedShare_1 rfl rfl ?_
  obtain ⟨hA1, h⟩ := h
  refine fV_getI (k := 5) (i := 2) hF fK5 rfl hA1 (by decide) fw_1157 (Or.inl rfl) rfl dX4_usedShare_2 ?_
  refine fV_if_ne (tgt := 12) hF dX4_usedShare_5 (by decide) (fun c2 => ?_) (fun c2 => ?_)
  · have h := h.1 c2
    refine fV_iconst (v := 0) hF dX4_usedShare_12 (by decide) ?_
    refine fV.sub (l' := [some (aR (some o))]) ⟨rfl, trivial⟩ ?_
    exact mB_X4_usedShare_13 hlv hF hxn hr hE  S n (some o) (0 : Int32) h
  · have h := h.2 c2
    refine fV_iconst (v := 1) hF dX4_usedShare_8 (by decide) ?_
    refine fV_goto (tgt := 13) hF dX4_usedShare_9 (by decide) ?_
    refine fV.sub (l' := [some (aR (some o))]) ⟨rfl, trivial⟩ ?_
    exact mB_X4_usedShare_13 hlv hF hxn hr hE  S n (some o) (1 : Int32) h
set_option maxRecDepth 100000 in
set_option maxHeartbeats 4000000 in
theorem mB_X4_meanStops_71 {F : fX} {lv : Nat} (hlv : 2 ≤ lv) (hF : fOk F cX4_meanStops RX4 lv) (hxn : xn F = 4) (hr : (xM F).sig.returnType = (some .double)) {post : UInt64 → fMS → Nat → Prop} {o : Nat} (hE : fEnd F lv (fPD post)) (S : fMS) (n : Nat) (x1 : Int32) (x2 : Int32) (y0 : Option Nat) (y1 : Int32) (h : wB_X4_meanStops_71 post o S n x1 x2 y0 y1) : fV F S n 71 [some (aR (some o)), some (aI x1), some (aI x2), none] [(aI y1), (aR y0)] := by
  unfold wB_X4_meanStops_71 at h
  obtain ⟨a1, e2, hA3, h⟩ := h
  refine fV_callV (k := 5) (As := [(aI y1)]) hF (mc_X4_goesOn hF.2.2.2.2.2.2.2.2.1 h) fK5 e2 hA3 (by omega) fw_1276 fw_1273 fw_1275 fwp_42 fw_10 ⟨rfl, by decide, by decide, by decide +kernel⟩ (na := 1) rfl (by decide) (Nat.le_of_ble_eq_true rfl) dX4_meanStops_71 rfl (fun rv S5 n6 hp => ?_)
  obtain ⟨v4, rfl, h⟩ := hp
  refine fV_if_eq (tgt := 85) hF dX4_meanStops_74 (by decide) (fun c7 => ?_) (fun c7 => ?_)
  · have h := h.1 c7
    refine fV_dconst0 hF dX4_meanStops_85 ?_
    exact fV_dret hF hE.s (by omega) hr dX4_meanStops_86 ⟨_, rfl, h⟩
  · have h := h.2 c7
    refine fV_iload_n hF dX4_meanStops_77 rfl rfl ?_
    refine fV_i2d hF dX4_meanStops_78 ?_
    refine fV_iload_n hF dX4_meanStops_79 rfl rfl ?_
    refine fV_i2d hF dX4_meanStops_80 ?_
    obtain ⟨hne8, h⟩ := h
    refine fV_ddiv hF dX4_meanStops_81 hne8 ?_
    refine fV_goto (tgt := 86) hF dX4_meanStops_82 (by decide) ?_
    exact fV_dret hF hE.s (by omega) hr dX4_meanStops_86 ⟨_, rfl, h⟩
set_option maxRecDepth 100000 in
set_option maxHeartbeats 4000000 in
theorem mB_X4_meanStops_35 {F : fX} {lv : Nat} (hlv : 2 ≤ lv) (hF : fOk F cX4_meanStops RX4 lv) (hxn : xn F = 4) (hr : (xM F).sig.returnType = (some .double)) {post : UInt64 → fMS → Nat → Prop} {K6 : fMS → Nat → Int32 → Int32 → Int32 → Prop} {o : Nat} (hE : fEnd F lv (fPD post)) (hK6 : ∀ (S : fMS) (n : Nat) (x1 : Int32) (x2 : Int32) (x3 : Int32), K6 S n x1 x2 x3 → fV F S n 6 [some (aR (some o)), some (aI x1), some (aI x2), some (aI x3)] []) (S : fMS) (n : Nat) (x2 : Int32) (x3 : Int32) (y0 : Int32) (y1 : Int32) (h : wB_X4_meanStops_35 post K6 o S n x2 x3 y0 y1) : fV F S n 35 [some (aR (some o)), none, some (aI x2), some (aI x3)] [(aI y1), (aI y0)] := by
  unfold wB_X4_meanStops_35 at h
  refine fV_iadd hF dX4_meanStops_35 ?_
  refine fV_istore_n hF (fun y => [some (aR (some o)), some (aI y), some (aI x2), some (aI x3)]) dX4_meanStops_36 rfl (by rw [hxn]; decide) rfl (fun _ => rfl) (fun v1 ev1 => ?_)
  have h := h v1 ev1
  refine fV_iload_n hF dX4_meanStops_37 rfl rfl ?_
  refine fV_aload_n hF dX4_meanStops_38 rfl rfl ?_
  obtain ⟨hA2, h⟩ := h
  refine fV_getR (k := 5) (i := 17) hF fK5 rfl hA2 (by decide) fw_1172 (Or.inl rfl) rfl dX4_meanStops_39 ?_
  refine fV_iload_n hF dX4_meanStops_42 rfl rfl ?_
  obtain ⟨a3, e4, hA5, h⟩ := h
  obtain ⟨hix6, h⟩ := h
  refine fV_iald hF e4 hA5 hix6 dX4_meanStops_43 ?_
  refine fV_iconst (v := 2) hF dX4_meanStops_44 (by decide) ?_
  refine fV_icmp_ne (tgt := 52) hF dX4_meanStops_45 (by decide) (fun c7 => ?_) (fun c7 => ?_)
  · have h := h.1 c7
    refine fV_iconst (v := 0) hF dX4_meanStops_52 (by decide) ?_
    refine fV_iadd hF dX4_meanStops_53 ?_
    refine fV_istore_n hF (fun y => [some (aR (some o)), some (aI v1), some (aI y), some (aI x3)]) dX4_meanStops_54 rfl (by rw [hxn]; decide) rfl (fun _ => rfl) (fun v8 ev8 => ?_)
    have h := h v8 ev8
    refine fV_iinc (v := 1) hF (fun y => [some (aR (some o)), some (aI v1), some (aI v8), some (aI y)]) dX4_meanStops_55 rfl (by decide) (by rw [hxn]; decide) rfl (fun _ => rfl) (fun v9 ev9 => ?_)
    have h := h v9 ev9
    refine fV_goto (tgt := 6) hF dX4_meanStops_58 (by decide) ?_
    refine fV.sub (l' := [some (aR (some o)), some (aI v1), some (aI v8), some (aI v9)]) ⟨rfl, ⟨rfl, ⟨rfl, ⟨rfl, trivial⟩⟩⟩⟩ ?_
    exact hK6 S n v1 v8 v9 h
  · have h := h.2 c7
    refine fV_iconst (v := 1) hF dX4_meanStops_48 (by decide) ?_
    refine fV_goto (tgt := 53) hF dX4_meanStops_49 (by decide) ?_
    refine fV_iadd hF dX4_meanStops_53 ?_
    refine fV_istore_n hF (fun y => [some (aR (some o)), some (aI v1), some (aI y), some (aI x3)]) dX4_meanStops_54 rfl (by rw [hxn]; decide) rfl (fun _ => rfl) (fun v10 ev10 => ?_)
    have h := h v10 ev10
    refine fV_iinc (v := 1) hF (fun y => [some (aR (some o)), some (aI v1), some (aI v10), some (aI y)]) dX4_meanStops_55 rfl (by decide) (by rw [hxn]; decide) rfl (fun _ => rfl) (fun v11 ev11 => ?_)
    have h := h v11 ev11
    refine fV_goto (tgt := 6) hF dX4_meanStops_58 (by decide) ?_
    refine fV.sub (l' := [some (aR (some o)), some (aI v1), some (aI v10), some (aI v11)]) ⟨rfl, ⟨rfl, ⟨rfl, ⟨rfl, trivial⟩⟩⟩⟩ ?_
    exact hK6 S n v1 v10 v11 h
set_option maxRecDepth 100000 in
set_option maxHeartbeats 4000000 in
theorem mB_X4_meanStops_6 {F : fX} {lv : Nat} (hlv : 2 ≤ lv) (hF : fOk F cX4_meanStops RX4 lv) (hxn : xn F = 4) (hr : (xM F).sig.returnType = (some .double)) {post : UInt64 → fMS → Nat → Prop} {o : Nat} (hE : fEnd F lv (fPD post)) : ∀ (f : Nat) (S : fMS) (n : Nat) (x1 : Int32) (x2 : Int32) (x3 : Int32) (h : wB_X4_meanStops_6 post o f S n x1 x2 x3), fV F S n 6 [some (aR (some o)), some (aI x1), some (aI x2), some (aI x3)] [] := by
  intro f
  induction f with
  | zero => intro _ _ _ _ _ h; exact h.elim
  | succ f ih =>
    intro S n x1 x2 x3 h
    simp only [wB_X4_meanStops_6] at h
    refine fV_iload_n hF dX4_meanStops_6 rfl rfl ?_
    refine fV_aload_n hF dX4_meanStops_7 rfl rfl ?_
    obtain ⟨hA1, h⟩ := h
    refine fV_getI (k := 5) (i := 12) hF fK5 rfl hA1 (by decide) fw_1167 (Or.inl rfl) rfl dX4_meanStops_8 ?_
    refine fV_icmp_ge (tgt := 61) hF dX4_meanStops_11 (by decide) (fun c2 => ?_) (fun c2 => ?_)
    · have h := h.1 c2
      refine fV_aload_n hF dX4_meanStops_61 rfl rfl ?_
      refine fV_iload_n hF dX4_meanStops_62 rfl rfl ?_
      refine fV_if_ne (tgt := 70) hF dX4_meanStops_63 (by decide) (fun c3 => ?_) (fun c3 => ?_)
      · have h := h.1 c3
        refine fV_iconst (v := 0) hF dX4_meanStops_70 (by decide) ?_
        refine fV.sub (l' := [some (aR (some o)), some (aI x1), some (aI x2), none]) ⟨rfl, ⟨rfl, ⟨rfl, trivial⟩⟩⟩ ?_
        exact mB_X4_meanStops_71 hlv hF hxn hr hE  S n x1 x2 (some o) (0 : Int32) h
      · have h := h.2 c3
        refine fV_iconst (v := 1) hF dX4_meanStops_66 (by decide) ?_
        refine fV_goto (tgt := 71) hF dX4_meanStops_67 (by decide) ?_
        refine fV.sub (l' := [some (aR (some o)), some (aI x1), some (aI x2), none]) ⟨rfl, ⟨rfl, ⟨rfl, trivial⟩⟩⟩ ?_
        exact mB_X4_meanStops_71 hlv hF hxn hr hE  S n x1 x2 (some o) (1 : Int32) h
    · have h := h.2 c2
      refine fV_iload_n hF dX4_meanStops_14 rfl rfl ?_
      refine fV_aload_n hF dX4_meanStops_15 rfl rfl ?_
      refine fV_getR (k := 5) (i := 17) hF fK5 rfl hA1 (by decide) fw_1172 (Or.inl rfl) rfl dX4_meanStops_16 ?_
      refine fV_iload_n hF dX4_meanStops_19 rfl rfl ?_
      obtain ⟨a4, e5, hA6, h⟩ := h
      obtain ⟨hix7, h⟩ := h
      refine fV_iald hF e5 hA6 hix7 dX4_meanStops_20 ?_
      refine fV_iconst (v := 2) hF dX4_meanStops_21 (by decide) ?_
      refine fV_icmp_ne (tgt := 34) hF dX4_meanStops_22 (by decide) (fun c8 => ?_) (fun c8 => ?_)
      · have h := h.1 c8
        refine fV_iconst (v := 0) hF dX4_meanStops_34 (by decide) ?_
        refine fV.sub (l' := [some (aR (some o)), none, some (aI x2), some (aI x3)]) ⟨rfl, ⟨rfl, ⟨rfl, trivial⟩⟩⟩ ?_
        exact mB_X4_meanStops_35 hlv hF hxn hr hE (fun S9 n9 z0 z1 z2 h9 => ih S9 n9 z0 z1 z2 h9) S n x2 x3 x1 (0 : Int32) h
      · have h := h.2 c8
        refine fV_aload_n hF dX4_meanStops_25 rfl rfl ?_
        refine fV_getR (k := 5) (i := 18) hF fK5 rfl hA1 (by decide) fw_1173 (Or.inl rfl) rfl dX4_meanStops_26 ?_
        refine fV_iload_n hF dX4_meanStops_29 rfl rfl ?_
        obtain ⟨a9, e10, hA11, h⟩ := h
        obtain ⟨hix12, h⟩ := h
        refine fV_iald hF e10 hA11 hix12 dX4_meanStops_30 ?_
        refine fV_goto (tgt := 35) hF dX4_meanStops_31 (by decide) ?_
        refine fV.sub (l' := [some (aR (some o)), none, some (aI x2), some (aI x3)]) ⟨rfl, ⟨rfl, ⟨rfl, trivial⟩⟩⟩ ?_
        exact mB_X4_meanStops_35 hlv hF hxn hr hE (fun S9 n9 z0 z1 z2 h9 => ih S9 n9 z0 z1 z2 h9) S n x2 x3 x1 (sI S a9 (Int32.toNatClampNeg x3)) h
set_option maxRecDepth 100000 in
set_option maxHeartbeats 4000000 in
theorem mc_X4_meanStops {l : Launch} (hfl : l.stackTraces = false) {G : fG} {S : fMS} {n : Nat} {o : Nat} {post : UInt64 → fMS → Nat → Prop} (h : wp_X4_meanStops S n o post) : fCM l yX4_meanStops (.code yX4_meanStops cX4_meanStops 4 (some .double)) 2 G [(aR (some o))] S n (fPD post) := by
  refine fCM_of hfl (by decide) (by intro v hv; simp only [List.mem_cons, List.not_mem_nil, or_false] at hv; rcases hv with rfl <;> rfl) (Nat.le_of_ble_eq_true rfl) (fun F hF hxn hl hG hr hin hE => ?_)
  subst hl hG
  have hlv : 2 ≤ 2 := Nat.le_refl _
  show fV F S n 0 [some (aR (some o)), none, none, none] []
  unfold wp_X4_meanStops at h
  refine fV_iconst (v := 0) hF dX4_meanStops_0 (by decide) ?_
  refine fV_istore_n0 hF [some (aR (some o)), some (aI (0 : Int32)), none, none] dX4_meanStops_1 rfl (by rw [hxn]; decide) rfl rfl ?_
  refine fV_iconst (v := 0) hF dX4_meanStops_2 (by decide) ?_
  refine fV_istore_n0 hF [some (aR (some o)), some (aI (0 : Int32)), some (aI (0 : Int32)), none] dX4_meanStops_3 rfl (by rw [hxn]; decide) rfl rfl ?_
  refine fV_iconst (v := 0) hF dX4_meanStops_4 (by decide) ?_
  refine fV_istore_n0 hF [some (aR (some o)), some (aI (0 : Int32)), some (aI (0 : Int32)), some (aI (0 : Int32))] dX4_meanStops_5 rfl (by rw [hxn]; decide) rfl rfl ?_
  obtain ⟨f1, h⟩ := h
  refine fV.sub (l' := [some (aR (some o)), some (aI (0 : Int32)), some (aI (0 : Int32)), some (aI (0 : Int32))]) ⟨rfl, ⟨rfl, ⟨rfl, ⟨rfl, trivial⟩⟩⟩⟩ ?_
  exact mB_X4_meanStops_6 hlv hF hxn hr hE  f1 S n (0 : Int32) (0 : Int32) (0 : Int32) h
set_option maxRecDepth 100000 in
set_option maxHeartbeats 4000000 in
theorem mB_X4_sharesBelow_4 {F : fX} {lv : Nat} (hlv : 1 ≤ lv) (hF : fOk F cX4_sharesBelow RX4 lv) (hxn : xn F = 4) (hr : (xM F).sig.returnType = (some .int)) {S : fMS} {n : Nat} {post : Int32 → Prop} {o : Nat} {p1 : Int32} (hE : fEnd F lv (fPI (fun x S' n' => S = S' ∧ n = n' ∧ post x))) : ∀ (f : Nat) (x2 : Int32) (x3 : Int32) (h : wB_X4_sharesBelow_4 S post o p1 f x2 x3), fV F S n 4 [some (aR (some o)), some (aI p1), some (aI x2), some (aI x3)] [] := by
  intro f
  induction f with
  | zero => intro _ _ h; exact h.elim
  | succ f ih =>
    intro x2 x3 h
    simp only [wB_X4_sharesBelow_4] at h
    refine fV_iload_n hF dX4_sharesBelow_4 rfl rfl ?_
    refine fV_aload_n hF dX4_sharesBelow_5 rfl rfl ?_
    obtain ⟨hA1, h⟩ := h
    refine fV_getI (k := 5) (i := 4) hF fK5 rfl hA1 (by decide) fw_1159 (Or.inl rfl) rfl dX4_sharesBelow_6 ?_
    refine fV_icmp_ge (tgt := 41) hF dX4_sharesBelow_9 (by decide) (fun c2 => ?_) (fun c2 => ?_)
    · have h := h.1 c2
      refine fV_iload_n hF dX4_sharesBelow_41 rfl rfl ?_
      exact fV_iret hF hE.s (by omega) hr rfl dX4_sharesBelow_42 ⟨_, rfl, rfl, rfl, h⟩
    · have h := h.2 c2
      refine fV_iload_n hF dX4_sharesBelow_12 rfl rfl ?_
      refine fV_aload_n hF dX4_sharesBelow_13 rfl rfl ?_
      refine fV_getR (k := 5) (i := 5) hF fK5 rfl hA1 (by decide) fw_1160 (Or.inl rfl) rfl dX4_sharesBelow_14 ?_
      refine fV_iload_n hF dX4_sharesBelow_17 rfl rfl ?_
      obtain ⟨a3, e4, hA5, h⟩ := h
      obtain ⟨hix6, h⟩ := h
      refine fV_iald hF e4 hA5 hix6 dX4_sharesBelow_18 ?_
      refine fV_iload_n hF dX4_sharesBelow_19 rfl rfl ?_
      refine fV_icmp_ne (tgt := 32) hF dX4_sharesBelow_20 (by decide) (fun c7 => ?_) (fun c7 => ?_)
      · have h := h.1 c7
        refine fV_iconst (v := 0) hF dX4_sharesBelow_32 (by decide) ?_
        refine fV_iadd hF dX4_sharesBelow_33 ?_
        refine fV_istore_n hF (fun y => [some (aR (some o)), some (aI p1), some (aI y), some (aI x3)]) dX4_sharesBelow_34 rfl (by rw [hxn]; decide) rfl (fun _ => rfl) (fun v8 ev8 => ?_)
        have h := h v8 ev8
        refine fV_iinc (v := 1) hF (fun y => [some (aR (some o)), some (aI p1), some (aI v8), some (aI y)]) dX4_sharesBelow_35 rfl (by decide) (by rw [hxn]; decide) rfl (fun _ => rfl) (fun v9 ev9 => ?_)
        have h := h v9 ev9
        refine fV_goto (tgt := 4) hF dX4_sharesBelow_38 (by decide) ?_
        refine fV.sub (l' := [some (aR (some o)), some (aI p1), some (aI v8), some (aI v9)]) ⟨rfl, ⟨rfl, ⟨rfl, ⟨rfl, trivial⟩⟩⟩⟩ ?_
        exact ih v8 v9 h
      · have h := h.2 c7
        refine fV_aload_n hF dX4_sharesBelow_23 rfl rfl ?_
        refine fV_getR (k := 5) (i := 28) hF fK5 rfl hA1 (by decide) fw_1183 (Or.inl rfl) rfl dX4_sharesBelow_24 ?_
        refine fV_iload_n hF dX4_sharesBelow_27 rfl rfl ?_
        obtain ⟨a10, e11, hA12, h⟩ := h
        obtain ⟨hix13, h⟩ := h
        refine fV_iald hF e11 hA12 hix13 dX4_sharesBelow_28 ?_
        refine fV_goto (tgt := 33) hF dX4_sharesBelow_29 (by decide) ?_
        refine fV_iadd hF dX4_sharesBelow_33 ?_
        refine fV_istore_n hF (fun y => [some (aR (some o)), some (aI p1), some (aI y), some (aI x3)]) dX4_sharesBelow_34 rfl (by rw [hxn]; decide) rfl (fun _ => rfl) (fun v14 ev14 => ?_)
        have h := h v14 ev14
        refine fV_iinc (v := 1) hF (fun y => [some (aR (some o)), some (aI p1), some (aI v14), some (aI y)]) dX4_sharesBelow_35 rfl (by decide) (by rw [hxn]; decide) rfl (fun _ => rfl) (fun v15 ev15 => ?_)
        have h := h v15 ev15
        refine fV_goto (tgt := 4) hF dX4_sharesBelow_38 (by decide) ?_
        refine fV.sub (l' := [some (aR (some o)), some (aI p1), some (aI v14), some (aI v15)]) ⟨rfl, ⟨rfl, ⟨rfl, ⟨rfl, trivial⟩⟩⟩⟩ ?_
        exact ih v14 v15 h
set_option maxRecDepth 100000 in
set_option maxHeartbeats 4000000 in
theorem mc_X4_sharesBelow {l : Launch} (hfl : l.stackTraces = false) {G : fG} {S : fMS} {n : Nat} {o : Nat} {p1 : Int32} {post : Int32 → Prop} (h : wp_X4_sharesBelow S o p1 post) : fCM l yX4_sharesBelow (.code yX4_sharesBelow cX4_sharesBelow 4 (some .int)) 1 G [(aR (some o)), (aI p1)] S n (fPI (fun x S' n' => S = S' ∧ n = n' ∧ post x)) := by
  refine fCM_of hfl (by decide) (by intro v hv; simp only [List.mem_cons, List.not_mem_nil, or_false] at hv; rcases hv with rfl | rfl <;> rfl) (Nat.le_of_ble_eq_true rfl) (fun F hF hxn hl hG hr hin hE => ?_)
  subst hl hG
  have hlv : 1 ≤ 1 := Nat.le_refl _
  show fV F S n 0 [some (aR (some o)), some (aI p1), none, none] []
  unfold wp_X4_sharesBelow at h
  refine fV_iconst (v := 0) hF dX4_sharesBelow_0 (by decide) ?_
  refine fV_istore_n0 hF [some (aR (some o)), some (aI p1), some (aI (0 : Int32)), none] dX4_sharesBelow_1 rfl (by rw [hxn]; decide) rfl rfl ?_
  refine fV_iconst (v := 1) hF dX4_sharesBelow_2 (by decide) ?_
  refine fV_istore_n0 hF [some (aR (some o)), some (aI p1), some (aI (0 : Int32)), some (aI (1 : Int32))] dX4_sharesBelow_3 rfl (by rw [hxn]; decide) rfl rfl ?_
  obtain ⟨f1, h⟩ := h
  refine fV.sub (l' := [some (aR (some o)), some (aI p1), some (aI (0 : Int32)), some (aI (1 : Int32))]) ⟨rfl, ⟨rfl, ⟨rfl, ⟨rfl, trivial⟩⟩⟩⟩ ?_
  exact mB_X4_sharesBelow_4 hlv hF hxn hr hE  f1 (0 : Int32) (1 : Int32) h
set_option maxRecDepth 100000 in
set_option maxHeartbeats 4000000 in
theorem mB_X4_isFair_74 {F : fX} {lv : Nat} (hlv : 16 ≤ lv) (hF : fOk F cX4_isFair RX4 lv) (hxn : xn F = 5) (hr : (xM F).sig.returnType = (some .boolean)) {post : Int32 → fMS → Nat → Prop} {K79 : fMS → Nat → Int32 → Int32 → Int32 → Prop} {o : Nat} (hE : fEnd F lv (fPI post)) (hK79 : ∀ (S : fMS) (n : Nat) (x1 : Int32) (x2 : Int32) (y0 : Int32), K79 S n x1 x2 y0 → fV F S n 79 [some (aR (some o)), some (aI x1), some (aI x2), none, none] [(aI y0)]) (S : fMS) (n : Nat) (x1 : Int32) (x2 : Int32) (h : wB_X4_isFair_74 post K79 o S n x1 x2) : fV F S n 74 [some (aR (some o)), some (aI x1), some (aI x2), none, none] [] := by
  unfold wB_X4_isFair_74 at h
  refine fV_iconst (v := 1) hF dX4_isFair_74 (by decide) ?_
  refine fV_goto (tgt := 79) hF dX4_isFair_75 (by decide) ?_
  refine fV.sub (l' := [some (aR (some o)), some (aI x1), some (aI x2), none, none]) ⟨rfl, ⟨rfl, ⟨rfl, trivial⟩⟩⟩ ?_
  exact hK79 S n x1 x2 (1 : Int32) h
set_option maxRecDepth 100000 in
set_option maxHeartbeats 4000000 in
theorem mB_X4_isFair_79 {F : fX} {lv : Nat} (hlv : 16 ≤ lv) (hF : fOk F cX4_isFair RX4 lv) (hxn : xn F = 5) (hr : (xM F).sig.returnType = (some .boolean)) {post : Int32 → fMS → Nat → Prop} {K39 : fMS → Nat → Int32 → Int32 → Prop} {o : Nat} (hE : fEnd F lv (fPI post)) (hK39 : ∀ (S : fMS) (n : Nat) (x1 : Int32) (x2 : Int32), K39 S n x1 x2 → fV F S n 39 [some (aR (some o)), some (aI x1), some (aI x2), none, none] []) (S : fMS) (n : Nat) (x1 : Int32) (x2 : Int32) (y0 : Int32) (h : wB_X4_isFair_79 post K39 o S n x1 x2 y0) : fV F S n 79 [some (aR (some o)), some (aI x1), some (aI x2), none, none] [(aI y0)] := by
  unfold wB_X4_isFair_79 at h
  refine fV_istore0 hF [some (aR (some o)), some (aI x1), some (aI x2), none, some (aI y0)] dX4_isFair_79 (by rw [hxn]; decide) rfl rfl ?_
  refine fV_aload_n hF dX4_isFair_81 rfl rfl ?_
  obtain ⟨hA1, h⟩ := h
  refine fV_callV (k := 5) (As := []) hF (mc_X4_restores hF.2.2.2.2.2.2.2.2.1 h) fK5 rfl hA1 (by omega) fw_1348 fw_1345 fw_1347 fwp_60 fw_10 ⟨rfl, by decide, by decide, by decide +kernel⟩ (na := 0) rfl (by decide) (Nat.le_of_ble_eq_true rfl) dX4_isFair_82 rfl (fun rv S2 n3 hp => ?_)
  obtain ⟨rfl, h⟩ := hp
  refine fV_iload_n hF dX4_isFair_85 rfl rfl ?_
  refine fV_if_eq (tgt := 98) hF dX4_isFair_86 (by decide) (fun c4 => ?_) (fun c4 => ?_)
  · have h := h.1 c4
    refine fV_iconst (v := 0) hF dX4_isFair_98 (by decide) ?_
    refine fV_istore_n0 hF [some (aR (some o)), some (aI (0 : Int32)), some (aI x2), none, some (aI y0)] dX4_isFair_99 rfl (by rw [hxn]; decide) rfl rfl ?_
    refine fV_iinc (v := 1) hF (fun y => [some (aR (some o)), some (aI (0 : Int32)), some (aI y), none, some (aI y0)]) dX4_isFair_100 rfl (by decide) (by rw [hxn]; decide) rfl (fun _ => rfl) (fun v5 ev5 => ?_)
    have h := h v5 ev5
    refine fV_goto (tgt := 39) hF dX4_isFair_103 (by decide) ?_
    refine fV.sub (l' := [some (aR (some o)), some (aI (0 : Int32)), some (aI v5), none, none]) ⟨rfl, ⟨rfl, ⟨rfl, trivial⟩⟩⟩ ?_
    exact hK39 S2 n3 (0 : Int32) v5 h
  · have h := h.2 c4
    refine fV_iload hF dX4_isFair_89 rfl ?_
    refine fV_if_ne (tgt := 98) hF dX4_isFair_91 (by decide) (fun c6 => ?_) (fun c6 => ?_)
    · have h := h.1 c6
      refine fV_iconst (v := 0) hF dX4_isFair_98 (by decide) ?_
      refine fV_istore_n0 hF [some (aR (some o)), some (aI (0 : Int32)), some (aI x2), none, some (aI y0)] dX4_isFair_99 rfl (by rw [hxn]; decide) rfl rfl ?_
      refine fV_iinc (v := 1) hF (fun y => [some (aR (some o)), some (aI (0 : Int32)), some (aI y), none, some (aI y0)]) dX4_isFair_100 rfl (by decide) (by rw [hxn]; decide) rfl (fun _ => rfl) (fun v7 ev7 => ?_)
      have h := h v7 ev7
      refine fV_goto (tgt := 39) hF dX4_isFair_103 (by decide) ?_
      refine fV.sub (l' := [some (aR (some o)), some (aI (0 : Int32)), some (aI v7), none, none]) ⟨rfl, ⟨rfl, ⟨rfl, trivial⟩⟩⟩ ?_
      exact hK39 S2 n3 (0 : Int32) v7 h
    · have h := h.2 c6
      refine fV_iconst (v := 1) hF dX4_isFair_94 (by decide) ?_
      refine fV_goto (tgt := 99) hF dX4_isFair_95 (by decide) ?_
      refine fV_istore_n0 hF [some (aR (some o)), some (aI (1 : Int32)), some (aI x2), none, some (aI y0)] dX4_isFair_99 rfl (by rw [hxn]; decide) rfl rfl ?_
      refine fV_iinc (v := 1) hF (fun y => [some (aR (some o)), some (aI (1 : Int32)), some (aI y), none, some (aI y0)]) dX4_isFair_100 rfl (by decide) (by rw [hxn]; decide) rfl (fun _ => rfl) (fun v8 ev8 => ?_)
      have h := h v8 ev8
      refine fV_goto (tgt := 39) hF dX4_isFair_103 (by decide) ?_
      refine fV.sub (l' := [some (aR (some o)), some (aI (1 : Int32)), some (aI v8), none, none]) ⟨rfl, ⟨rfl, ⟨rfl, trivial⟩⟩⟩ ?_
      exact hK39 S2 n3 (1 : Int32) v8 h
set_option maxRecDepth 100000 in
set_option maxHeartbeats 4000000 in
theorem mB_X4_isFair_108 {F : fX} {lv : Nat} (hlv : 16 ≤ lv) (hF : fOk F cX4_isFair RX4 lv) (hxn : xn F = 5) (hr : (xM F).sig.returnType = (some .boolean)) {post : Int32 → fMS → Nat → Prop} {o : Nat} (hE : fEnd F lv (fPI post)) : ∀ (f : Nat) (S : fMS) (n : Nat) (x1 : Int32) (x2 : Int32) (h : wB_X4_isFair_108 post o f S n x1 x2), fV F S n 108 [some (aR (some o)), some (aI x1), some (aI x2), none, none] [] := by
  intro f
  induction f with
  | zero => intro _ _ _ _ h; exact h.elim
  | succ f ih =>
    intro S n x1 x2 h
    simp only [wB_X4_isFair_108] at h
    refine fV_iload_n hF dX4_isFair_108 rfl rfl ?_
    refine fV_aload_n hF dX4_isFair_109 rfl rfl ?_
    obtain ⟨hA1, h⟩ := h
    refine fV_getI (k := 5) (i := 4) hF fK5 rfl hA1 (by decide) fw_1159 (Or.inl rfl) rfl dX4_isFair_110 ?_
    refine fV_icmp_ge (tgt := 146) hF dX4_isFair_113 (by decide) (fun c2 => ?_) (fun c2 => ?_)
    · have h := h.1 c2
      refine fV_iload_n hF dX4_isFair_146 rfl rfl ?_
      obtain ⟨hnr3, h⟩ := h
      exact fV_iret hF hE.s (by omega) hr hnr3 dX4_isFair_147 ⟨_, rfl, h⟩
    · have h := h.2 c2
      refine fV_iload_n hF dX4_isFair_116 rfl rfl ?_
      refine fV_if_eq (tgt := 138) hF dX4_isFair_117 (by decide) (fun c4 => ?_) (fun c4 => ?_)
      · have h := h.1 c4
        refine fV_iconst (v := 0) hF dX4_isFair_138 (by decide) ?_
        refine fV_istore_n0 hF [some (aR (some o)), some (aI (0 : Int32)), some (aI x2), none, none] dX4_isFair_139 rfl (by rw [hxn]; decide) rfl rfl ?_
        refine fV_iinc (v := 1) hF (fun y => [some (aR (some o)), some (aI (0 : Int32)), some (aI y), none, none]) dX4_isFair_140 rfl (by decide) (by rw [hxn]; decide) rfl (fun _ => rfl) (fun v5 ev5 => ?_)
        have h := h v5 ev5
        refine fV_goto (tgt := 108) hF dX4_isFair_143 (by decide) ?_
        refine fV.sub (l' := [some (aR (some o)), some (aI (0 : Int32)), some (aI v5), none, none]) ⟨rfl, ⟨rfl, ⟨rfl, trivial⟩⟩⟩ ?_
        exact ih S n (0 : Int32) v5 h
      · have h := h.2 c4
        refine fV_aload_n hF dX4_isFair_120 rfl rfl ?_
        refine fV_iload_n hF dX4_isFair_121 rfl rfl ?_
        refine fV_callV (k := 5) (As := [(aI x2)]) hF (mc_X4_sharesBelow hF.2.2.2.2.2.2.2.2.1 h) fK5 rfl hA1 (by omega) fw_1518 fw_1515 fw_1517 fwp_72 fw_10 ⟨rfl, by decide, by decide, by decide +kernel⟩ (na := 1) rfl (by decide) (Nat.le_of_ble_eq_true rfl) dX4_isFair_122 rfl (fun rv S9 n9 hp => ?_)
        obtain ⟨v6, rfl, rfl, rfl, h⟩ := hp
        refine fV_aload_n hF dX4_isFair_125 rfl rfl ?_
        refine fV_getR (k := 5) (i := 28) hF fK5 rfl hA1 (by decide) fw_1183 (Or.inl rfl) rfl dX4_isFair_126 ?_
        refine fV_iload_n hF dX4_isFair_129 rfl rfl ?_
        obtain ⟨a7, e8, hA9, h⟩ := h
        obtain ⟨hix10, h⟩ := h
        refine fV_iald hF e8 hA9 hix10 dX4_isFair_130 ?_
        refine fV_icmp_gt (tgt := 138) hF dX4_isFair_131 (by decide) (fun c11 => ?_) (fun c11 => ?_)
        · have h := h.1 c11
          refine fV_iconst (v := 0) hF dX4_isFair_138 (by decide) ?_
          refine fV_istore_n0 hF [some (aR (some o)), some (aI (0 : Int32)), some (aI x2), none, none] dX4_isFair_139 rfl (by rw [hxn]; decide) rfl rfl ?_
          refine fV_iinc (v := 1) hF (fun y => [some (aR (some o)), some (aI (0 : Int32)), some (aI y), none, none]) dX4_isFair_140 rfl (by decide) (by rw [hxn]; decide) rfl (fun _ => rfl) (fun v12 ev12 => ?_)
          have h := h v12 ev12
          refine fV_goto (tgt := 108) hF dX4_isFair_143 (by decide) ?_
          refine fV.sub (l' := [some (aR (some o)), some (aI (0 : Int32)), some (aI v12), none, none]) ⟨rfl, ⟨rfl, ⟨rfl, trivial⟩⟩⟩ ?_
          exact ih S n (0 : Int32) v12 h
        · have h := h.2 c11
          refine fV_iconst (v := 1) hF dX4_isFair_134 (by decide) ?_
          refine fV_goto (tgt := 139) hF dX4_isFair_135 (by decide) ?_
          refine fV_istore_n0 hF [some (aR (some o)), some (aI (1 : Int32)), some (aI x2), none, none] dX4_isFair_139 rfl (by rw [hxn]; decide) rfl rfl ?_
          refine fV_iinc (v := 1) hF (fun y => [some (aR (some o)), some (aI (1 : Int32)), some (aI y), none, none]) dX4_isFair_140 rfl (by decide) (by rw [hxn]; decide) rfl (fun _ => rfl) (fun v13 ev13 => ?_)
          have h := h v13 ev13
          refine fV_goto (tgt := 108) hF dX4_isFair_143 (by decide) ?_
          refine fV.sub (l' := [some (aR (some o)), some (aI (1 : Int32)), some (aI v13), none, none]) ⟨rfl, ⟨rfl, ⟨rfl, trivial⟩⟩⟩ ?_
          exact ih S n (1 : Int32) v13 h
set_option maxRecDepth 100000 in
set_option maxHeartbeats 4000000 in
theorem mB_X4_isFair_39 {F : fX} {lv : Nat} (hlv : 16 ≤ lv) (hF : fOk F cX4_isFair RX4 lv) (hxn : xn F = 5) (hr : (xM F).sig.returnType = (some .boolean)) {post : Int32 → fMS → Nat → Prop} {o : Nat} (hE : fEnd F lv (fPI post)) : ∀ (f : Nat) (S : fMS) (n : Nat) (x1 : Int32) (x2 : Int32) (h : wB_X4_isFair_39 post o f S n x1 x2), fV F S n 39 [some (aR (some o)), some (aI x1), some (aI x2), none, none] [] := by
  intro f
  induction f with
  | zero => intro _ _ _ _ h; exact h.elim
  | succ f ih =>
    intro S n x1 x2 h
    simp only [wB_X4_isFair_39] at h
    refine fV_iload_n hF dX4_isFair_39 rfl rfl ?_
    refine fV_aload_n hF dX4_isFair_40 rfl rfl ?_
    obtain ⟨hA1, h⟩ := h
    refine fV_getI (k := 5) (i := 30) hF fK5 rfl hA1 (by decide) fw_1185 (Or.inl rfl) rfl dX4_isFair_41 ?_
    refine fV_icmp_ge (tgt := 106) hF dX4_isFair_44 (by decide) (fun c2 => ?_) (fun c2 => ?_)
    · have h := h.1 c2
      refine fV_iconst (v := 0) hF dX4_isFair_106 (by decide) ?_
      refine fV_istore_n0 hF [some (aR (some o)), some (aI x1), some (aI (0 : Int32)), none, none] dX4_isFair_107 rfl (by rw [hxn]; decide) rfl rfl ?_
      obtain ⟨f1, h⟩ := h
      refine fV.sub (l' := [some (aR (some o)), some (aI x1), some (aI (0 : Int32)), none, none]) ⟨rfl, ⟨rfl, ⟨rfl, trivial⟩⟩⟩ ?_
      exact mB_X4_isFair_108 hlv hF hxn hr hE  f1 S n x1 (0 : Int32) h
    · have h := h.2 c2
      refine fV_aload_n hF dX4_isFair_47 rfl rfl ?_
      refine fV_aload_n hF dX4_isFair_48 rfl rfl ?_
      refine fV_getR (k := 5) (i := 29) hF fK5 rfl hA1 (by decide) fw_1184 (Or.inl rfl) rfl dX4_isFair_49 ?_
      refine fV_iload_n hF dX4_isFair_52 rfl rfl ?_
      obtain ⟨a3, e4, hA5, h⟩ := h
      obtain ⟨hix6, h⟩ := h
      refine fV_iald hF e4 hA5 hix6 dX4_isFair_53 ?_
      refine fV_callV (k := 5) (As := [(aI (sI S a3 (Int32.toNatClampNeg x2)))]) hF (mc_X4_firstJob hF.2.2.2.2.2.2.2.2.1 h) fK5 rfl hA1 (by omega) fw_1312 fw_1309 fw_1311 fwp_51 fw_10 ⟨rfl, by decide, by decide, by decide +kernel⟩ (na := 1) rfl (by decide) (Nat.le_of_ble_eq_true rfl) dX4_isFair_54 rfl (fun rv S9 n9 hp => ?_)
      obtain ⟨v7, rfl, rfl, rfl, h⟩ := hp
      refine fV_istore_n0 hF [some (aR (some o)), some (aI x1), some (aI x2), some (aI v7), none] dX4_isFair_57 rfl (by rw [hxn]; decide) rfl rfl ?_
      refine fV_aload_n hF dX4_isFair_58 rfl rfl ?_
      refine fV_iload_n hF dX4_isFair_59 rfl rfl ?_
      refine fV_callV (k := 5) (As := [(aI v7)]) hF (mc_X4_canStart hF.2.2.2.2.2.2.2.2.1 h) fK5 rfl hA1 (by omega) fw_1320 fw_1317 fw_1319 fwp_53 fw_10 ⟨rfl, by decide, by decide, by decide +kernel⟩ (na := 1) rfl (by decide) (Nat.le_of_ble_eq_true rfl) dX4_isFair_60 rfl (fun rv S9 n9 hp => ?_)
      obtain ⟨v8, rfl, rfl, rfl, h⟩ := hp
      refine fV_if_ne (tgt := 74) hF dX4_isFair_63 (by decide) (fun c9 => ?_) (fun c9 => ?_)
      · have h := h.1 c9
        refine fV.sub (l' := [some (aR (some o)), some (aI x1), some (aI x2), none, none]) ⟨rfl, ⟨rfl, ⟨rfl, trivial⟩⟩⟩ ?_
        exact mB_X4_isFair_74 hlv hF hxn hr hE (fun S9 n9 z0 z1 z2 h9 => mB_X4_isFair_79 hlv hF hxn hr hE (fun S9 n9 z0 z1 h9 => ih S9 n9 z0 z1 h9) S9 n9 z0 z1 z2 h9) S n x1 x2 h
      · have h := h.2 c9
        refine fV_aload_n hF dX4_isFair_66 rfl rfl ?_
        refine fV_iload_n hF dX4_isFair_67 rfl rfl ?_
        refine fV_callV (k := 5) (As := [(aI v7)]) hF (mc_X4_makesRoom hF.2.2.2.2.2.2.2.2.1 h) fK5 rfl hA1 (by omega) fw_1336 fw_1333 fw_1335 fwp_57 fw_10 ⟨rfl, by decide, by decide, by decide +kernel⟩ (na := 1) rfl (by decide) (Nat.le_of_ble_eq_true rfl) dX4_isFair_68 rfl (fun rv S11 n12 hp => ?_)
        obtain ⟨v10, rfl, h⟩ := hp
        refine fV_if_eq (tgt := 78) hF dX4_isFair_71 (by decide) (fun c13 => ?_) (fun c13 => ?_)
        · have h := h.1 c13
          refine fV_iconst (v := 0) hF dX4_isFair_78 (by decide) ?_
          refine fV.sub (l' := [some (aR (some o)), some (aI x1), some (aI x2), none, none]) ⟨rfl, ⟨rfl, ⟨rfl, trivial⟩⟩⟩ ?_
          exact mB_X4_isFair_79 hlv hF hxn hr hE (fun S9 n9 z0 z1 h9 => ih S9 n9 z0 z1 h9) S11 n12 x1 x2 (0 : Int32) h
        · have h := h.2 c13
          refine fV.sub (l' := [some (aR (some o)), some (aI x1), some (aI x2), none, none]) ⟨rfl, ⟨rfl, ⟨rfl, trivial⟩⟩⟩ ?_
          exact mB_X4_isFair_74 hlv hF hxn hr hE (fun S9 n9 z0 z1 z2 h9 => mB_X4_isFair_79 hlv hF hxn hr hE (fun S9 n9 z0 z1 h9 => ih S9 n9 z0 z1 h9) S9 n9 z0 z1 z2 h9) S11 n12 x1 x2 h
set_option maxRecDepth 100000 in
set_option maxHeartbeats 4000000 in
theorem mc_X4_isFair {l : Launch} (hfl : l.stackTraces = false) {G : fG} {S : fMS} {n : Nat} {o : Nat} {post : Int32 → fMS → Nat → Prop} (h : wp_X4_isFair S n o post) : fCM l yX4_isFair (.code yX4_isFair cX4_isFair 5 (some .boolean)) 16 G [(aR (some o))] S n (fPI post) := by
  refine fCM_of hfl (by decide) (by intro v hv; simp only [List.mem_cons, List.not_mem_nil, or_false] at hv; rcases hv with rfl <;> rfl) (Nat.le_of_ble_eq_true rfl) (fun F hF hxn hl hG hr hin hE => ?_)
  subst hl hG
  have hlv : 16 ≤ 16 := Nat.le_refl _
  show fV F S n 0 [some (aR (some o)), none, none, none, none] []
  unfold wp_X4_isFair at h
  refine fV_aload_n hF dX4_isFair_0 rfl rfl ?_
  refine fV_iconst (v := 0) hF dX4_isFair_1 (by decide) ?_
  obtain ⟨hA1, h⟩ := h
  refine fV_putI (k := 5) (i := 0) hF fK5 tyX4_ok nmX4 rfl hA1 (by decide) rfl fw_1155 (Or.inl rfl) (Or.inl rfl) rfl rfl dX4_isFair_2 ?_
  refine fV_aload_n hF dX4_isFair_5 rfl rfl ?_
  refine fV_iconst (v := 0) hF dX4_isFair_6 (by decide) ?_
  refine fV_putI (k := 5) (i := 32) hF fK5 tyX4_ok nmX4 rfl hA1 (by decide) rfl fw_1187 (Or.inl rfl) (Or.inl rfl) rfl rfl dX4_isFair_7 ?_
  refine fV_aload_n hF dX4_isFair_10 rfl rfl ?_
  refine fV_callV (k := 5) (As := []) hF (mc_X4_laysShares hF.2.2.2.2.2.2.2.2.1 h) fK5 rfl hA1 (by omega) fw_1284 fw_1281 fw_1283 fwp_44 fw_10 ⟨rfl, by decide, by decide, by decide +kernel⟩ (na := 0) rfl (by decide) (Nat.le_of_ble_eq_true rfl) dX4_isFair_11 rfl (fun rv S2 n3 hp => ?_)
  obtain ⟨rfl, h⟩ := hp
  refine fV_aload_n hF dX4_isFair_14 rfl rfl ?_
  obtain ⟨hA4, h⟩ := h
  refine fV_callV (k := 5) (As := []) hF (mc_X4_laysLine hF.2.2.2.2.2.2.2.2.1 h) fK5 rfl hA4 (by omega) fw_1308 fw_1305 fw_1307 fwp_50 fw_10 ⟨rfl, by decide, by decide, by decide +kernel⟩ (na := 0) rfl (by decide) (Nat.le_of_ble_eq_true rfl) dX4_isFair_15 rfl (fun rv S5 n6 hp => ?_)
  obtain ⟨rfl, h⟩ := hp
  refine fV_aload_n hF dX4_isFair_18 rfl rfl ?_
  obtain ⟨hA7, h⟩ := h
  refine fV_getR (k := 5) (i := 10) hF fK5 rfl hA7 (by decide) fw_1165 (Or.inl rfl) rfl dX4_isFair_19 ?_
  refine fV_iconst (v := 0) hF dX4_isFair_22 (by decide) ?_
  obtain ⟨a8, e9, hA10, h⟩ := h
  obtain ⟨hix11, h⟩ := h
  refine fV_iald hF e9 hA10 hix11 dX4_isFair_23 ?_
  refine fV_aload_n hF dX4_isFair_24 rfl rfl ?_
  refine fV_getI (k := 5) (i := 2) hF fK5 rfl hA7 (by decide) fw_1157 (Or.inl rfl) rfl dX4_isFair_25 ?_
  refine fV_icmp_gt (tgt := 35) hF dX4_isFair_28 (by decide) (fun c12 => ?_) (fun c12 => ?_)
  · have h := h.1 c12
    refine fV_iconst (v := 0) hF dX4_isFair_35 (by decide) ?_
    refine fV_istore_n0 hF [some (aR (some o)), some (aI (0 : Int32)), none, none, none] dX4_isFair_36 rfl (by rw [hxn]; decide) rfl rfl ?_
    refine fV_iconst (v := 0) hF dX4_isFair_37 (by decide) ?_
    refine fV_istore_n0 hF [some (aR (some o)), some (aI (0 : Int32)), some (aI (0 : Int32)), none, none] dX4_isFair_38 rfl (by rw [hxn]; decide) rfl rfl ?_
    obtain ⟨f1, h⟩ := h
    refine fV.sub (l' := [some (aR (some o)), some (aI (0 : Int32)), some (aI (0 : Int32)), none, none]) ⟨rfl, ⟨rfl, ⟨rfl, trivial⟩⟩⟩ ?_
    exact mB_X4_isFair_39 hlv hF hxn hr hE  f1 S5 n6 (0 : Int32) (0 : Int32) h
  · have h := h.2 c12
    refine fV_iconst (v := 1) hF dX4_isFair_31 (by decide) ?_
    refine fV_goto (tgt := 36) hF dX4_isFair_32 (by decide) ?_
    refine fV_istore_n0 hF [some (aR (some o)), some (aI (1 : Int32)), none, none, none] dX4_isFair_36 rfl (by rw [hxn]; decide) rfl rfl ?_
    refine fV_iconst (v := 0) hF dX4_isFair_37 (by decide) ?_
    refine fV_istore_n0 hF [some (aR (some o)), some (aI (1 : Int32)), some (aI (0 : Int32)), none, none] dX4_isFair_38 rfl (by rw [hxn]; decide) rfl rfl ?_
    obtain ⟨f1, h⟩ := h
    refine fV.sub (l' := [some (aR (some o)), some (aI (1 : Int32)), some (aI (0 : Int32)), none, none]) ⟨rfl, ⟨rfl, ⟨rfl, trivial⟩⟩⟩ ?_
    exact mB_X4_isFair_39 hlv hF hxn hr hE  f1 S5 n6 (1 : Int32) (0 : Int32) h
