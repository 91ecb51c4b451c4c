set_option maxRecDepth 100000 in
set_option maxHeartbeats 4000000 in
theorem mB_L_law_28 {F : fX} {lv : Nat} (hlv : 19 ≤ lv) (hF : fOk F cL_law RL lv) (hxn : xn F = 9) (hr : (xM F).sig.returnType = (some .boolean)) {L : Nat} {sc : Nat → Int32} {b : Nat} (hX : va_X b L sc (xs F) (xs F).heap) (hb : b < fgz (xG F)) (hE : ∀ (S : fMS) (n pc : Nat) (l : List (Option fAV)), decode code pc = .ok (.ireturn, 1) → fV F S n pc l [aI 1]) : ∀ (f : Nat) (S : fMS) (n : Nat) (x1 : Option Nat) (x2 : Option Nat) (x3 : Option Nat) (x4 : Option Nat) (x5 : Int32) (h : wB_L_law_28 L sc f S n x1 x2 x3 x4 x5), fV F S n 28 [some (aR (some b)), some (aR x1), some (aR x2), some (aR x3), some (aR x4), some (aI x5), none, none, none] [] := by
  intro f
  induction f with
  | zero => intro _ _ _ _ _ _ _ h; exact h.elim
  | succ f ih =>
    intro S n x1 x2 x3 x4 x5 h
    simp only [wB_L_law_28] at h
    refine fV_iload hF dL_law_28 rfl ?_
    refine fV_aload_n hF dL_law_30 rfl rfl ?_
    refine fV_slen hF hX hb dL_law_31 ?_
    refine fV_iconst (v := 5) hF dL_law_32 (by decide) ?_
    refine fV_isub hF dL_law_33 ?_
    refine fV_icmp_gt (tgt := 1892) hF dL_law_34 (by decide) (fun c1 => ?_) (fun c1 => ?_)
    · have h := h.1 c1
      refine fV_iconst (v := 1) hF dL_law_1892 (by decide) ?_
      exact hE _ _ _ _ dL_law_1893
    · have h := h.2 c1
      refine fV_aload_n hF dL_law_37 rfl rfl ?_
      refine fV_iload hF dL_law_38 rfl ?_
      obtain ⟨hix2, h⟩ := h
      refine fV_sld hF hX hb hix2 dL_law_40 ?_
      refine fV_bipush (v := 31) hF dL_law_41 (by decide) ?_
      refine fV_iand hF dL_law_43 ?_
      by_cases c3 : Int32.toInt ((sc (Int32.toNatClampNeg x5)) &&& (31 : Int32)) < 0 ∨ 30 < Int32.toInt ((sc (Int32.toNatClampNeg x5)) &&& (31 : Int32))
      · have h := h.1 c3
        refine fV_tableOut (tgt := 1886) hF dL_law_44 c3 (by decide) ?_
        refine fV_iinc (v := 5) hF (fun y => [some (aR (some b)), some (aR x1), some (aR x2), some (aR x3), some (aR x4), some (aI y), none, none, none]) dL_law_1886 rfl (by decide) (by rw [hxn]; decide) rfl (fun _ => rfl) (fun v4 ev4 => ?_)
        have h := h v4 ev4
        refine fV_goto (tgt := 28) hF dL_law_1889 (by decide) ?_
        refine fV.sub (l' := [some (aR (some b)), some (aR x1), some (aR x2), some (aR x3), some (aR x4), some (aI v4), none, none, none]) ⟨rfl, ⟨rfl, ⟨rfl, ⟨rfl, ⟨rfl, ⟨rfl, trivial⟩⟩⟩⟩⟩⟩ ?_
        exact ih S n x1 x2 x3 x4 v4 h
      · have h := h.2
        have c1 : ¬ Int32.toInt ((sc (Int32.toNatClampNeg x5)) &&& (31 : Int32)) < 0 := fun z => c3 (Or.inl z)
        have c2 : ¬ 30 < Int32.toInt ((sc (Int32.toNatClampNeg x5)) &&& (31 : Int32)) := fun z => c3 (Or.inr z)
        rcases (show Int32.toInt ((sc (Int32.toNatClampNeg x5)) &&& (31 : Int32)) = 0 ∨ Int32.toInt ((sc (Int32.toNatClampNeg x5)) &&& (31 : Int32)) = 1 ∨ Int32.toInt ((sc (Int32.toNatClampNeg x5)) &&& (31 : Int32)) = 2 ∨ Int32.toInt ((sc (Int32.toNatClampNeg x5)) &&& (31 : Int32)) = 3 ∨ Int32.toInt ((sc (Int32.toNatClampNeg x5)) &&& (31 : Int32)) = 4 ∨ Int32.toInt ((sc (Int32.toNatClampNeg x5)) &&& (31 : Int32)) = 5 ∨ Int32.toInt ((sc (Int32.toNatClampNeg x5)) &&& (31 : Int32)) = 6 ∨ Int32.toInt ((sc (Int32.toNatClampNeg x5)) &&& (31 : Int32)) = 7 ∨ Int32.toInt ((sc (Int32.toNatClampNeg x5)) &&& (31 : Int32)) = 8 ∨ Int32.toInt ((sc (Int32.toNatClampNeg x5)) &&& (31 : Int32)) = 9 ∨ Int32.toInt ((sc (Int32.toNatClampNeg x5)) &&& (31 : Int32)) = 10 ∨ Int32.toInt ((sc (Int32.toNatClampNeg x5)) &&& (31 : Int32)) = 11 ∨ Int32.toInt ((sc (Int32.toNatClampNeg x5)) &&& (31 : Int32)) = 12 ∨ Int32.toInt ((sc (Int32.toNatClampNeg x5)) &&& (31 : Int32)) = 13 ∨ Int32.toInt ((sc (Int32.toNatClampNeg x5)) &&& (31 : Int32)) = 14 ∨ Int32.toInt ((sc (Int32.toNatClampNeg x5)) &&& (31 : Int32)) = 15 ∨ Int32.toInt ((sc (Int32.toNatClampNeg x5)) &&& (31 : Int32)) = 16 ∨ Int32.toInt ((sc (Int32.toNatClampNeg x5)) &&& (31 : Int32)) = 17 ∨ Int32.toInt ((sc (Int32.toNatClampNeg x5)) &&& (31 : Int32)) = 18 ∨ Int32.toInt ((sc (Int32.toNatClampNeg x5)) &&& (31 : Int32)) = 19 ∨ Int32.toInt ((sc (Int32.toNatClampNeg x5)) &&& (31 : Int32)) = 20 ∨ Int32.toInt ((sc (Int32.toNatClampNeg x5)) &&& (31 : Int32)) = 21 ∨ Int32.toInt ((sc (Int32.toNatClampNeg x5)) &&& (31 : Int32)) = 22 ∨ Int32.toInt ((sc (Int32.toNatClampNeg x5)) &&& (31 : Int32)) = 23 ∨ Int32.toInt ((sc (Int32.toNatClampNeg x5)) &&& (31 : Int32)) = 24 ∨ Int32.toInt ((sc (Int32.toNatClampNeg x5)) &&& (31 : Int32)) = 25 ∨ Int32.toInt ((sc (Int32.toNatClampNeg x5)) &&& (31 : Int32)) = 26 ∨ Int32.toInt ((sc (Int32.toNatClampNeg x5)) &&& (31 : Int32)) = 27 ∨ Int32.toInt ((sc (Int32.toNatClampNeg x5)) &&& (31 : Int32)) = 28 ∨ Int32.toInt ((sc (Int32.toNatClampNeg x5)) &&& (31 : Int32)) = 29 ∨ Int32.toInt ((sc (Int32.toNatClampNeg x5)) &&& (31 : Int32)) = 30 by omega) with c | c | c | c | c | c | c | c | c | c | c | c | c | c | c | c | c | c | c | c | c | c | c | c | c | c | c | c | c | c | c
        · have h := h.1 c
          refine fV_tableIn (tgt := 184) (off := 140) hF dL_law_44 c1 c2 (by rw [c]; decide) (by decide) ?_
          refine fV_aload_n hF dL_law_184 rfl rfl ?_
          refine fV_aload_n hF dL_law_185 rfl rfl ?_
          refine fV_iload hF dL_law_186 rfl ?_
          refine fV_iconst (v := 1) hF dL_law_188 (by decide) ?_
          refine fV_iadd hF dL_law_189 ?_
          obtain ⟨hix5, h⟩ := h
          refine fV_sld hF hX hb hix5 dL_law_190 ?_
          refine fV_aload_n hF dL_law_191 rfl rfl ?_
          refine fV_iload hF dL_law_192 rfl ?_
          refine fV_iconst (v := 2) hF dL_law_194 (by decide) ?_
          refine fV_iadd hF dL_law_195 ?_
          obtain ⟨hix6, h⟩ := h
          refine fV_sld hF hX hb hix6 dL_law_196 ?_
          refine fV_aload_n hF dL_law_197 rfl rfl ?_
          refine fV_callSXH (As := [(aR x1), (aI (sc (Int32.toNatClampNeg (x5 + (1 : Int32))))), (aI (sc (Int32.toNatClampNeg (x5 + (2 : Int32))))), (aR x3)]) hF (mc_L_addTeam hF.2.2.2.2.2.2.2.2.1 h) (by omega) fw_718 fw_716 fw_717 fw_0 ⟨by decide, by decide, by decide +kernel⟩ (na := 4) rfl (by decide) (Nat.le_of_ble_eq_true rfl) dL_law_198 rfl (fun rv S8 n9 hp => ?_)
          obtain ⟨v7, rfl, h⟩ := hp
          refine fV_istore0 hF [some (aR (some b)), some (aR x1), some (aR x2), some (aR x3), some (aR x4), some (aI x5), some (aI v7), none, none] dL_law_201 (by rw [hxn]; decide) rfl rfl ?_
          refine fV_aload_n hF dL_law_203 rfl rfl ?_
          refine fV_aload_n hF dL_law_204 rfl rfl ?_
          refine fV_iload hF dL_law_205 rfl ?_
          refine fV_iconst (v := 1) hF dL_law_207 (by decide) ?_
          refine fV_iadd hF dL_law_208 ?_
          obtain ⟨hix10, h⟩ := h
          refine fV_sld hF hX hb hix10 dL_law_209 ?_
          refine fV_aload_n hF dL_law_210 rfl rfl ?_
          refine fV_iload hF dL_law_211 rfl ?_
          refine fV_iconst (v := 2) hF dL_law_213 (by decide) ?_
          refine fV_iadd hF dL_law_214 ?_
          obtain ⟨hix11, h⟩ := h
          refine fV_sld hF hX hb hix11 dL_law_215 ?_
          obtain ⟨a12, e13, hA14, h⟩ := h
          refine fV_callV (k := 5) (As := [(aI (sc (Int32.toNatClampNeg (x5 + (1 : Int32))))), (aI (sc (Int32.toNatClampNeg (x5 + (2 : Int32)))))]) hF (mc_X4_addTeam hF.2.2.2.2.2.2.2.2.1 h) fK5 e13 hA14 (by omega) fw_1265 fw_1262 fw_1263 fw_1264 fw_10 ⟨rfl, by decide, by decide, by decide +kernel⟩ (na := 2) rfl (by decide) (Nat.le_of_ble_eq_true rfl) dL_law_216 rfl (fun rv S16 n17 hp => ?_)
          obtain ⟨v15, rfl, h⟩ := hp
          refine fV_istore0 hF [some (aR (some b)), some (aR x1), some (aR x2), some (aR x3), some (aR x4), some (aI x5), some (aI v7), some (aI v15), none] dL_law_219 (by rw [hxn]; decide) rfl rfl ?_
          refine fV_aload_n hF dL_law_221 rfl rfl ?_
          obtain ⟨hA18, h⟩ := h
          refine fV_callV (k := 5) (As := []) hF (mc_X4_thrown hF.2.2.2.2.2.2.2.2.1 h) fK5 e13 hA18 (by omega) fw_1261 fw_1258 fw_1259 fw_1260 fw_10 ⟨rfl, by decide, by decide, by decide +kernel⟩ (na := 0) rfl (by decide) (Nat.le_of_ble_eq_true rfl) dL_law_222 rfl (fun rv S9 n9 hp => ?_)
          obtain ⟨v19, rfl, rfl, rfl, h⟩ := hp
          refine fV_iload hF dL_law_225 rfl ?_
          refine fV_icmp_eq (tgt := 232) hF dL_law_227 (by decide) (fun c20 => ?_) (fun c20 => ?_)
          · have h := h.1 c20
            refine fV_iload hF dL_law_232 rfl ?_
            refine fV_if_ne (tgt := 249) hF dL_law_234 (by decide) (fun c21 => ?_) (fun c21 => ?_)
            · have h := h.1 c21
              refine fV_goto (tgt := 1886) hF dL_law_249 (by decide) ?_
              refine fV_iinc (v := 5) hF (fun y => [some (aR (some b)), some (aR x1), some (aR x2), some (aR x3), some (aR x4), some (aI y), some (aI v7), some (aI v15), none]) dL_law_1886 rfl (by decide) (by rw [hxn]; decide) rfl (fun _ => rfl) (fun v22 ev22 => ?_)
              have h := h v22 ev22
              refine fV_goto (tgt := 28) hF dL_law_1889 (by decide) ?_
              refine fV.sub (l' := [some (aR (some b)), some (aR x1), some (aR x2), some (aR x3), some (aR x4), some (aI v22), none, none, none]) ⟨rfl, ⟨rfl, ⟨rfl, ⟨rfl, ⟨rfl, ⟨rfl, trivial⟩⟩⟩⟩⟩⟩ ?_
              exact ih S16 n17 x1 x2 x3 x4 v22 h
            · have h := h.2 c21
              refine fV_aload_n hF dL_law_237 rfl rfl ?_
              refine fV_iconst (v := 0) hF dL_law_238 (by decide) ?_
              obtain ⟨a23, e24, hA25, h⟩ := h
              obtain ⟨hix26, h⟩ := h
              refine fV_lald hF e24 hA25 hix26 dL_law_239 ?_
              refine fV_iload hF dL_law_240 rfl ?_
              refine fV_i2l hF dL_law_242 ?_
              refine fV_lcmp hF dL_law_243 ?_
              refine fV_if_eq (tgt := 249) hF dL_law_244 (by decide) (fun c27 => ?_) (fun c27 => ?_)
              · have h := h.1 c27
                refine fV_goto (tgt := 1886) hF dL_law_249 (by decide) ?_
                refine fV_iinc (v := 5) hF (fun y => [some (aR (some b)), some (aR x1), some (aR x2), some (aR x3), some (aR x4), some (aI y), some (aI v7), some (aI v15), none]) dL_law_1886 rfl (by decide) (by rw [hxn]; decide) rfl (fun _ => rfl) (fun v28 ev28 => ?_)
                have h := h v28 ev28
                refine fV_goto (tgt := 28) hF dL_law_1889 (by decide) ?_
                refine fV.sub (l' := [some (aR (some b)), some (aR x1), some (aR x2), some (aR x3), some (aR x4), some (aI v28), none, none, none]) ⟨rfl, ⟨rfl, ⟨rfl, ⟨rfl, ⟨rfl, ⟨rfl, trivial⟩⟩⟩⟩⟩⟩ ?_
                exact ih S16 n17 x1 x2 x3 x4 v28 h
              · have h := h.2 c27
                refine fV_iconst (v := 0) hF dL_law_247 (by decide) ?_
                exact h.elim
          · have h := h.2 c20
            refine fV_iconst (v := 0) hF dL_law_230 (by decide) ?_
            exact h.elim
        · have h := h.2.1 c
          refine fV_tableIn (tgt := 252) (off := 208) hF dL_law_44 c1 c2 (by rw [c]; decide) (by decide) ?_
          refine fV_aload_n hF dL_law_252 rfl rfl ?_
          refine fV_aload_n hF dL_law_253 rfl rfl ?_
          refine fV_iload hF dL_law_254 rfl ?_
          refine fV_iconst (v := 1) hF dL_law_256 (by decide) ?_
          refine fV_iadd hF dL_law_257 ?_
          obtain ⟨hix29, h⟩ := h
          refine fV_sld hF hX hb hix29 dL_law_258 ?_
          refine fV_aload_n hF dL_law_259 rfl rfl ?_
          refine fV_iload hF dL_law_260 rfl ?_
          refine fV_iconst (v := 2) hF dL_law_262 (by decide) ?_
          refine fV_iadd hF dL_law_263 ?_
          obtain ⟨hix30, h⟩ := h
          refine fV_sld hF hX hb hix30 dL_law_264 ?_
          refine fV_aload_n hF dL_law_265 rfl rfl ?_
          refine fV_callSXH (As := [(aR x1), (aI (sc (Int32.toNatClampNeg (x5 + (1 : Int32))))), (aI (sc (Int32.toNatClampNeg (x5 + (2 : Int32))))), (aR x3)]) hF (mc_L_setWeight hF.2.2.2.2.2.2.2.2.1 h) (by omega) fw_789 fw_787 fw_788 fw_0 ⟨by decide, by decide, by decide +kernel⟩ (na := 4) rfl (by decide) (Nat.le_of_ble_eq_true rfl) dL_law_266 rfl (fun rv S32 n33 hp => ?_)
          obtain ⟨v31, rfl, h⟩ := hp
          refine fV_istore0 hF [some (aR (some b)), some (aR x1), some (aR x2), some (aR x3), some (aR x4), some (aI x5), some (aI v31), none, none] dL_law_269 (by rw [hxn]; decide) rfl rfl ?_
          refine fV_aload_n hF dL_law_271 rfl rfl ?_
          refine fV_aload_n hF dL_law_272 rfl rfl ?_
          refine fV_iload hF dL_law_273 rfl ?_
          refine fV_iconst (v := 1) hF dL_law_275 (by decide) ?_
          refine fV_iadd hF dL_law_276 ?_
          obtain ⟨hix34, h⟩ := h
          refine fV_sld hF hX hb hix34 dL_law_277 ?_
          refine fV_aload_n hF dL_law_278 rfl rfl ?_
          refine fV_iload hF dL_law_279 rfl ?_
          refine fV_iconst (v := 2) hF dL_law_281 (by decide) ?_
          refine fV_iadd hF dL_law_282 ?_
          obtain ⟨hix35, h⟩ := h
          refine fV_sld hF hX hb hix35 dL_law_283 ?_
          obtain ⟨a36, e37, hA38, h⟩ := h
          refine fV_callV (k := 5) (As := [(aI (sc (Int32.toNatClampNeg (x5 + (1 : Int32))))), (aI (sc (Int32.toNatClampNeg (x5 + (2 : Int32)))))]) hF (mc_X4_setWeight hF.2.2.2.2.2.2.2.2.1 h) fK5 e37 hA38 (by omega) fw_1368 fw_1365 fw_1366 fw_1367 fw_10 ⟨rfl, by decide, by decide, by decide +kernel⟩ (na := 2) rfl (by decide) (Nat.le_of_ble_eq_true rfl) dL_law_284 rfl (fun rv S40 n41 hp => ?_)
          obtain ⟨v39, rfl, h⟩ := hp
          refine fV_istore0 hF [some (aR (some b)), some (aR x1), some (aR x2), some (aR x3), some (aR x4), some (aI x5), some (aI v31), some (aI v39), none] dL_law_287 (by rw [hxn]; decide) rfl rfl ?_
          refine fV_aload_n hF dL_law_289 rfl rfl ?_
          obtain ⟨hA42, h⟩ := h
          refine fV_callV (k := 5) (As := []) hF (mc_X4_thrown hF.2.2.2.2.2.2.2.2.1 h) fK5 e37 hA42 (by omega) fw_1261 fw_1258 fw_1259 fw_1260 fw_10 ⟨rfl, by decide, by decide, by decide +kernel⟩ (na := 0) rfl (by decide) (Nat.le_of_ble_eq_true rfl) dL_law_290 rfl (fun rv S9 n9 hp => ?_)
          obtain ⟨v43, rfl, rfl, rfl, h⟩ := hp
          refine fV_iload hF dL_law_293 rfl ?_
          refine fV_icmp_eq (tgt := 300) hF dL_law_295 (by decide) (fun c44 => ?_) (fun c44 => ?_)
          · have h := h.1 c44
            refine fV_iload hF dL_law_300 rfl ?_
            refine fV_if_ne (tgt := 317) hF dL_law_302 (by decide) (fun c45 => ?_) (fun c45 => ?_)
            · have h := h.1 c45
              refine fV_goto (tgt := 1886) hF dL_law_317 (by decide) ?_
              refine fV_iinc (v := 5) hF (fun y => [some (aR (some b)), some (aR x1), some (aR x2), some (aR x3), some (aR x4), some (aI y), some (aI v31), some (aI v39), none]) dL_law_1886 rfl (by decide) (by rw [hxn]; decide) rfl (fun _ => rfl) (fun v46 ev46 => ?_)
              have h := h v46 ev46
              refine fV_goto (tgt := 28) hF dL_law_1889 (by decide) ?_
              refine fV.sub (l' := [some (aR (some b)), some (aR x1), some (aR x2), some (aR x3), some (aR x4), some (aI v46), none, none, none]) ⟨rfl, ⟨rfl, ⟨rfl, ⟨rfl, ⟨rfl, ⟨rfl, trivial⟩⟩⟩⟩⟩⟩ ?_
              exact ih S40 n41 x1 x2 x3 x4 v46 h
            · have h := h.2 c45
              refine fV_aload_n hF dL_law_305 rfl rfl ?_
              refine fV_iconst (v := 0) hF dL_law_306 (by decide) ?_
              obtain ⟨a47, e48, hA49, h⟩ := h
              obtain ⟨hix50, h⟩ := h
              refine fV_lald hF e48 hA49 hix50 dL_law_307 ?_
              refine fV_iload hF dL_law_308 rfl ?_
              refine fV_i2l hF dL_law_310 ?_
              refine fV_lcmp hF dL_law_311 ?_
              refine fV_if_eq (tgt := 317) hF dL_law_312 (by decide) (fun c51 => ?_) (fun c51 => ?_)
              · have h := h.1 c51
                refine fV_goto (tgt := 1886) hF dL_law_317 (by decide) ?_
                refine fV_iinc (v := 5) hF (fun y => [some (aR (some b)), some (aR x1), some (aR x2), some (aR x3), some (aR x4), some (aI y), some (aI v31), some (aI v39), none]) dL_law_1886 rfl (by decide) (by rw [hxn]; decide) rfl (fun _ => rfl) (fun v52 ev52 => ?_)
                have h := h v52 ev52
                refine fV_goto (tgt := 28) hF dL_law_1889 (by decide) ?_
                refine fV.sub (l' := [some (aR (some b)), some (aR x1), some (aR x2), some (aR x3), some (aR x4), some (aI v52), none, none, none]) ⟨rfl, ⟨rfl, ⟨rfl, ⟨rfl, ⟨rfl, ⟨rfl, trivial⟩⟩⟩⟩⟩⟩ ?_
                exact ih S40 n41 x1 x2 x3 x4 v52 h
              · have h := h.2 c51
                refine fV_iconst (v := 0) hF dL_law_315 (by decide) ?_
                exact h.elim
          · have h := h.2 c44
            refine fV_iconst (v := 0) hF dL_law_298 (by decide) ?_
            exact h.elim
        · have h := h.2.2.1 c
          refine fV_tableIn (tgt := 320) (off := 276) hF dL_law_44 c1 c2 (by rw [c]; decide) (by decide) ?_
          refine fV_aload_n hF dL_law_320 rfl rfl ?_
          refine fV_aload_n hF dL_law_321 rfl rfl ?_
          refine fV_iload hF dL_law_322 rfl ?_
          refine fV_iconst (v := 1) hF dL_law_324 (by decide) ?_
          refine fV_iadd hF dL_law_325 ?_
          obtain ⟨hix53, h⟩ := h
          refine fV_sld hF hX hb hix53 dL_law_326 ?_
          refine fV_aload_n hF dL_law_327 rfl rfl ?_
          refine fV_iload hF dL_law_328 rfl ?_
          refine fV_iconst (v := 2) hF dL_law_330 (by decide) ?_
          refine fV_iadd hF dL_law_331 ?_
          obtain ⟨hix54, h⟩ := h
          refine fV_sld hF hX hb hix54 dL_law_332 ?_
          refine fV_aload_n hF dL_law_333 rfl rfl ?_
          refine fV_callSXH (As := [(aR x1), (aI (sc (Int32.toNatClampNeg (x5 + (1 : Int32))))), (aI (sc (Int32.toNatClampNeg (x5 + (2 : Int32))))), (aR x3)]) hF (mc_L_setLimit hF.2.2.2.2.2.2.2.2.1 h) (by omega) fw_817 fw_815 fw_816 fw_0 ⟨by decide, by decide, by decide +kernel⟩ (na := 4) rfl (by decide) (Nat.le_of_ble_eq_true rfl) dL_law_334 rfl (fun rv S56 n57 hp => ?_)
          obtain ⟨v55, rfl, h⟩ := hp
          refine fV_istore0 hF [some (aR (some b)), some (aR x1), some (aR x2), some (aR x3), some (aR x4), some (aI x5), some (aI v55), none, none] dL_law_337 (by rw [hxn]; decide) rfl rfl ?_
          refine fV_aload_n hF dL_law_339 rfl rfl ?_
          refine fV_aload_n hF dL_law_340 rfl rfl ?_
          refine fV_iload hF dL_law_341 rfl ?_
          refine fV_iconst (v := 1) hF dL_law_343 (by decide) ?_
          refine fV_iadd hF dL_law_344 ?_
          obtain ⟨hix58, h⟩ := h
          refine fV_sld hF hX hb hix58 dL_law_345 ?_
          refine fV_aload_n hF dL_law_346 rfl rfl ?_
          refine fV_iload hF dL_law_347 rfl ?_
          refine fV_iconst (v := 2) hF dL_law_349 (by decide) ?_
          refine fV_iadd hF dL_law_350 ?_
          obtain ⟨hix59, h⟩ := h
          refine fV_sld hF hX hb hix59 dL_law_351 ?_
          obtain ⟨a60, e61, hA62, h⟩ := h
          refine fV_callV (k := 5) (As := [(aI (sc (Int32.toNatClampNeg (x5 + (1 : Int32))))), (aI (sc (Int32.toNatClampNeg (x5 + (2 : Int32)))))]) hF (mc_X4_setLimit hF.2.2.2.2.2.2.2.2.1 h) fK5 e61 hA62 (by omega) fw_1372 fw_1369 fw_1370 fw_1371 fw_10 ⟨rfl, by decide, by decide, by decide +kernel⟩ (na := 2) rfl (by decide) (Nat.le_of_ble_eq_true rfl) dL_law_352 rfl (fun rv S64 n65 hp => ?_)
          obtain ⟨v63, rfl, h⟩ := hp
          refine fV_istore0 hF [some (aR (some b)), some (aR x1), some (aR x2), some (aR x3), some (aR x4), some (aI x5), some (aI v55), some (aI v63), none] dL_law_355 (by rw [hxn]; decide) rfl rfl ?_
          refine fV_aload_n hF dL_law_357 rfl rfl ?_
          obtain ⟨hA66, h⟩ := h
          refine fV_callV (k := 5) (As := []) hF (mc_X4_thrown hF.2.2.2.2.2.2.2.2.1 h) fK5 e61 hA66 (by omega) fw_1261 fw_1258 fw_1259 fw_1260 fw_10 ⟨rfl, by decide, by decide, by decide +kernel⟩ (na := 0) rfl (by decide) (Nat.le_of_ble_eq_true rfl) dL_law_358 rfl (fun rv S9 n9 hp => ?_)
          obtain ⟨v67, rfl, rfl, rfl, h⟩ := hp
          refine fV_iload hF dL_law_361 rfl ?_
          refine fV_icmp_eq (tgt := 368) hF dL_law_363 (by decide) (fun c68 => ?_) (fun c68 => ?_)
          · have h := h.1 c68
            refine fV_iload hF dL_law_368 rfl ?_
            refine fV_if_ne (tgt := 385) hF dL_law_370 (by decide) (fun c69 => ?_) (fun c69 => ?_)
            · have h := h.1 c69
              refine fV_goto (tgt := 1886) hF dL_law_385 (by decide) ?_
              refine fV_iinc (v := 5) hF (fun y => [some (aR (some b)), some (aR x1), some (aR x2), some (aR x3), some (aR x4), some (aI y), some (aI v55), some (aI v63), none]) dL_law_1886 rfl (by decide) (by rw [hxn]; decide) rfl (fun _ => rfl) (fun v70 ev70 => ?_)
              have h := h v70 ev70
              refine fV_goto (tgt := 28) hF dL_law_1889 (by decide) ?_
              refine fV.sub (l' := [some (aR (some b)), some (aR x1), some (aR x2), some (aR x3), some (aR x4), some (aI v70), none, none, none]) ⟨rfl, ⟨rfl, ⟨rfl, ⟨rfl, ⟨rfl, ⟨rfl, trivial⟩⟩⟩⟩⟩⟩ ?_
              exact ih S64 n65 x1 x2 x3 x4 v70 h
            · have h := h.2 c69
              refine fV_aload_n hF dL_law_373 rfl rfl ?_
              refine fV_iconst (v := 0) hF dL_law_374 (by decide) ?_
              obtain ⟨a71, e72, hA73, h⟩ := h
              obtain ⟨hix74, h⟩ := h
              refine fV_lald hF e72 hA73 hix74 dL_law_375 ?_
              refine fV_iload hF dL_law_376 rfl ?_
              refine fV_i2l hF dL_law_378 ?_
              refine fV_lcmp hF dL_law_379 ?_
              refine fV_if_eq (tgt := 385) hF dL_law_380 (by decide) (fun c75 => ?_) (fun c75 => ?_)
              · have h := h.1 c75
                refine fV_goto (tgt := 1886) hF dL_law_385 (by decide) ?_
                refine fV_iinc (v := 5) hF (fun y => [some (aR (some b)), some (aR x1), some (aR x2), some (aR x3), some (aR x4), some (aI y), some (aI v55), some (aI v63), none]) dL_law_1886 rfl (by decide) (by rw [hxn]; decide) rfl (fun _ => rfl) (fun v76 ev76 => ?_)
                have h := h v76 ev76
                refine fV_goto (tgt := 28) hF dL_law_1889 (by decide) ?_
                refine fV.sub (l' := [some (aR (some b)), some (aR x1), some (aR x2), some (aR x3), some (aR x4), some (aI v76), none, none, none]) ⟨rfl, ⟨rfl, ⟨rfl, ⟨rfl, ⟨rfl, ⟨rfl, trivial⟩⟩⟩⟩⟩⟩ ?_
                exact ih S64 n65 x1 x2 x3 x4 v76 h
              · have h := h.2 c75
                refine fV_iconst (v := 0) hF dL_law_383 (by decide) ?_
                exact h.elim
          · have h := h.2 c68
            refine fV_iconst (v := 0) hF dL_law_366 (by decide) ?_
            exact h.elim
        · have h := h.2.2.2.1 c
          refine fV_tableIn (tgt := 388) (off := 344) hF dL_law_44 c1 c2 (by rw [c]; decide) (by decide) ?_
          refine fV_aload_n hF dL_law_388 rfl rfl ?_
          refine fV_aload_n hF dL_law_389 rfl rfl ?_
          refine fV_iload hF dL_law_390 rfl ?_
          refine fV_iconst (v := 1) hF dL_law_392 (by decide) ?_
          refine fV_iadd hF dL_law_393 ?_
          obtain ⟨hix77, h⟩ := h
          refine fV_sld hF hX hb hix77 dL_law_394 ?_
          refine fV_aload_n hF dL_law_395 rfl rfl ?_
          refine fV_callSXH (As := [(aR x1), (aI (sc (Int32.toNatClampNeg (x5 + (1 : Int32))))), (aR x3)]) hF (mc_L_setCapacity hF.2.2.2.2.2.2.2.2.1 h) (by omega) fw_824 fw_822 fw_823 fw_0 ⟨by decide, by decide, by decide +kernel⟩ (na := 3) rfl (by decide) (Nat.le_of_ble_eq_true rfl) dL_law_396 rfl (fun rv S79 n80 hp => ?_)
          obtain ⟨v78, rfl, h⟩ := hp
          refine fV_istore0 hF [some (aR (some b)), some (aR x1), some (aR x2), some (aR x3), some (aR x4), some (aI x5), some (aI v78), none, none] dL_law_399 (by rw [hxn]; decide) rfl rfl ?_
          refine fV_aload_n hF dL_law_401 rfl rfl ?_
          refine fV_aload_n hF dL_law_402 rfl rfl ?_
          refine fV_iload hF dL_law_403 rfl ?_
          refine fV_iconst (v := 1) hF dL_law_405 (by decide) ?_
          refine fV_iadd hF dL_law_406 ?_
          obtain ⟨hix81, h⟩ := h
          refine fV_sld hF hX hb hix81 dL_law_407 ?_
          obtain ⟨a82, e83, hA84, h⟩ := h
          refine fV_callV (k := 5) (As := [(aI (sc (Int32.toNatClampNeg (x5 + (1 : Int32)))))]) hF (mc_X4_setCapacity hF.2.2.2.2.2.2.2.2.1 h) fK5 e83 hA84 (by omega) fw_1376 fw_1373 fw_1374 fw_1375 fw_10 ⟨rfl, by decide, by decide, by decide +kernel⟩ (na := 1) rfl (by decide) (Nat.le_of_ble_eq_true rfl) dL_law_408 rfl (fun rv S86 n87 hp => ?_)
          obtain ⟨v85, rfl, h⟩ := hp
          refine fV_istore0 hF [some (aR (some b)), some (aR x1), some (aR x2), some (aR x3), some (aR x4), some (aI x5), some (aI v78), some (aI v85), none] dL_law_411 (by rw [hxn]; decide) rfl rfl ?_
          refine fV_aload_n hF dL_law_413 rfl rfl ?_
          obtain ⟨hA88, h⟩ := h
          refine fV_callV (k := 5) (As := []) hF (mc_X4_thrown hF.2.2.2.2.2.2.2.2.1 h) fK5 e83 hA88 (by omega) fw_1261 fw_1258 fw_1259 fw_1260 fw_10 ⟨rfl, by decide, by decide, by decide +kernel⟩ (na := 0) rfl (by decide) (Nat.le_of_ble_eq_true rfl) dL_law_414 rfl (fun rv S9 n9 hp => ?_)
          obtain ⟨v89, rfl, rfl, rfl, h⟩ := hp
          refine fV_iload hF dL_law_417 rfl ?_
          refine fV_icmp_eq (tgt := 424) hF dL_law_419 (by decide) (fun c90 => ?_) (fun c90 => ?_)
          · have h := h.1 c90
            refine fV_iload hF dL_law_424 rfl ?_
            refine fV_if_ne (tgt := 441) hF dL_law_426 (by decide) (fun c91 => ?_) (fun c91 => ?_)
            · have h := h.1 c91
              refine fV_goto (tgt := 1886) hF dL_law_441 (by decide) ?_
              refine fV_iinc (v := 5) hF (fun y => [some (aR (some b)), some (aR x1), some (aR x2), some (aR x3), some (aR x4), some (aI y), some (aI v78), some (aI v85), none]) dL_law_1886 rfl (by decide) (by rw [hxn]; decide) rfl (fun _ => rfl) (fun v92 ev92 => ?_)
              have h := h v92 ev92
              refine fV_goto (tgt := 28) hF dL_law_1889 (by decide) ?_
              refine fV.sub (l' := [some (aR (some b)), some (aR x1), some (aR x2), some (aR x3), some (aR x4), some (aI v92), none, none, none]) ⟨rfl, ⟨rfl, ⟨rfl, ⟨rfl, ⟨rfl, ⟨rfl, trivial⟩⟩⟩⟩⟩⟩ ?_
              exact ih S86 n87 x1 x2 x3 x4 v92 h
            · have h := h.2 c91
              refine fV_aload_n hF dL_law_429 rfl rfl ?_
              refine fV_iconst (v := 0) hF dL_law_430 (by decide) ?_
              obtain ⟨a93, e94, hA95, h⟩ := h
              obtain ⟨hix96, h⟩ := h
              refine fV_lald hF e94 hA95 hix96 dL_law_431 ?_
              refine fV_iload hF dL_law_432 rfl ?_
              refine fV_i2l hF dL_law_434 ?_
              refine fV_lcmp hF dL_law_435 ?_
              refine fV_if_eq (tgt := 441) hF dL_law_436 (by decide) (fun c97 => ?_) (fun c97 => ?_)
              · have h := h.1 c97
                refine fV_goto (tgt := 1886) hF dL_law_441 (by decide) ?_
                refine fV_iinc (v := 5) hF (fun y => [some (aR (some b)), some (aR x1), some (aR x2), some (aR x3), some (aR x4), some (aI y), some (aI v78), some (aI v85), none]) dL_law_1886 rfl (by decide) (by rw [hxn]; decide) rfl (fun _ => rfl) (fun v98 ev98 => ?_)
                have h := h v98 ev98
                refine fV_goto (tgt := 28) hF dL_law_1889 (by decide) ?_
                refine fV.sub (l' := [some (aR (some b)), some (aR x1), some (aR x2), some (aR x3), some (aR x4), some (aI v98), none, none, none]) ⟨rfl, ⟨rfl, ⟨rfl, ⟨rfl, ⟨rfl, ⟨rfl, trivial⟩⟩⟩⟩⟩⟩ ?_
                exact ih S86 n87 x1 x2 x3 x4 v98 h
              · have h := h.2 c97
                refine fV_iconst (v := 0) hF dL_law_439 (by decide) ?_
                exact h.elim
          · have h := h.2 c90
            refine fV_iconst (v := 0) hF dL_law_422 (by decide) ?_
            exact h.elim
        · have h := h.2.2.2.2.1 c
          refine fV_tableIn (tgt := 444) (off := 400) hF dL_law_44 c1 c2 (by rw [c]; decide) (by decide) ?_
          refine fV_aload_n hF dL_law_444 rfl rfl ?_
          refine fV_aload_n hF dL_law_445 rfl rfl ?_
          refine fV_iload hF dL_law_446 rfl ?_
          refine fV_iconst (v := 1) hF dL_law_448 (by decide) ?_
          refine fV_iadd hF dL_law_449 ?_
          obtain ⟨hix99, h⟩ := h
          refine fV_sld hF hX hb hix99 dL_law_450 ?_
          refine fV_aload_n hF dL_law_451 rfl rfl ?_
          refine fV_callSXH (As := [(aR x1), (aI (sc (Int32.toNatClampNeg (x5 + (1 : Int32))))), (aR x3)]) hF (mc_L_setHalfTime hF.2.2.2.2.2.2.2.2.1 h) (by omega) fw_832 fw_830 fw_831 fw_0 ⟨by decide, by decide, by decide +kernel⟩ (na := 3) rfl (by decide) (Nat.le_of_ble_eq_true rfl) dL_law_452 rfl (fun rv S101 n102 hp => ?_)
          obtain ⟨v100, rfl, h⟩ := hp
          refine fV_istore0 hF [some (aR (some b)), some (aR x1), some (aR x2), some (aR x3), some (aR x4), some (aI x5), some (aI v100), none, none] dL_law_455 (by rw [hxn]; decide) rfl rfl ?_
          refine fV_aload_n hF dL_law_457 rfl rfl ?_
          refine fV_aload_n hF dL_law_458 rfl rfl ?_
          refine fV_iload hF dL_law_459 rfl ?_
          refine fV_iconst (v := 1) hF dL_law_461 (by decide) ?_
          refine fV_iadd hF dL_law_462 ?_
          obtain ⟨hix103, h⟩ := h
          refine fV_sld hF hX hb hix103 dL_law_463 ?_
          obtain ⟨a104, e105, hA106, h⟩ := h
          refine fV_callV (k := 5) (As := [(aI (sc (Int32.toNatClampNeg (x5 + (1 : Int32)))))]) hF (mc_X4_setHalfTime hF.2.2.2.2.2.2.2.2.1 h) fK5 e105 hA106 (by omega) fw_1380 fw_1377 fw_1378 fw_1379 fw_10 ⟨rfl, by decide, by decide, by decide +kernel⟩ (na := 1) rfl (by decide) (Nat.le_of_ble_eq_true rfl) dL_law_464 rfl (fun rv S108 n109 hp => ?_)
          obtain ⟨v107, rfl, h⟩ := hp
          refine fV_istore0 hF [some (aR (some b)), some (aR x1), some (aR x2), some (aR x3), some (aR x4), some (aI x5), some (aI v100), some (aI v107), none] dL_law_467 (by rw [hxn]; decide) rfl rfl ?_
          refine fV_aload_n hF dL_law_469 rfl rfl ?_
          obtain ⟨hA110, h⟩ := h
          refine fV_callV (k := 5) (As := []) hF (mc_X4_thrown hF.2.2.2.2.2.2.2.2.1 h) fK5 e105 hA110 (by omega) fw_1261 fw_1258 fw_1259 fw_1260 fw_10 ⟨rfl, by decide, by decide, by decide +kernel⟩ (na := 0) rfl (by decide) (Nat.le_of_ble_eq_true rfl) dL_law_470 rfl (fun rv S9 n9 hp => ?_)
          obtain ⟨v111, rfl, rfl, rfl, h⟩ := hp
          refine fV_iload hF dL_law_473 rfl ?_
          refine fV_icmp_eq (tgt := 480) hF dL_law_475 (by decide) (fun c112 => ?_) (fun c112 => ?_)
          · have h := h.1 c112
            refine fV_iload hF dL_law_480 rfl ?_
            refine fV_if_ne (tgt := 497) hF dL_law_482 (by decide) (fun c113 => ?_) (fun c113 => ?_)
            · have h := h.1 c113
              refine fV_goto (tgt := 1886) hF dL_law_497 (by decide) ?_
              refine fV_iinc (v := 5) hF (fun y => [some (aR (some b)), some (aR x1), some (aR x2), some (aR x3), some (aR x4), some (aI y), some (aI v100), some (aI v107), none]) dL_law_1886 rfl (by decide) (by rw [hxn]; decide) rfl (fun _ => rfl) (fun v114 ev114 => ?_)
              have h := h v114 ev114
              refine fV_goto (tgt := 28) hF dL_law_1889 (by decide) ?_
              refine fV.sub (l' := [some (aR (some b)), some (aR x1), some (aR x2), some (aR x3), some (aR x4), some (aI v114), none, none, none]) ⟨rfl, ⟨rfl, ⟨rfl, ⟨rfl, ⟨rfl, ⟨rfl, trivial⟩⟩⟩⟩⟩⟩ ?_
              exact ih S108 n109 x1 x2 x3 x4 v114 h
            · have h := h.2 c113
              refine fV_aload_n hF dL_law_485 rfl rfl ?_
              refine fV_iconst (v := 0) hF dL_law_486 (by decide) ?_
              obtain ⟨a115, e116, hA117, h⟩ := h
              obtain ⟨hix118, h⟩ := h
              refine fV_lald hF e116 hA117 hix118 dL_law_487 ?_
              refine fV_iload hF dL_law_488 rfl ?_
              refine fV_i2l hF dL_law_490 ?_
              refine fV_lcmp hF dL_law_491 ?_
              refine fV_if_eq (tgt := 497) hF dL_law_492 (by decide) (fun c119 => ?_) (fun c119 => ?_)
              · have h := h.1 c119
                refine fV_goto (tgt := 1886) hF dL_law_497 (by decide) ?_
                refine fV_iinc (v := 5) hF (fun y => [some (aR (some b)), some (aR x1), some (aR x2), some (aR x3), some (aR x4), some (aI y), some (aI v100), some (aI v107), none]) dL_law_1886 rfl (by decide) (by rw [hxn]; decide) rfl (fun _ => rfl) (fun v120 ev120 => ?_)
                have h := h v120 ev120
                refine fV_goto (tgt := 28) hF dL_law_1889 (by decide) ?_
                refine fV.sub (l' := [some (aR (some b)), some (aR x1), some (aR x2), some (aR x3), some (aR x4), some (aI v120), none, none, none]) ⟨rfl, ⟨rfl, ⟨rfl, ⟨rfl, ⟨rfl, ⟨rfl, trivial⟩⟩⟩⟩⟩⟩ ?_
                exact ih S108 n109 x1 x2 x3 x4 v120 h
              · have h := h.2 c119
                refine fV_iconst (v := 0) hF dL_law_495 (by decide) ?_
                exact h.elim
          · have h := h.2 c112
            refine fV_iconst (v := 0) hF dL_law_478 (by decide) ?_
            exact h.elim
        · have h := h.2.2.2.2.2.1 c
          refine fV_tableIn (tgt := 500) (off := 456) hF dL_law_44 c1 c2 (by rw [c]; decide) (by decide) ?_
          refine fV_aload_n hF dL_law_500 rfl rfl ?_
          obtain ⟨a121, e122, hA123, h⟩ := h
          refine fV_callV (k := 4) (As := []) hF (mc_X3_teams hF.2.2.2.2.2.2.2.2.1 h) fK4 e122 hA123 (by omega) fw_229 fw_226 fw_227 fw_228 fw_1 ⟨rfl, by decide, by decide, by decide +kernel⟩ (na := 0) rfl (by decide) (Nat.le_of_ble_eq_true rfl) dL_law_501 rfl (fun rv S9 n9 hp => ?_)
          obtain ⟨v124, rfl, rfl, rfl, h⟩ := hp
          refine fV_aload_n hF dL_law_504 rfl rfl ?_
          obtain ⟨a125, e126, hA127, h⟩ := h
          refine fV_callV (k := 5) (As := []) hF (mc_X4_teams hF.2.2.2.2.2.2.2.2.1 h) fK5 e126 hA127 (by omega) fw_1384 fw_1381 fw_1382 fw_1383 fw_10 ⟨rfl, by decide, by decide, by decide +kernel⟩ (na := 0) rfl (by decide) (Nat.le_of_ble_eq_true rfl) dL_law_505 rfl (fun rv S129 n130 hp => ?_)
          obtain ⟨v128, rfl, h⟩ := hp
          refine fV_icmp_eq (tgt := 1886) hF dL_law_508 (by decide) (fun c131 => ?_) (fun c131 => ?_)
          · have h := h.1 c131
            refine fV_iinc (v := 5) hF (fun y => [some (aR (some b)), some (aR x1), some (aR x2), some (aR x3), some (aR x4), some (aI y), none, none, none]) dL_law_1886 rfl (by decide) (by rw [hxn]; decide) rfl (fun _ => rfl) (fun v132 ev132 => ?_)
            have h := h v132 ev132
            refine fV_goto (tgt := 28) hF dL_law_1889 (by decide) ?_
            refine fV.sub (l' := [some (aR (some b)), some (aR x1), some (aR x2), some (aR x3), some (aR x4), some (aI v132), none, none, none]) ⟨rfl, ⟨rfl, ⟨rfl, ⟨rfl, ⟨rfl, ⟨rfl, trivial⟩⟩⟩⟩⟩⟩ ?_
            exact ih S129 n130 x1 x2 x3 x4 v132 h
          · have h := h.2 c131
            refine fV_iconst (v := 0) hF dL_law_511 (by decide) ?_
            exact h.elim
        · have h := h.2.2.2.2.2.2.1 c
          refine fV_tableIn (tgt := 513) (off := 469) hF dL_law_44 c1 c2 (by rw [c]; decide) (by decide) ?_
          refine fV_aload_n hF dL_law_513 rfl rfl ?_
          refine fV_aload_n hF dL_law_514 rfl rfl ?_
          refine fV_iload hF dL_law_515 rfl ?_
          refine fV_iconst (v := 1) hF dL_law_517 (by decide) ?_
          refine fV_iadd hF dL_law_518 ?_
          obtain ⟨hix133, h⟩ := h
          refine fV_sld hF hX hb hix133 dL_law_519 ?_
          refine fV_aload_n hF dL_law_520 rfl rfl ?_
          refine fV_callSXH (As := [(aR x1), (aI (sc (Int32.toNatClampNeg (x5 + (1 : Int32))))), (aR x3)]) hF (mc_L_parentOf hF.2.2.2.2.2.2.2.2.1 h) (by omega) fw_839 fw_837 fw_838 fw_0 ⟨by decide, by decide, by decide +kernel⟩ (na := 3) rfl (by decide) (Nat.le_of_ble_eq_true rfl) dL_law_521 rfl (fun rv S135 n136 hp => ?_)
          obtain ⟨v134, rfl, h⟩ := hp
          refine fV_istore0 hF [some (aR (some b)), some (aR x1), some (aR x2), some (aR x3), some (aR x4), some (aI x5), some (aI v134), none, none] dL_law_524 (by rw [hxn]; decide) rfl rfl ?_
          refine fV_aload_n hF dL_law_526 rfl rfl ?_
          refine fV_aload_n hF dL_law_527 rfl rfl ?_
          refine fV_iload hF dL_law_528 rfl ?_
          refine fV_iconst (v := 1) hF dL_law_530 (by decide) ?_
          refine fV_iadd hF dL_law_531 ?_
          obtain ⟨hix137, h⟩ := h
          refine fV_sld hF hX hb hix137 dL_law_532 ?_
          obtain ⟨a138, e139, hA140, h⟩ := h
          refine fV_callV (k := 5) (As := [(aI (sc (Int32.toNatClampNeg (x5 + (1 : Int32)))))]) hF (mc_X4_parentOf hF.2.2.2.2.2.2.2.2.1 h) fK5 e139 hA140 (by omega) fw_1388 fw_1385 fw_1386 fw_1387 fw_10 ⟨rfl, by decide, by decide, by decide +kernel⟩ (na := 1) rfl (by decide) (Nat.le_of_ble_eq_true rfl) dL_law_533 rfl (fun rv S142 n143 hp => ?_)
          obtain ⟨v141, rfl, h⟩ := hp
          refine fV_istore0 hF [some (aR (some b)), some (aR x1), some (aR x2), some (aR x3), some (aR x4), some (aI x5), some (aI v134), some (aI v141), none] dL_law_536 (by rw [hxn]; decide) rfl rfl ?_
          refine fV_aload_n hF dL_law_538 rfl rfl ?_
          obtain ⟨hA144, h⟩ := h
          refine fV_callV (k := 5) (As := []) hF (mc_X4_thrown hF.2.2.2.2.2.2.2.2.1 h) fK5 e139 hA144 (by omega) fw_1261 fw_1258 fw_1259 fw_1260 fw_10 ⟨rfl, by decide, by decide, by decide +kernel⟩ (na := 0) rfl (by decide) (Nat.le_of_ble_eq_true rfl) dL_law_539 rfl (fun rv S9 n9 hp => ?_)
          obtain ⟨v145, rfl, rfl, rfl, h⟩ := hp
          refine fV_iload hF dL_law_542 rfl ?_
          refine fV_icmp_eq (tgt := 549) hF dL_law_544 (by decide) (fun c146 => ?_) (fun c146 => ?_)
          · have h := h.1 c146
            refine fV_iload hF dL_law_549 rfl ?_
            refine fV_if_ne (tgt := 566) hF dL_law_551 (by decide) (fun c147 => ?_) (fun c147 => ?_)
            · have h := h.1 c147
              refine fV_goto (tgt := 1886) hF dL_law_566 (by decide) ?_
              refine fV_iinc (v := 5) hF (fun y => [some (aR (some b)), some (aR x1), some (aR x2), some (aR x3), some (aR x4), some (aI y), some (aI v134), some (aI v141), none]) dL_law_1886 rfl (by decide) (by rw [hxn]; decide) rfl (fun _ => rfl) (fun v148 ev148 => ?_)
              have h := h v148 ev148
              refine fV_goto (tgt := 28) hF dL_law_1889 (by decide) ?_
              refine fV.sub (l' := [some (aR (some b)), some (aR x1), some (aR x2), some (aR x3), some (aR x4), some (aI v148), none, none, none]) ⟨rfl, ⟨rfl, ⟨rfl, ⟨rfl, ⟨rfl, ⟨rfl, trivial⟩⟩⟩⟩⟩⟩ ?_
              exact ih S142 n143 x1 x2 x3 x4 v148 h
            · have h := h.2 c147
              refine fV_aload_n hF dL_law_554 rfl rfl ?_
              refine fV_iconst (v := 0) hF dL_law_555 (by decide) ?_
              obtain ⟨a149, e150, hA151, h⟩ := h
              obtain ⟨hix152, h⟩ := h
              refine fV_lald hF e150 hA151 hix152 dL_law_556 ?_
              refine fV_iload hF dL_law_557 rfl ?_
              refine fV_i2l hF dL_law_559 ?_
              refine fV_lcmp hF dL_law_560 ?_
              refine fV_if_eq (tgt := 566) hF dL_law_561 (by decide) (fun c153 => ?_) (fun c153 => ?_)
              · have h := h.1 c153
                refine fV_goto (tgt := 1886) hF dL_law_566 (by decide) ?_
                refine fV_iinc (v := 5) hF (fun y => [some (aR (some b)), some (aR x1), some (aR x2), some (aR x3), some (aR x4), some (aI y), some (aI v134), some (aI v141), none]) dL_law_1886 rfl (by decide) (by rw [hxn]; decide) rfl (fun _ => rfl) (fun v154 ev154 => ?_)
                have h := h v154 ev154
                refine fV_goto (tgt := 28) hF dL_law_1889 (by decide) ?_
                refine fV.sub (l' := [some (aR (some b)), some (aR x1), some (aR x2), some (aR x3), some (aR x4), some (aI v154), none, none, none]) ⟨rfl, ⟨rfl, ⟨rfl, ⟨rfl, ⟨rfl, ⟨rfl, trivial⟩⟩⟩⟩⟩⟩ ?_
                exact ih S142 n143 x1 x2 x3 x4 v154 h
              · have h := h.2 c153
                refine fV_iconst (v := 0) hF dL_law_564 (by decide) ?_
                exact h.elim
          · have h := h.2 c146
            refine fV_iconst (v := 0) hF dL_law_547 (by decide) ?_
            exact h.elim
        · have h := h.2.2.2.2.2.2.2.1 c
          refine fV_tableIn (tgt := 569) (off := 525) hF dL_law_44 c1 c2 (by rw [c]; decide) (by decide) ?_
          refine fV_aload_n hF dL_law_569 rfl rfl ?_
          refine fV_aload_n hF dL_law_570 rfl rfl ?_
          refine fV_iload hF dL_law_571 rfl ?_
          refine fV_iconst (v := 1) hF dL_law_573 (by decide) ?_
          refine fV_iadd hF dL_law_574 ?_
          obtain ⟨hix155, h⟩ := h
          refine fV_sld hF hX hb hix155 dL_law_575 ?_
          refine fV_aload_n hF dL_law_576 rfl rfl ?_
          refine fV_callSXH (As := [(aR x1), (aI (sc (Int32.toNatClampNeg (x5 + (1 : Int32))))), (aR x3)]) hF (mc_L_children hF.2.2.2.2.2.2.2.2.1 h) (by omega) fw_846 fw_844 fw_845 fw_0 ⟨by decide, by decide, by decide +kernel⟩ (na := 3) rfl (by decide) (Nat.le_of_ble_eq_true rfl) dL_law_577 rfl (fun rv S157 n158 hp => ?_)
          obtain ⟨v156, rfl, h⟩ := hp
          refine fV_istore0 hF [some (aR (some b)), some (aR x1), some (aR x2), some (aR x3), some (aR x4), some (aI x5), some (aI v156), none, none] dL_law_580 (by rw [hxn]; decide) rfl rfl ?_
          refine fV_aload_n hF dL_law_582 rfl rfl ?_
          refine fV_aload_n hF dL_law_583 rfl rfl ?_
          refine fV_iload hF dL_law_584 rfl ?_
          refine fV_iconst (v := 1) hF dL_law_586 (by decide) ?_
          refine fV_iadd hF dL_law_587 ?_
          obtain ⟨hix159, h⟩ := h
          refine fV_sld hF hX hb hix159 dL_law_588 ?_
          obtain ⟨a160, e161, hA162, h⟩ := h
          refine fV_callV (k := 5) (As := [(aI (sc (Int32.toNatClampNeg (x5 + (1 : Int32)))))]) hF (mc_X4_children hF.2.2.2.2.2.2.2.2.1 h) fK5 e161 hA162 (by omega) fw_1392 fw_1389 fw_1390 fw_1391 fw_10 ⟨rfl, by decide, by decide, by decide +kernel⟩ (na := 1) rfl (by decide) (Nat.le_of_ble_eq_true rfl) dL_law_589 rfl (fun rv S164 n165 hp => ?_)
          obtain ⟨v163, rfl, h⟩ := hp
          refine fV_istore0 hF [some (aR (some b)), some (aR x1), some (aR x2), some (aR x3), some (aR x4), some (aI x5), some (aI v156), some (aI v163), none] dL_law_592 (by rw [hxn]; decide) rfl rfl ?_
          refine fV_aload_n hF dL_law_594 rfl rfl ?_
          obtain ⟨hA166, h⟩ := h
          refine fV_callV (k := 5) (As := []) hF (mc_X4_thrown hF.2.2.2.2.2.2.2.2.1 h) fK5 e161 hA166 (by omega) fw_1261 fw_1258 fw_1259 fw_1260 fw_10 ⟨rfl, by decide, by decide, by decide +kernel⟩ (na := 0) rfl (by decide) (Nat.le_of_ble_eq_true rfl) dL_law_595 rfl (fun rv S9 n9 hp => ?_)
          obtain ⟨v167, rfl, rfl, rfl, h⟩ := hp
          refine fV_iload hF dL_law_598 rfl ?_
          refine fV_icmp_eq (tgt := 605) hF dL_law_600 (by decide) (fun c168 => ?_) (fun c168 => ?_)
          · have h := h.1 c168
            refine fV_iload hF dL_law_605 rfl ?_
            refine fV_if_ne (tgt := 622) hF dL_law_607 (by decide) (fun c169 => ?_) (fun c169 => ?_)
            · have h := h.1 c169
              refine fV_goto (tgt := 1886) hF dL_law_622 (by decide) ?_
              refine fV_iinc (v := 5) hF (fun y => [some (aR (some b)), some (aR x1), some (aR x2), some (aR x3), some (aR x4), some (aI y), some (aI v156), some (aI v163), none]) dL_law_1886 rfl (by decide) (by rw [hxn]; decide) rfl (fun _ => rfl) (fun v170 ev170 => ?_)
              have h := h v170 ev170
              refine fV_goto (tgt := 28) hF dL_law_1889 (by decide) ?_
              refine fV.sub (l' := [some (aR (some b)), some (aR x1), some (aR x2), some (aR x3), some (aR x4), some (aI v170), none, none, none]) ⟨rfl, ⟨rfl, ⟨rfl, ⟨rfl, ⟨rfl, ⟨rfl, trivial⟩⟩⟩⟩⟩⟩ ?_
              exact ih S164 n165 x1 x2 x3 x4 v170 h
            · have h := h.2 c169
              refine fV_aload_n hF dL_law_610 rfl rfl ?_
              refine fV_iconst (v := 0) hF dL_law_611 (by decide) ?_
              obtain ⟨a171, e172, hA173, h⟩ := h
              obtain ⟨hix174, h⟩ := h
              refine fV_lald hF e172 hA173 hix174 dL_law_612 ?_
              refine fV_iload hF dL_law_613 rfl ?_
              refine fV_i2l hF dL_law_615 ?_
              refine fV_lcmp hF dL_law_616 ?_
              refine fV_if_eq (tgt := 622) hF dL_law_617 (by decide) (fun c175 => ?_) (fun c175 => ?_)
              · have h := h.1 c175
                refine fV_goto (tgt := 1886) hF dL_law_622 (by decide) ?_
                refine fV_iinc (v := 5) hF (fun y => [some (aR (some b)), some (aR x1), some (aR x2), some (aR x3), some (aR x4), some (aI y), some (aI v156), some (aI v163), none]) dL_law_1886 rfl (by decide) (by rw [hxn]; decide) rfl (fun _ => rfl) (fun v176 ev176 => ?_)
                have h := h v176 ev176
                refine fV_goto (tgt := 28) hF dL_law_1889 (by decide) ?_
                refine fV.sub (l' := [some (aR (some b)), some (aR x1), some (aR x2), some (aR x3), some (aR x4), some (aI v176), none, none, none]) ⟨rfl, ⟨rfl, ⟨rfl, ⟨rfl, ⟨rfl, ⟨rfl, trivial⟩⟩⟩⟩⟩⟩ ?_
                exact ih S164 n165 x1 x2 x3 x4 v176 h
              · have h := h.2 c175
                refine fV_iconst (v := 0) hF dL_law_620 (by decide) ?_
                exact h.elim
          · have h := h.2 c168
            refine fV_iconst (v := 0) hF dL_law_603 (by decide) ?_
            exact h.elim
        · have h := h.2.2.2.2.2.2.2.2.1 c
          refine fV_tableIn (tgt := 625) (off := 581) hF dL_law_44 c1 c2 (by rw [c]; decide) (by decide) ?_
          refine fV_aload_n hF dL_law_625 rfl rfl ?_
          refine fV_aload_n hF dL_law_626 rfl rfl ?_
          refine fV_iload hF dL_law_627 rfl ?_
          refine fV_iconst (v := 1) hF dL_law_629 (by decide) ?_
          refine fV_iadd hF dL_law_630 ?_
          obtain ⟨hix177, h⟩ := h
          refine fV_sld hF hX hb hix177 dL_law_631 ?_
          refine fV_aload_n hF dL_law_632 rfl rfl ?_
          refine fV_iload hF dL_law_633 rfl ?_
          refine fV_iconst (v := 2) hF dL_law_635 (by decide) ?_
          refine fV_iadd hF dL_law_636 ?_
          obtain ⟨hix178, h⟩ := h
          refine fV_sld hF hX hb hix178 dL_law_637 ?_
          refine fV_aload_n hF dL_law_638 rfl rfl ?_
          refine fV_iload hF dL_law_639 rfl ?_
          refine fV_iconst (v := 3) hF dL_law_641 (by decide) ?_
          refine fV_iadd hF dL_law_642 ?_
          obtain ⟨hix179, h⟩ := h
          refine fV_sld hF hX hb hix179 dL_law_643 ?_
          refine fV_aload_n hF dL_law_644 rfl rfl ?_
          refine fV_callSXH (As := [(aR x1), (aI (sc (Int32.toNatClampNeg (x5 + (1 : Int32))))), (aI (sc (Int32.toNatClampNeg (x5 + (2 : Int32))))), (aI (sc (Int32.toNatClampNeg (x5 + (3 : Int32))))), (aR x3)]) hF (mc_L_submit hF.2.2.2.2.2.2.2.2.1 h) (by omega) fw_853 fw_851 fw_852 fw_0 ⟨by decide, by decide, by decide +kernel⟩ (na := 5) rfl (by decide) (Nat.le_of_ble_eq_true rfl) dL_law_645 rfl (fun rv S181 n182 hp => ?_)
          obtain ⟨v180, rfl, h⟩ := hp
          refine fV_istore0 hF [some (aR (some b)), some (aR x1), some (aR x2), some (aR x3), some (aR x4), some (aI x5), some (aI v180), none, none] dL_law_648 (by rw [hxn]; decide) rfl rfl ?_
          refine fV_aload_n hF dL_law_650 rfl rfl ?_
          refine fV_aload_n hF dL_law_651 rfl rfl ?_
          refine fV_iload hF dL_law_652 rfl ?_
          refine fV_iconst (v := 1) hF dL_law_654 (by decide) ?_
          refine fV_iadd hF dL_law_655 ?_
          obtain ⟨hix183, h⟩ := h
          refine fV_sld hF hX hb hix183 dL_law_656 ?_
          refine fV_aload_n hF dL_law_657 rfl rfl ?_
          refine fV_iload hF dL_law_658 rfl ?_
          refine fV_iconst (v := 2) hF dL_law_660 (by decide) ?_
          refine fV_iadd hF dL_law_661 ?_
          obtain ⟨hix184, h⟩ := h
          refine fV_sld hF hX hb hix184 dL_law_662 ?_
          refine fV_aload_n hF dL_law_663 rfl rfl ?_
          refine fV_iload hF dL_law_664 rfl ?_
          refine fV_iconst (v := 3) hF dL_law_666 (by decide) ?_
          refine fV_iadd hF dL_law_667 ?_
          obtain ⟨hix185, h⟩ := h
          refine fV_sld hF hX hb hix185 dL_law_668 ?_
          obtain ⟨a186, e187, hA188, h⟩ := h
          refine fV_callV (k := 5) (As := [(aI (sc (Int32.toNatClampNeg (x5 + (1 : Int32))))), (aI (sc (Int32.toNatClampNeg (x5 + (2 : Int32))))), (aI (sc (Int32.toNatClampNeg (x5 + (3 : Int32)))))]) hF (mc_X4_submit hF.2.2.2.2.2.2.2.2.1 h) fK5 e187 hA188 (by omega) fw_1396 fw_1393 fw_1394 fw_1395 fw_10 ⟨rfl, by decide, by decide, by decide +kernel⟩ (na := 3) rfl (by decide) (Nat.le_of_ble_eq_true rfl) dL_law_669 rfl (fun rv S190 n191 hp => ?_)
          obtain ⟨v189, rfl, h⟩ := hp
          refine fV_istore0 hF [some (aR (some b)), some (aR x1), some (aR x2), some (aR x3), some (aR x4), some (aI x5), some (aI v180), some (aI v189), none] dL_law_672 (by rw [hxn]; decide) rfl rfl ?_
          refine fV_aload_n hF dL_law_674 rfl rfl ?_
          obtain ⟨hA192, h⟩ := h
          refine fV_callV (k := 5) (As := []) hF (mc_X4_thrown hF.2.2.2.2.2.2.2.2.1 h) fK5 e187 hA192 (by omega) fw_1261 fw_1258 fw_1259 fw_1260 fw_10 ⟨rfl, by decide, by decide, by decide +kernel⟩ (na := 0) rfl (by decide) (Nat.le_of_ble_eq_true rfl) dL_law_675 rfl (fun rv S9 n9 hp => ?_)
          obtain ⟨v193, rfl, rfl, rfl, h⟩ := hp
          refine fV_iload hF dL_law_678 rfl ?_
          refine fV_icmp_eq (tgt := 685) hF dL_law_680 (by decide) (fun c194 => ?_) (fun c194 => ?_)
          · have h := h.1 c194
            refine fV_iload hF dL_law_685 rfl ?_
            refine fV_if_ne (tgt := 702) hF dL_law_687 (by decide) (fun c195 => ?_) (fun c195 => ?_)
            · have h := h.1 c195
              refine fV_goto (tgt := 1886) hF dL_law_702 (by decide) ?_
              refine fV_iinc (v := 5) hF (fun y => [some (aR (some b)), some (aR x1), some (aR x2), some (aR x3), some (aR x4), some (aI y), some (aI v180), some (aI v189), none]) dL_law_1886 rfl (by decide) (by rw [hxn]; decide) rfl (fun _ => rfl) (fun v196 ev196 => ?_)
              have h := h v196 ev196
              refine fV_goto (tgt := 28) hF dL_law_1889 (by decide) ?_
              refine fV.sub (l' := [some (aR (some b)), some (aR x1), some (aR x2), some (aR x3), some (aR x4), some (aI v196), none, none, none]) ⟨rfl, ⟨rfl, ⟨rfl, ⟨rfl, ⟨rfl, ⟨rfl, trivial⟩⟩⟩⟩⟩⟩ ?_
              exact ih S190 n191 x1 x2 x3 x4 v196 h
            · have h := h.2 c195
              refine fV_aload_n hF dL_law_690 rfl rfl ?_
              refine fV_iconst (v := 0) hF dL_law_691 (by decide) ?_
              obtain ⟨a197, e198, hA199, h⟩ := h
              obtain ⟨hix200, h⟩ := h
              refine fV_lald hF e198 hA199 hix200 dL_law_692 ?_
              refine fV_iload hF dL_law_693 rfl ?_
              refine fV_i2l hF dL_law_695 ?_
              refine fV_lcmp hF dL_law_696 ?_
              refine fV_if_eq (tgt := 702) hF dL_law_697 (by decide) (fun c201 => ?_) (fun c201 => ?_)
              · have h := h.1 c201
                refine fV_goto (tgt := 1886) hF dL_law_702 (by decide) ?_
                refine fV_iinc (v := 5) hF (fun y => [some (aR (some b)), some (aR x1), some (aR x2), some (aR x3), some (aR x4), some (aI y), some (aI v180), some (aI v189), none]) dL_law_1886 rfl (by decide) (by rw [hxn]; decide) rfl (fun _ => rfl) (fun v202 ev202 => ?_)
                have h := h v202 ev202
                refine fV_goto (tgt := 28) hF dL_law_1889 (by decide) ?_
                refine fV.sub (l' := [some (aR (some b)), some (aR x1), some (aR x2), some (aR x3), some (aR x4), some (aI v202), none, none, none]) ⟨rfl, ⟨rfl, ⟨rfl, ⟨rfl, ⟨rfl, ⟨rfl, trivial⟩⟩⟩⟩⟩⟩ ?_
                exact ih S190 n191 x1 x2 x3 x4 v202 h
              · have h := h.2 c201
                refine fV_iconst (v := 0) hF dL_law_700 (by decide) ?_
                exact h.elim
          · have h := h.2 c194
            refine fV_iconst (v := 0) hF dL_law_683 (by decide) ?_
            exact h.elim
        · have h := h.2.2.2.2.2.2.2.2.2.1 c
          refine fV_tableIn (tgt := 705) (off := 661) hF dL_law_44 c1 c2 (by rw [c]; decide) (by decide) ?_
          refine fV_aload_n hF dL_law_705 rfl rfl ?_
          refine fV_aload_n hF dL_law_706 rfl rfl ?_
          refine fV_iload hF dL_law_707 rfl ?_
          refine fV_iconst (v := 1) hF dL_law_709 (by decide) ?_
          refine fV_iadd hF dL_law_710 ?_
          obtain ⟨hix203, h⟩ := h
          refine fV_sld hF hX hb hix203 dL_law_711 ?_
          refine fV_aload_n hF dL_law_712 rfl rfl ?_
          refine fV_callSXH (As := [(aR x1), (aI (sc (Int32.toNatClampNeg (x5 + (1 : Int32))))), (aR x3)]) hF (mc_L_cancel hF.2.2.2.2.2.2.2.2.1 h) (by omega) fw_911 fw_909 fw_910 fw_0 ⟨by decide, by decide, by decide +kernel⟩ (na := 3) rfl (by decide) (Nat.le_of_ble_eq_true rfl) dL_law_713 rfl (fun rv S205 n206 hp => ?_)
          obtain ⟨v204, rfl, h⟩ := hp
          refine fV_istore0 hF [some (aR (some b)), some (aR x1), some (aR x2), some (aR x3), some (aR x4), some (aI x5), some (aI v204), none, none] dL_law_716 (by rw [hxn]; decide) rfl rfl ?_
          refine fV_aload_n hF dL_law_718 rfl rfl ?_
          refine fV_aload_n hF dL_law_719 rfl rfl ?_
          refine fV_iload hF dL_law_720 rfl ?_
          refine fV_iconst (v := 1) hF dL_law_722 (by decide) ?_
          refine fV_iadd hF dL_law_723 ?_
          obtain ⟨hix207, h⟩ := h
          refine fV_sld hF hX hb hix207 dL_law_724 ?_
          obtain ⟨a208, e209, hA210, h⟩ := h
          refine fV_callV (k := 5) (As := [(aI (sc (Int32.toNatClampNeg (x5 + (1 : Int32)))))]) hF (mc_X4_cancel hF.2.2.2.2.2.2.2.2.1 h) fK5 e209 hA210 (by omega) fw_1400 fw_1397 fw_1398 fw_1399 fw_10 ⟨rfl, by decide, by decide, by decide +kernel⟩ (na := 1) rfl (by decide) (Nat.le_of_ble_eq_true rfl) dL_law_725 rfl (fun rv S212 n213 hp => ?_)
          obtain ⟨v211, rfl, h⟩ := hp
          refine fV_istore0 hF [some (aR (some b)), some (aR x1), some (aR x2), some (aR x3), some (aR x4), some (aI x5), some (aI v204), some (aI v211), none] dL_law_728 (by rw [hxn]; decide) rfl rfl ?_
          refine fV_aload_n hF dL_law_730 rfl rfl ?_
          obtain ⟨hA214, h⟩ := h
          refine fV_callV (k := 5) (As := []) hF (mc_X4_thrown hF.2.2.2.2.2.2.2.2.1 h) fK5 e209 hA214 (by omega) fw_1261 fw_1258 fw_1259 fw_1260 fw_10 ⟨rfl, by decide, by decide, by decide +kernel⟩ (na := 0) rfl (by decide) (Nat.le_of_ble_eq_true rfl) dL_law_731 rfl (fun rv S9 n9 hp => ?_)
          obtain ⟨v215, rfl, rfl, rfl, h⟩ := hp
          refine fV_iload hF dL_law_734 rfl ?_
          refine fV_icmp_eq (tgt := 741) hF dL_law_736 (by decide) (fun c216 => ?_) (fun c216 => ?_)
          · have h := h.1 c216
            refine fV_iload hF dL_law_741 rfl ?_
            refine fV_if_ne (tgt := 758) hF dL_law_743 (by decide) (fun c217 => ?_) (fun c217 => ?_)
            · have h := h.1 c217
              refine fV_goto (tgt := 1886) hF dL_law_758 (by decide) ?_
              refine fV_iinc (v := 5) hF (fun y => [some (aR (some b)), some (aR x1), some (aR x2), some (aR x3), some (aR x4), some (aI y), some (aI v204), some (aI v211), none]) dL_law_1886 rfl (by decide) (by rw [hxn]; decide) rfl (fun _ => rfl) (fun v218 ev218 => ?_)
              have h := h v218 ev218
              refine fV_goto (tgt := 28) hF dL_law_1889 (by decide) ?_
              refine fV.sub (l' := [some (aR (some b)), some (aR x1), some (aR x2), some (aR x3), some (aR x4), some (aI v218), none, none, none]) ⟨rfl, ⟨rfl, ⟨rfl, ⟨rfl, ⟨rfl, ⟨rfl, trivial⟩⟩⟩⟩⟩⟩ ?_
              exact ih S212 n213 x1 x2 x3 x4 v218 h
            · have h := h.2 c217
              refine fV_aload_n hF dL_law_746 rfl rfl ?_
              refine fV_iconst (v := 0) hF dL_law_747 (by decide) ?_
              obtain ⟨a219, e220, hA221, h⟩ := h
              obtain ⟨hix222, h⟩ := h
              refine fV_lald hF e220 hA221 hix222 dL_law_748 ?_
              refine fV_iload hF dL_law_749 rfl ?_
              refine fV_i2l hF dL_law_751 ?_
              refine fV_lcmp hF dL_law_752 ?_
              refine fV_if_eq (tgt := 758) hF dL_law_753 (by decide) (fun c223 => ?_) (fun c223 => ?_)
              · have h := h.1 c223
                refine fV_goto (tgt := 1886) hF dL_law_758 (by decide) ?_
                refine fV_iinc (v := 5) hF (fun y => [some (aR (some b)), some (aR x1), some (aR x2), some (aR x3), some (aR x4), some (aI y), some (aI v204), some (aI v211), none]) dL_law_1886 rfl (by decide) (by rw [hxn]; decide) rfl (fun _ => rfl) (fun v224 ev224 => ?_)
                have h := h v224 ev224
                refine fV_goto (tgt := 28) hF dL_law_1889 (by decide) ?_
                refine fV.sub (l' := [some (aR (some b)), some (aR x1), some (aR x2), some (aR x3), some (aR x4), some (aI v224), none, none, none]) ⟨rfl, ⟨rfl, ⟨rfl, ⟨rfl, ⟨rfl, ⟨rfl, trivial⟩⟩⟩⟩⟩⟩ ?_
                exact ih S212 n213 x1 x2 x3 x4 v224 h
              · have h := h.2 c223
                refine fV_iconst (v := 0) hF dL_law_756 (by decide) ?_
                exact h.elim
          · have h := h.2 c216
            refine fV_iconst (v := 0) hF dL_law_739 (by decide) ?_
            exact h.elim
        · have h := h.2.2.2.2.2.2.2.2.2.2.1 c
          refine fV_tableIn (tgt := 761) (off := 717) hF dL_law_44 c1 c2 (by rw [c]; decide) (by decide) ?_
          refine fV_aload_n hF dL_law_761 rfl rfl ?_
          refine fV_aload_n hF dL_law_762 rfl rfl ?_
          refine fV_iload hF dL_law_763 rfl ?_
          refine fV_iconst (v := 1) hF dL_law_765 (by decide) ?_
          refine fV_iadd hF dL_law_766 ?_
          obtain ⟨hix225, h⟩ := h
          refine fV_sld hF hX hb hix225 dL_law_767 ?_
          refine fV_aload_n hF dL_law_768 rfl rfl ?_
          refine fV_callSXH (As := [(aR x1), (aI (sc (Int32.toNatClampNeg (x5 + (1 : Int32))))), (aR x3)]) hF (mc_L_pass hF.2.2.2.2.2.2.2.2.1 h) (by omega) fw_960 fw_958 fw_959 fw_0 ⟨by decide, by decide, by decide +kernel⟩ (na := 3) rfl (by decide) (Nat.le_of_ble_eq_true rfl) dL_law_769 rfl (fun rv S227 n228 hp => ?_)
          obtain ⟨v226, rfl, h⟩ := hp
          refine fV_istore0 hF [some (aR (some b)), some (aR x1), some (aR x2), some (aR x3), some (aR x4), some (aI x5), some (aI v226), none, none] dL_law_772 (by rw [hxn]; decide) rfl rfl ?_
          refine fV_aload_n hF dL_law_774 rfl rfl ?_
          refine fV_aload_n hF dL_law_775 rfl rfl ?_
          refine fV_iload hF dL_law_776 rfl ?_
          refine fV_iconst (v := 1) hF dL_law_778 (by decide) ?_
          refine fV_iadd hF dL_law_779 ?_
          obtain ⟨hix229, h⟩ := h
          refine fV_sld hF hX hb hix229 dL_law_780 ?_
          obtain ⟨a230, e231, hA232, h⟩ := h
          refine fV_callV (k := 5) (As := [(aI (sc (Int32.toNatClampNeg (x5 + (1 : Int32)))))]) hF (mc_X4_pass hF.2.2.2.2.2.2.2.2.1 h) fK5 e231 hA232 (by omega) fw_1416 fw_1413 fw_1414 fw_1415 fw_10 ⟨rfl, by decide, by decide, by decide +kernel⟩ (na := 1) rfl (by decide) (Nat.le_of_ble_eq_true rfl) dL_law_781 rfl (fun rv S234 n235 hp => ?_)
          obtain ⟨v233, rfl, h⟩ := hp
          refine fV_istore0 hF [some (aR (some b)), some (aR x1), some (aR x2), some (aR x3), some (aR x4), some (aI x5), some (aI v226), some (aI v233), none] dL_law_784 (by rw [hxn]; decide) rfl rfl ?_
          refine fV_aload_n hF dL_law_786 rfl rfl ?_
          obtain ⟨hA236, h⟩ := h
          refine fV_callV (k := 5) (As := []) hF (mc_X4_thrown hF.2.2.2.2.2.2.2.2.1 h) fK5 e231 hA236 (by omega) fw_1261 fw_1258 fw_1259 fw_1260 fw_10 ⟨rfl, by decide, by decide, by decide +kernel⟩ (na := 0) rfl (by decide) (Nat.le_of_ble_eq_true rfl) dL_law_787 rfl (fun rv S9 n9 hp => ?_)
          obtain ⟨v237, rfl, rfl, rfl, h⟩ := hp
          refine fV_iload hF dL_law_790 rfl ?_
          refine fV_icmp_eq (tgt := 797) hF dL_law_792 (by decide) (fun c238 => ?_) (fun c238 => ?_)
          · have h := h.1 c238
            refine fV_iload hF dL_law_797 rfl ?_
            refine fV_if_ne (tgt := 814) hF dL_law_799 (by decide) (fun c239 => ?_) (fun c239 => ?_)
            · have h := h.1 c239
              refine fV_goto (tgt := 1886) hF dL_law_814 (by decide) ?_
              refine fV_iinc (v := 5) hF (fun y => [some (aR (some b)), some (aR x1), some (aR x2), some (aR x3), some (aR x4), some (aI y), some (aI v226), some (aI v233), none]) dL_law_1886 rfl (by decide) (by rw [hxn]; decide) rfl (fun _ => rfl) (fun v240 ev240 => ?_)
              have h := h v240 ev240
              refine fV_goto (tgt := 28) hF dL_law_1889 (by decide) ?_
              refine fV.sub (l' := [some (aR (some b)), some (aR x1), some (aR x2), some (aR x3), some (aR x4), some (aI v240), none, none, none]) ⟨rfl, ⟨rfl, ⟨rfl, ⟨rfl, ⟨rfl, ⟨rfl, trivial⟩⟩⟩⟩⟩⟩ ?_
              exact ih S234 n235 x1 x2 x3 x4 v240 h
            · have h := h.2 c239
              refine fV_aload_n hF dL_law_802 rfl rfl ?_
              refine fV_iconst (v := 0) hF dL_law_803 (by decide) ?_
              obtain ⟨a241, e242, hA243, h⟩ := h
              obtain ⟨hix244, h⟩ := h
              refine fV_lald hF e242 hA243 hix244 dL_law_804 ?_
              refine fV_iload hF dL_law_805 rfl ?_
              refine fV_i2l hF dL_law_807 ?_
              refine fV_lcmp hF dL_law_808 ?_
              refine fV_if_eq (tgt := 814) hF dL_law_809 (by decide) (fun c245 => ?_) (fun c245 => ?_)
              · have h := h.1 c245
                refine fV_goto (tgt := 1886) hF dL_law_814 (by decide) ?_
                refine fV_iinc (v := 5) hF (fun y => [some (aR (some b)), some (aR x1), some (aR x2), some (aR x3), some (aR x4), some (aI y), some (aI v226), some (aI v233), none]) dL_law_1886 rfl (by decide) (by rw [hxn]; decide) rfl (fun _ => rfl) (fun v246 ev246 => ?_)
                have h := h v246 ev246
                refine fV_goto (tgt := 28) hF dL_law_1889 (by decide) ?_
                refine fV.sub (l' := [some (aR (some b)), some (aR x1), some (aR x2), some (aR x3), some (aR x4), some (aI v246), none, none, none]) ⟨rfl, ⟨rfl, ⟨rfl, ⟨rfl, ⟨rfl, ⟨rfl, trivial⟩⟩⟩⟩⟩⟩ ?_
                exact ih S234 n235 x1 x2 x3 x4 v246 h
              · have h := h.2 c245
                refine fV_iconst (v := 0) hF dL_law_812 (by decide) ?_
                exact h.elim
          · have h := h.2 c238
            refine fV_iconst (v := 0) hF dL_law_795 (by decide) ?_
            exact h.elim
        · have h := h.2.2.2.2.2.2.2.2.2.2.2.1 c
          refine fV_tableIn (tgt := 817) (off := 773) hF dL_law_44 c1 c2 (by rw [c]; decide) (by decide) ?_
          refine fV_aload_n hF dL_law_817 rfl rfl ?_
          obtain ⟨a247, e248, hA249, h⟩ := h
          refine fV_callV (k := 4) (As := []) hF (mc_X3_tick hF.2.2.2.2.2.2.2.2.1 h) fK4 e248 hA249 (by omega) fw_237 fw_234 fw_235 fw_236 fw_1 ⟨rfl, by decide, by decide, by decide +kernel⟩ (na := 0) rfl (by decide) (Nat.le_of_ble_eq_true rfl) dL_law_818 rfl (fun rv S9 n9 hp => ?_)
          obtain ⟨v250, rfl, rfl, rfl, h⟩ := hp
          refine fV_aload_n hF dL_law_821 rfl rfl ?_
          obtain ⟨a251, e252, hA253, h⟩ := h
          refine fV_callV (k := 5) (As := []) hF (mc_X4_tick hF.2.2.2.2.2.2.2.2.1 h) fK5 e252 hA253 (by omega) fw_1425 fw_1422 fw_1423 fw_1424 fw_10 ⟨rfl, by decide, by decide, by decide +kernel⟩ (na := 0) rfl (by decide) (Nat.le_of_ble_eq_true rfl) dL_law_822 rfl (fun rv S255 n256 hp => ?_)
          obtain ⟨v254, rfl, h⟩ := hp
          refine fV_icmp_eq (tgt := 1886) hF dL_law_825 (by decide) (fun c257 => ?_) (fun c257 => ?_)
          · have h := h.1 c257
            refine fV_iinc (v := 5) hF (fun y => [some (aR (some b)), some (aR x1), some (aR x2), some (aR x3), some (aR x4), some (aI y), none, none, none]) dL_law_1886 rfl (by decide) (by rw [hxn]; decide) rfl (fun _ => rfl) (fun v258 ev258 => ?_)
            have h := h v258 ev258
            refine fV_goto (tgt := 28) hF dL_law_1889 (by decide) ?_
            refine fV.sub (l' := [some (aR (some b)), some (aR x1), some (aR x2), some (aR x3), some (aR x4), some (aI v258), none, none, none]) ⟨rfl, ⟨rfl, ⟨rfl, ⟨rfl, ⟨rfl, ⟨rfl, trivial⟩⟩⟩⟩⟩⟩ ?_
            exact ih S255 n256 x1 x2 x3 x4 v258 h
          · have h := h.2 c257
            refine fV_iconst (v := 0) hF dL_law_828 (by decide) ?_
            exact h.elim
        · have h := h.2.2.2.2.2.2.2.2.2.2.2.2.1 c
          refine fV_tableIn (tgt := 830) (off := 786) hF dL_law_44 c1 c2 (by rw [c]; decide) (by decide) ?_
          refine fV_aload_n hF dL_law_830 rfl rfl ?_
          obtain ⟨a259, e260, hA261, h⟩ := h
          refine fV_callV (k := 4) (As := []) hF (mc_X3_jobs hF.2.2.2.2.2.2.2.2.1 h) fK4 e260 hA261 (by omega) fw_241 fw_238 fw_239 fw_240 fw_1 ⟨rfl, by decide, by decide, by decide +kernel⟩ (na := 0) rfl (by decide) (Nat.le_of_ble_eq_true rfl) dL_law_831 rfl (fun rv S9 n9 hp => ?_)
          obtain ⟨v262, rfl, rfl, rfl, h⟩ := hp
          refine fV_aload_n hF dL_law_834 rfl rfl ?_
          obtain ⟨a263, e264, hA265, h⟩ := h
          refine fV_callV (k := 5) (As := []) hF (mc_X4_jobs hF.2.2.2.2.2.2.2.2.1 h) fK5 e264 hA265 (by omega) fw_1429 fw_1426 fw_1427 fw_1428 fw_10 ⟨rfl, by decide, by decide, by decide +kernel⟩ (na := 0) rfl (by decide) (Nat.le_of_ble_eq_true rfl) dL_law_835 rfl (fun rv S267 n268 hp => ?_)
          obtain ⟨v266, rfl, h⟩ := hp
          refine fV_icmp_eq (tgt := 1886) hF dL_law_838 (by decide) (fun c269 => ?_) (fun c269 => ?_)
          · have h := h.1 c269
            refine fV_iinc (v := 5) hF (fun y => [some (aR (some b)), some (aR x1), some (aR x2), some (aR x3), some (aR x4), some (aI y), none, none, none]) dL_law_1886 rfl (by decide) (by rw [hxn]; decide) rfl (fun _ => rfl) (fun v270 ev270 => ?_)
            have h := h v270 ev270
            refine fV_goto (tgt := 28) hF dL_law_1889 (by decide) ?_
            refine fV.sub (l' := [some (aR (some b)), some (aR x1), some (aR x2), some (aR x3), some (aR x4), some (aI v270), none, none, none]) ⟨rfl, ⟨rfl, ⟨rfl, ⟨rfl, ⟨rfl, ⟨rfl, trivial⟩⟩⟩⟩⟩⟩ ?_
            exact ih S267 n268 x1 x2 x3 x4 v270 h
          · have h := h.2 c269
            refine fV_iconst (v := 0) hF dL_law_841 (by decide) ?_
            exact h.elim
        · have h := h.2.2.2.2.2.2.2.2.2.2.2.2.2.1 c
          refine fV_tableIn (tgt := 843) (off := 799) hF dL_law_44 c1 c2 (by rw [c]; decide) (by decide) ?_
          refine fV_aload_n hF dL_law_843 rfl rfl ?_
          refine fV_aload_n hF dL_law_844 rfl rfl ?_
          refine fV_iload hF dL_law_845 rfl ?_
          refine fV_iconst (v := 1) hF dL_law_847 (by decide) ?_
          refine fV_iadd hF dL_law_848 ?_
          obtain ⟨hix271, h⟩ := h
          refine fV_sld hF hX hb hix271 dL_law_849 ?_
          refine fV_aload_n hF dL_law_850 rfl rfl ?_
          refine fV_callSXH (As := [(aR x1), (aI (sc (Int32.toNatClampNeg (x5 + (1 : Int32))))), (aR x3)]) hF (mc_L_stateOf hF.2.2.2.2.2.2.2.2.1 h) (by omega) fw_976 fw_974 fw_975 fw_0 ⟨by decide, by decide, by decide +kernel⟩ (na := 3) rfl (by decide) (Nat.le_of_ble_eq_true rfl) dL_law_851 rfl (fun rv S273 n274 hp => ?_)
          obtain ⟨v272, rfl, h⟩ := hp
          refine fV_istore0 hF [some (aR (some b)), some (aR x1), some (aR x2), some (aR x3), some (aR x4), some (aI x5), some (aI v272), none, none] dL_law_854 (by rw [hxn]; decide) rfl rfl ?_
          refine fV_aload_n hF dL_law_856 rfl rfl ?_
          refine fV_aload_n hF dL_law_857 rfl rfl ?_
          refine fV_iload hF dL_law_858 rfl ?_
          refine fV_iconst (v := 1) hF dL_law_860 (by decide) ?_
          refine fV_iadd hF dL_law_861 ?_
          obtain ⟨hix275, h⟩ := h
          refine fV_sld hF hX hb hix275 dL_law_862 ?_
          obtain ⟨a276, e277, hA278, h⟩ := h
          refine fV_callV (k := 5) (As := [(aI (sc (Int32.toNatClampNeg (x5 + (1 : Int32)))))]) hF (mc_X4_stateOf hF.2.2.2.2.2.2.2.2.1 h) fK5 e277 hA278 (by omega) fw_1433 fw_1430 fw_1431 fw_1432 fw_10 ⟨rfl, by decide, by decide, by decide +kernel⟩ (na := 1) rfl (by decide) (Nat.le_of_ble_eq_true rfl) dL_law_863 rfl (fun rv S280 n281 hp => ?_)
          obtain ⟨v279, rfl, h⟩ := hp
          refine fV_istore0 hF [some (aR (some b)), some (aR x1), some (aR x2), some (aR x3), some (aR x4), some (aI x5), some (aI v272), some (aI v279), none] dL_law_866 (by rw [hxn]; decide) rfl rfl ?_
          refine fV_aload_n hF dL_law_868 rfl rfl ?_
          obtain ⟨hA282, h⟩ := h
          refine fV_callV (k := 5) (As := []) hF (mc_X4_thrown hF.2.2.2.2.2.2.2.2.1 h) fK5 e277 hA282 (by omega) fw_1261 fw_1258 fw_1259 fw_1260 fw_10 ⟨rfl, by decide, by decide, by decide +kernel⟩ (na := 0) rfl (by decide) (Nat.le_of_ble_eq_true rfl) dL_law_869 rfl (fun rv S9 n9 hp => ?_)
          obtain ⟨v283, rfl, rfl, rfl, h⟩ := hp
          refine fV_iload hF dL_law_872 rfl ?_
          refine fV_icmp_eq (tgt := 879) hF dL_law_874 (by decide) (fun c284 => ?_) (fun c284 => ?_)
          · have h := h.1 c284
            refine fV_iload hF dL_law_879 rfl ?_
            refine fV_if_ne (tgt := 896) hF dL_law_881 (by decide) (fun c285 => ?_) (fun c285 => ?_)
            · have h := h.1 c285
              refine fV_goto (tgt := 1886) hF dL_law_896 (by decide) ?_
              refine fV_iinc (v := 5) hF (fun y => [some (aR (some b)), some (aR x1), some (aR x2), some (aR x3), some (aR x4), some (aI y), some (aI v272), some (aI v279), none]) dL_law_1886 rfl (by decide) (by rw [hxn]; decide) rfl (fun _ => rfl) (fun v286 ev286 => ?_)
              have h := h v286 ev286
              refine fV_goto (tgt := 28) hF dL_law_1889 (by decide) ?_
              refine fV.sub (l' := [some (aR (some b)), some (aR x1), some (aR x2), some (aR x3), some (aR x4), some (aI v286), none, none, none]) ⟨rfl, ⟨rfl, ⟨rfl, ⟨rfl, ⟨rfl, ⟨rfl, trivial⟩⟩⟩⟩⟩⟩ ?_
              exact ih S280 n281 x1 x2 x3 x4 v286 h
            · have h := h.2 c285
              refine fV_aload_n hF dL_law_884 rfl rfl ?_
              refine fV_iconst (v := 0) hF dL_law_885 (by decide) ?_
              obtain ⟨a287, e288, hA289, h⟩ := h
              obtain ⟨hix290, h⟩ := h
              refine fV_lald hF e288 hA289 hix290 dL_law_886 ?_
              refine fV_iload hF dL_law_887 rfl ?_
              refine fV_i2l hF dL_law_889 ?_
              refine fV_lcmp hF dL_law_890 ?_
              refine fV_if_eq (tgt := 896) hF dL_law_891 (by decide) (fun c291 => ?_) (fun c291 => ?_)
              · have h := h.1 c291
                refine fV_goto (tgt := 1886) hF dL_law_896 (by decide) ?_
                refine fV_iinc (v := 5) hF (fun y => [some (aR (some b)), some (aR x1), some (aR x2), some (aR x3), some (aR x4), some (aI y), some (aI v272), some (aI v279), none]) dL_law_1886 rfl (by decide) (by rw [hxn]; decide) rfl (fun _ => rfl) (fun v292 ev292 => ?_)
                have h := h v292 ev292
                refine fV_goto (tgt := 28) hF dL_law_1889 (by decide) ?_
                refine fV.sub (l' := [some (aR (some b)), some (aR x1), some (aR x2), some (aR x3), some (aR x4), some (aI v292), none, none, none]) ⟨rfl, ⟨rfl, ⟨rfl, ⟨rfl, ⟨rfl, ⟨rfl, trivial⟩⟩⟩⟩⟩⟩ ?_
                exact ih S280 n281 x1 x2 x3 x4 v292 h
              · have h := h.2 c291
                refine fV_iconst (v := 0) hF dL_law_894 (by decide) ?_
                exact h.elim
          · have h := h.2 c284
            refine fV_iconst (v := 0) hF dL_law_877 (by decide) ?_
            exact h.elim
        · have h := h.2.2.2.2.2.2.2.2.2.2.2.2.2.2.1 c
          refine fV_tableIn (tgt := 899) (off := 855) hF dL_law_44 c1 c2 (by rw [c]; decide) (by decide) ?_
          refine fV_aload_n hF dL_law_899 rfl rfl ?_
          refine fV_aload_n hF dL_law_900 rfl rfl ?_
          refine fV_iload hF dL_law_901 rfl ?_
          refine fV_iconst (v := 1) hF dL_law_903 (by decide) ?_
          refine fV_iadd hF dL_law_904 ?_
          obtain ⟨hix293, h⟩ := h
          refine fV_sld hF hX hb hix293 dL_law_905 ?_
          refine fV_aload_n hF dL_law_906 rfl rfl ?_
          refine fV_callSXH (As := [(aR x1), (aI (sc (Int32.toNatClampNeg (x5 + (1 : Int32))))), (aR x3)]) hF (mc_L_toGo hF.2.2.2.2.2.2.2.2.1 h) (by omega) fw_983 fw_981 fw_982 fw_0 ⟨by decide, by decide, by decide +kernel⟩ (na := 3) rfl (by decide) (Nat.le_of_ble_eq_true rfl) dL_law_907 rfl (fun rv S295 n296 hp => ?_)
          obtain ⟨v294, rfl, h⟩ := hp
          refine fV_istore0 hF [some (aR (some b)), some (aR x1), some (aR x2), some (aR x3), some (aR x4), some (aI x5), some (aI v294), none, none] dL_law_910 (by rw [hxn]; decide) rfl rfl ?_
          refine fV_aload_n hF dL_law_912 rfl rfl ?_
          refine fV_aload_n hF dL_law_913 rfl rfl ?_
          refine fV_iload hF dL_law_914 rfl ?_
          refine fV_iconst (v := 1) hF dL_law_916 (by decide) ?_
          refine fV_iadd hF dL_law_917 ?_
          obtain ⟨hix297, h⟩ := h
          refine fV_sld hF hX hb hix297 dL_law_918 ?_
          obtain ⟨a298, e299, hA300, h⟩ := h
          refine fV_callV (k := 5) (As := [(aI (sc (Int32.toNatClampNeg (x5 + (1 : Int32)))))]) hF (mc_X4_toGo hF.2.2.2.2.2.2.2.2.1 h) fK5 e299 hA300 (by omega) fw_1437 fw_1434 fw_1435 fw_1436 fw_10 ⟨rfl, by decide, by decide, by decide +kernel⟩ (na := 1) rfl (by decide) (Nat.le_of_ble_eq_true rfl) dL_law_919 rfl (fun rv S302 n303 hp => ?_)
          obtain ⟨v301, rfl, h⟩ := hp
          refine fV_istore0 hF [some (aR (some b)), some (aR x1), some (aR x2), some (aR x3), some (aR x4), some (aI x5), some (aI v294), some (aI v301), none] dL_law_922 (by rw [hxn]; decide) rfl rfl ?_
          refine fV_aload_n hF dL_law_924 rfl rfl ?_
          obtain ⟨hA304, h⟩ := h
          refine fV_callV (k := 5) (As := []) hF (mc_X4_thrown hF.2.2.2.2.2.2.2.2.1 h) fK5 e299 hA304 (by omega) fw_1261 fw_1258 fw_1259 fw_1260 fw_10 ⟨rfl, by decide, by decide, by decide +kernel⟩ (na := 0) rfl (by decide) (Nat.le_of_ble_eq_true rfl) dL_law_925 rfl (fun rv S9 n9 hp => ?_)
          obtain ⟨v305, rfl, rfl, rfl, h⟩ := hp
          refine fV_iload hF dL_law_928 rfl ?_
          refine fV_icmp_eq (tgt := 935) hF dL_law_930 (by decide) (fun c306 => ?_) (fun c306 => ?_)
          · have h := h.1 c306
            refine fV_iload hF dL_law_935 rfl ?_
            refine fV_if_ne (tgt := 952) hF dL_law_937 (by decide) (fun c307 => ?_) (fun c307 => ?_)
            · have h := h.1 c307
              refine fV_goto (tgt := 1886) hF dL_law_952 (by decide) ?_
              refine fV_iinc (v := 5) hF (fun y => [some (aR (some b)), some (aR x1), some (aR x2), some (aR x3), some (aR x4), some (aI y), some (aI v294), some (aI v301), none]) dL_law_1886 rfl (by decide) (by rw [hxn]; decide) rfl (fun _ => rfl) (fun v308 ev308 => ?_)
              have h := h v308 ev308
              refine fV_goto (tgt := 28) hF dL_law_1889 (by decide) ?_
              refine fV.sub (l' := [some (aR (some b)), some (aR x1), some (aR x2), some (aR x3), some (aR x4), some (aI v308), none, none, none]) ⟨rfl, ⟨rfl, ⟨rfl, ⟨rfl, ⟨rfl, ⟨rfl, trivial⟩⟩⟩⟩⟩⟩ ?_
              exact ih S302 n303 x1 x2 x3 x4 v308 h
            · have h := h.2 c307
              refine fV_aload_n hF dL_law_940 rfl rfl ?_
              refine fV_iconst (v := 0) hF dL_law_941 (by decide) ?_
              obtain ⟨a309, e310, hA311, h⟩ := h
              obtain ⟨hix312, h⟩ := h
              refine fV_lald hF e310 hA311 hix312 dL_law_942 ?_
              refine fV_iload hF dL_law_943 rfl ?_
              refine fV_i2l hF dL_law_945 ?_
              refine fV_lcmp hF dL_law_946 ?_
              refine fV_if_eq (tgt := 952) hF dL_law_947 (by decide) (fun c313 => ?_) (fun c313 => ?_)
              · have h := h.1 c313
                refine fV_goto (tgt := 1886) hF dL_law_952 (by decide) ?_
                refine fV_iinc (v := 5) hF (fun y => [some (aR (some b)), some (aR x1), some (aR x2), some (aR x3), some (aR x4), some (aI y), some (aI v294), some (aI v301), none]) dL_law_1886 rfl (by decide) (by rw [hxn]; decide) rfl (fun _ => rfl) (fun v314 ev314 => ?_)
                have h := h v314 ev314
                refine fV_goto (tgt := 28) hF dL_law_1889 (by decide) ?_
                refine fV.sub (l' := [some (aR (some b)), some (aR x1), some (aR x2), some (aR x3), some (aR x4), some (aI v314), none, none, none]) ⟨rfl, ⟨rfl, ⟨rfl, ⟨rfl, ⟨rfl, ⟨rfl, trivial⟩⟩⟩⟩⟩⟩ ?_
                exact ih S302 n303 x1 x2 x3 x4 v314 h
              · have h := h.2 c313
                refine fV_iconst (v := 0) hF dL_law_950 (by decide) ?_
                exact h.elim
          · have h := h.2 c306
            refine fV_iconst (v := 0) hF dL_law_933 (by decide) ?_
            exact h.elim
        · have h := h.2.2.2.2.2.2.2.2.2.2.2.2.2.2.2.1 c
          refine fV_tableIn (tgt := 955) (off := 911) hF dL_law_44 c1 c2 (by rw [c]; decide) (by decide) ?_
          refine fV_aload_n hF dL_law_955 rfl rfl ?_
          refine fV_aload_n hF dL_law_956 rfl rfl ?_
          refine fV_iload hF dL_law_957 rfl ?_
          refine fV_iconst (v := 1) hF dL_law_959 (by decide) ?_
          refine fV_iadd hF dL_law_960 ?_
          obtain ⟨hix315, h⟩ := h
          refine fV_sld hF hX hb hix315 dL_law_961 ?_
          refine fV_aload_n hF dL_law_962 rfl rfl ?_
          refine fV_callSXH (As := [(aR x1), (aI (sc (Int32.toNatClampNeg (x5 + (1 : Int32))))), (aR x3)]) hF (mc_L_stops hF.2.2.2.2.2.2.2.2.1 h) (by omega) fw_990 fw_988 fw_989 fw_0 ⟨by decide, by decide, by decide +kernel⟩ (na := 3) rfl (by decide) (Nat.le_of_ble_eq_true rfl) dL_law_963 rfl (fun rv S317 n318 hp => ?_)
          obtain ⟨v316, rfl, h⟩ := hp
          refine fV_istore0 hF [some (aR (some b)), some (aR x1), some (aR x2), some (aR x3), some (aR x4), some (aI x5), some (aI v316), none, none] dL_law_966 (by rw [hxn]; decide) rfl rfl ?_
          refine fV_aload_n hF dL_law_968 rfl rfl ?_
          refine fV_aload_n hF dL_law_969 rfl rfl ?_
          refine fV_iload hF dL_law_970 rfl ?_
          refine fV_iconst (v := 1) hF dL_law_972 (by decide) ?_
          refine fV_iadd hF dL_law_973 ?_
          obtain ⟨hix319, h⟩ := h
          refine fV_sld hF hX hb hix319 dL_law_974 ?_
          obtain ⟨a320, e321, hA322, h⟩ := h
          refine fV_callV (k := 5) (As := [(aI (sc (Int32.toNatClampNeg (x5 + (1 : Int32)))))]) hF (mc_X4_stops hF.2.2.2.2.2.2.2.2.1 h) fK5 e321 hA322 (by omega) fw_1441 fw_1438 fw_1439 fw_1440 fw_10 ⟨rfl, by decide, by decide, by decide +kernel⟩ (na := 1) rfl (by decide) (Nat.le_of_ble_eq_true rfl) dL_law_975 rfl (fun rv S324 n325 hp => ?_)
          obtain ⟨v323, rfl, h⟩ := hp
          refine fV_istore0 hF [some (aR (some b)), some (aR x1), some (aR x2), some (aR x3), some (aR x4), some (aI x5), some (aI v316), some (aI v323), none] dL_law_978 (by rw [hxn]; decide) rfl rfl ?_
          refine fV_aload_n hF dL_law_980 rfl rfl ?_
          obtain ⟨hA326, h⟩ := h
          refine fV_callV (k := 5) (As := []) hF (mc_X4_thrown hF.2.2.2.2.2.2.2.2.1 h) fK5 e321 hA326 (by omega) fw_1261 fw_1258 fw_1259 fw_1260 fw_10 ⟨rfl, by decide, by decide, by decide +kernel⟩ (na := 0) rfl (by decide) (Nat.le_of_ble_eq_true rfl) dL_law_981 rfl (fun rv S9 n9 hp => ?_)
          obtain ⟨v327, rfl, rfl, rfl, h⟩ := hp
          refine fV_iload hF dL_law_984 rfl ?_
          refine fV_icmp_eq (tgt := 991) hF dL_law_986 (by decide) (fun c328 => ?_) (fun c328 => ?_)
          · have h := h.1 c328
            refine fV_iload hF dL_law_991 rfl ?_
            refine fV_if_ne (tgt := 1008) hF dL_law_993 (by decide) (fun c329 => ?_) (fun c329 => ?_)
            · have h := h.1 c329
              refine fV_goto (tgt := 1886) hF dL_law_1008 (by decide) ?_
              refine fV_iinc (v := 5) hF (fun y => [some (aR (some b)), some (aR x1), some (aR x2), some (aR x3), some (aR x4), some (aI y), some (aI v316), some (aI v323), none]) dL_law_1886 rfl (by decide) (by rw [hxn]; decide) rfl (fun _ => rfl) (fun v330 ev330 => ?_)
              have h := h v330 ev330
              refine fV_goto (tgt := 28) hF dL_law_1889 (by decide) ?_
              refine fV.sub (l' := [some (aR (some b)), some (aR x1), some (aR x2), some (aR x3), some (aR x4), some (aI v330), none, none, none]) ⟨rfl, ⟨rfl, ⟨rfl, ⟨rfl, ⟨rfl, ⟨rfl, trivial⟩⟩⟩⟩⟩⟩ ?_
              exact ih S324 n325 x1 x2 x3 x4 v330 h
            · have h := h.2 c329
              refine fV_aload_n hF dL_law_996 rfl rfl ?_
              refine fV_iconst (v := 0) hF dL_law_997 (by decide) ?_
              obtain ⟨a331, e332, hA333, h⟩ := h
              obtain ⟨hix334, h⟩ := h
              refine fV_lald hF e332 hA333 hix334 dL_law_998 ?_
              refine fV_iload hF dL_law_999 rfl ?_
              refine fV_i2l hF dL_law_1001 ?_
              refine fV_lcmp hF dL_law_1002 ?_
              refine fV_if_eq (tgt := 1008) hF dL_law_1003 (by decide) (fun c335 => ?_) (fun c335 => ?_)
              · have h := h.1 c335
                refine fV_goto (tgt := 1886) hF dL_law_1008 (by decide) ?_
                refine fV_iinc (v := 5) hF (fun y => [some (aR (some b)), some (aR x1), some (aR x2), some (aR x3), some (aR x4), some (aI y), some (aI v316), some (aI v323), none]) dL_law_1886 rfl (by decide) (by rw [hxn]; decide) rfl (fun _ => rfl) (fun v336 ev336 => ?_)
                have h := h v336 ev336
                refine fV_goto (tgt := 28) hF dL_law_1889 (by decide) ?_
                refine fV.sub (l' := [some (aR (some b)), some (aR x1), some (aR x2), some (aR x3), some (aR x4), some (aI v336), none, none, none]) ⟨rfl, ⟨rfl, ⟨rfl, ⟨rfl, ⟨rfl, ⟨rfl, trivial⟩⟩⟩⟩⟩⟩ ?_
                exact ih S324 n325 x1 x2 x3 x4 v336 h
              · have h := h.2 c335
                refine fV_iconst (v := 0) hF dL_law_1006 (by decide) ?_
                exact h.elim
          · have h := h.2 c328
            refine fV_iconst (v := 0) hF dL_law_989 (by decide) ?_
            exact h.elim
        · have h := h.2.2.2.2.2.2.2.2.2.2.2.2.2.2.2.2.1 c
          refine fV_tableIn (tgt := 1011) (off := 967) hF dL_law_44 c1 c2 (by rw [c]; decide) (by decide) ?_
          refine fV_aload_n hF dL_law_1011 rfl rfl ?_
          refine fV_aload_n hF dL_law_1012 rfl rfl ?_
          refine fV_iload hF dL_law_1013 rfl ?_
          refine fV_iconst (v := 1) hF dL_law_1015 (by decide) ?_
          refine fV_iadd hF dL_law_1016 ?_
          obtain ⟨hix337, h⟩ := h
          refine fV_sld hF hX hb hix337 dL_law_1017 ?_
          refine fV_aload_n hF dL_law_1018 rfl rfl ?_
          refine fV_callSXH (As := [(aR x1), (aI (sc (Int32.toNatClampNeg (x5 + (1 : Int32))))), (aR x3)]) hF (mc_L_firstOf hF.2.2.2.2.2.2.2.2.1 h) (by omega) fw_997 fw_995 fw_996 fw_0 ⟨by decide, by decide, by decide +kernel⟩ (na := 3) rfl (by decide) (Nat.le_of_ble_eq_true rfl) dL_law_1019 rfl (fun rv S339 n340 hp => ?_)
          obtain ⟨v338, rfl, h⟩ := hp
          refine fV_istore0 hF [some (aR (some b)), some (aR x1), some (aR x2), some (aR x3), some (aR x4), some (aI x5), some (aI v338), none, none] dL_law_1022 (by rw [hxn]; decide) rfl rfl ?_
          refine fV_aload_n hF dL_law_1024 rfl rfl ?_
          refine fV_aload_n hF dL_law_1025 rfl rfl ?_
          refine fV_iload hF dL_law_1026 rfl ?_
          refine fV_iconst (v := 1) hF dL_law_1028 (by decide) ?_
          refine fV_iadd hF dL_law_1029 ?_
          obtain ⟨hix341, h⟩ := h
          refine fV_sld hF hX hb hix341 dL_law_1030 ?_
          obtain ⟨a342, e343, hA344, h⟩ := h
          refine fV_callV (k := 5) (As := [(aI (sc (Int32.toNatClampNeg (x5 + (1 : Int32)))))]) hF (mc_X4_firstOf hF.2.2.2.2.2.2.2.2.1 h) fK5 e343 hA344 (by omega) fw_1445 fw_1442 fw_1443 fw_1444 fw_10 ⟨rfl, by decide, by decide, by decide +kernel⟩ (na := 1) rfl (by decide) (Nat.le_of_ble_eq_true rfl) dL_law_1031 rfl (fun rv S346 n347 hp => ?_)
          obtain ⟨v345, rfl, h⟩ := hp
          refine fV_istore0 hF [some (aR (some b)), some (aR x1), some (aR x2), some (aR x3), some (aR x4), some (aI x5), some (aI v338), some (aI v345), none] dL_law_1034 (by rw [hxn]; decide) rfl rfl ?_
          refine fV_aload_n hF dL_law_1036 rfl rfl ?_
          obtain ⟨hA348, h⟩ := h
          refine fV_callV (k := 5) (As := []) hF (mc_X4_thrown hF.2.2.2.2.2.2.2.2.1 h) fK5 e343 hA348 (by omega) fw_1261 fw_1258 fw_1259 fw_1260 fw_10 ⟨rfl, by decide, by decide, by decide +kernel⟩ (na := 0) rfl (by decide) (Nat.le_of_ble_eq_true rfl) dL_law_1037 rfl (fun rv S9 n9 hp => ?_)
          obtain ⟨v349, rfl, rfl, rfl, h⟩ := hp
          refine fV_iload hF dL_law_1040 rfl ?_
          refine fV_icmp_eq (tgt := 1047) hF dL_law_1042 (by decide) (fun c350 => ?_) (fun c350 => ?_)
          · have h := h.1 c350
            refine fV_iload hF dL_law_1047 rfl ?_
            refine fV_if_ne (tgt := 1064) hF dL_law_1049 (by decide) (fun c351 => ?_) (fun c351 => ?_)
            · have h := h.1 c351
              refine fV_goto (tgt := 1886) hF dL_law_1064 (by decide) ?_
              refine fV_iinc (v := 5) hF (fun y => [some (aR (some b)), some (aR x1), some (aR x2), some (aR x3), some (aR x4), some (aI y), some (aI v338), some (aI v345), none]) dL_law_1886 rfl (by decide) (by rw [hxn]; decide) rfl (fun _ => rfl) (fun v352 ev352 => ?_)
              have h := h v352 ev352
              refine fV_goto (tgt := 28) hF dL_law_1889 (by decide) ?_
              refine fV.sub (l' := [some (aR (some b)), some (aR x1), some (aR x2), some (aR x3), some (aR x4), some (aI v352), none, none, none]) ⟨rfl, ⟨rfl, ⟨rfl, ⟨rfl, ⟨rfl, ⟨rfl, trivial⟩⟩⟩⟩⟩⟩ ?_
              exact ih S346 n347 x1 x2 x3 x4 v352 h
            · have h := h.2 c351
              refine fV_aload_n hF dL_law_1052 rfl rfl ?_
              refine fV_iconst (v := 0) hF dL_law_1053 (by decide) ?_
              obtain ⟨a353, e354, hA355, h⟩ := h
              obtain ⟨hix356, h⟩ := h
              refine fV_lald hF e354 hA355 hix356 dL_law_1054 ?_
              refine fV_iload hF dL_law_1055 rfl ?_
              refine fV_i2l hF dL_law_1057 ?_
              refine fV_lcmp hF dL_law_1058 ?_
              refine fV_if_eq (tgt := 1064) hF dL_law_1059 (by decide) (fun c357 => ?_) (fun c357 => ?_)
              · have h := h.1 c357
                refine fV_goto (tgt := 1886) hF dL_law_1064 (by decide) ?_
                refine fV_iinc (v := 5) hF (fun y => [some (aR (some b)), some (aR x1), some (aR x2), some (aR x3), some (aR x4), some (aI y), some (aI v338), some (aI v345), none]) dL_law_1886 rfl (by decide) (by rw [hxn]; decide) rfl (fun _ => rfl) (fun v358 ev358 => ?_)
                have h := h v358 ev358
                refine fV_goto (tgt := 28) hF dL_law_1889 (by decide) ?_
                refine fV.sub (l' := [some (aR (some b)), some (aR x1), some (aR x2), some (aR x3), some (aR x4), some (aI v358), none, none, none]) ⟨rfl, ⟨rfl, ⟨rfl, ⟨rfl, ⟨rfl, ⟨rfl, trivial⟩⟩⟩⟩⟩⟩ ?_
                exact ih S346 n347 x1 x2 x3 x4 v358 h
              · have h := h.2 c357
                refine fV_iconst (v := 0) hF dL_law_1062 (by decide) ?_
                exact h.elim
          · have h := h.2 c350
            refine fV_iconst (v := 0) hF dL_law_1045 (by decide) ?_
            exact h.elim
        · have h := h.2.2.2.2.2.2.2.2.2.2.2.2.2.2.2.2.2.1 c
          refine fV_tableIn (tgt := 1067) (off := 1023) hF dL_law_44 c1 c2 (by rw [c]; decide) (by decide) ?_
          refine fV_aload_n hF dL_law_1067 rfl rfl ?_
          refine fV_aload_n hF dL_law_1068 rfl rfl ?_
          refine fV_iload hF dL_law_1069 rfl ?_
          refine fV_iconst (v := 1) hF dL_law_1071 (by decide) ?_
          refine fV_iadd hF dL_law_1072 ?_
          obtain ⟨hix359, h⟩ := h
          refine fV_sld hF hX hb hix359 dL_law_1073 ?_
          refine fV_aload_n hF dL_law_1074 rfl rfl ?_
          refine fV_callSXH (As := [(aR x1), (aI (sc (Int32.toNatClampNeg (x5 + (1 : Int32))))), (aR x3)]) hF (mc_L_inLine hF.2.2.2.2.2.2.2.2.1 h) (by omega) fw_1009 fw_1007 fw_1008 fw_0 ⟨by decide, by decide, by decide +kernel⟩ (na := 3) rfl (by decide) (Nat.le_of_ble_eq_true rfl) dL_law_1075 rfl (fun rv S361 n362 hp => ?_)
          obtain ⟨v360, rfl, h⟩ := hp
          refine fV_istore0 hF [some (aR (some b)), some (aR x1), some (aR x2), some (aR x3), some (aR x4), some (aI x5), some (aI v360), none, none] dL_law_1078 (by rw [hxn]; decide) rfl rfl ?_
          refine fV_aload_n hF dL_law_1080 rfl rfl ?_
          refine fV_aload_n hF dL_law_1081 rfl rfl ?_
          refine fV_iload hF dL_law_1082 rfl ?_
          refine fV_iconst (v := 1) hF dL_law_1084 (by decide) ?_
          refine fV_iadd hF dL_law_1085 ?_
          obtain ⟨hix363, h⟩ := h
          refine fV_sld hF hX hb hix363 dL_law_1086 ?_
          obtain ⟨a364, e365, hA366, h⟩ := h
          refine fV_callV (k := 5) (As := [(aI (sc (Int32.toNatClampNeg (x5 + (1 : Int32)))))]) hF (mc_X4_inLine hF.2.2.2.2.2.2.2.2.1 h) fK5 e365 hA366 (by omega) fw_1453 fw_1450 fw_1451 fw_1452 fw_10 ⟨rfl, by decide, by decide, by decide +kernel⟩ (na := 1) rfl (by decide) (Nat.le_of_ble_eq_true rfl) dL_law_1087 rfl (fun rv S368 n369 hp => ?_)
          obtain ⟨v367, rfl, h⟩ := hp
          refine fV_istore0 hF [some (aR (some b)), some (aR x1), some (aR x2), some (aR x3), some (aR x4), some (aI x5), some (aI v360), some (aI v367), none] dL_law_1090 (by rw [hxn]; decide) rfl rfl ?_
          refine fV_aload_n hF dL_law_1092 rfl rfl ?_
          obtain ⟨hA370, h⟩ := h
          refine fV_callV (k := 5) (As := []) hF (mc_X4_thrown hF.2.2.2.2.2.2.2.2.1 h) fK5 e365 hA370 (by omega) fw_1261 fw_1258 fw_1259 fw_1260 fw_10 ⟨rfl, by decide, by decide, by decide +kernel⟩ (na := 0) rfl (by decide) (Nat.le_of_ble_eq_true rfl) dL_law_1093 rfl (fun rv S9 n9 hp => ?_)
          obtain ⟨v371, rfl, rfl, rfl, h⟩ := hp
          refine fV_iload hF dL_law_1096 rfl ?_
          refine fV_icmp_eq (tgt := 1103) hF dL_law_1098 (by decide) (fun c372 => ?_) (fun c372 => ?_)
          · have h := h.1 c372
            refine fV_iload hF dL_law_1103 rfl ?_
            refine fV_if_ne (tgt := 1120) hF dL_law_1105 (by decide) (fun c373 => ?_) (fun c373 => ?_)
            · have h := h.1 c373
              refine fV_goto (tgt := 1886) hF dL_law_1120 (by decide) ?_
              refine fV_iinc (v := 5) hF (fun y => [some (aR (some b)), some (aR x1), some (aR x2), some (aR x3), some (aR x4), some (aI y), some (aI v360), some (aI v367), none]) dL_law_1886 rfl (by decide) (by rw [hxn]; decide) rfl (fun _ => rfl) (fun v374 ev374 => ?_)
              have h := h v374 ev374
              refine fV_goto (tgt := 28) hF dL_law_1889 (by decide) ?_
              refine fV.sub (l' := [some (aR (some b)), some (aR x1), some (aR x2), some (aR x3), some (aR x4), some (aI v374), none, none, none]) ⟨rfl, ⟨rfl, ⟨rfl, ⟨rfl, ⟨rfl, ⟨rfl, trivial⟩⟩⟩⟩⟩⟩ ?_
              exact ih S368 n369 x1 x2 x3 x4 v374 h
            · have h := h.2 c373
              refine fV_aload_n hF dL_law_1108 rfl rfl ?_
              refine fV_iconst (v := 0) hF dL_law_1109 (by decide) ?_
              obtain ⟨a375, e376, hA377, h⟩ := h
              obtain ⟨hix378, h⟩ := h
              refine fV_lald hF e376 hA377 hix378 dL_law_1110 ?_
              refine fV_iload hF dL_law_1111 rfl ?_
              refine fV_i2l hF dL_law_1113 ?_
              refine fV_lcmp hF dL_law_1114 ?_
              refine fV_if_eq (tgt := 1120) hF dL_law_1115 (by decide) (fun c379 => ?_) (fun c379 => ?_)
              · have h := h.1 c379
                refine fV_goto (tgt := 1886) hF dL_law_1120 (by decide) ?_
                refine fV_iinc (v := 5) hF (fun y => [some (aR (some b)), some (aR x1), some (aR x2), some (aR x3), some (aR x4), some (aI y), some (aI v360), some (aI v367), none]) dL_law_1886 rfl (by decide) (by rw [hxn]; decide) rfl (fun _ => rfl) (fun v380 ev380 => ?_)
                have h := h v380 ev380
                refine fV_goto (tgt := 28) hF dL_law_1889 (by decide) ?_
                refine fV.sub (l' := [some (aR (some b)), some (aR x1), some (aR x2), some (aR x3), some (aR x4), some (aI v380), none, none, none]) ⟨rfl, ⟨rfl, ⟨rfl, ⟨rfl, ⟨rfl, ⟨rfl, trivial⟩⟩⟩⟩⟩⟩ ?_
                exact ih S368 n369 x1 x2 x3 x4 v380 h
              · have h := h.2 c379
                refine fV_iconst (v := 0) hF dL_law_1118 (by decide) ?_
                exact h.elim
          · have h := h.2 c372
            refine fV_iconst (v := 0) hF dL_law_1101 (by decide) ?_
            exact h.elim
        · have h := h.2.2.2.2.2.2.2.2.2.2.2.2.2.2.2.2.2.2.1 c
          refine fV_tableIn (tgt := 1123) (off := 1079) hF dL_law_44 c1 c2 (by rw [c]; decide) (by decide) ?_
          refine fV_aload_n hF dL_law_1123 rfl rfl ?_
          refine fV_aload_n hF dL_law_1124 rfl rfl ?_
          refine fV_iload hF dL_law_1125 rfl ?_
          refine fV_iconst (v := 1) hF dL_law_1127 (by decide) ?_
          refine fV_iadd hF dL_law_1128 ?_
          obtain ⟨hix381, h⟩ := h
          refine fV_sld hF hX hb hix381 dL_law_1129 ?_
          refine fV_aload_n hF dL_law_1130 rfl rfl ?_
          refine fV_iload hF dL_law_1131 rfl ?_
          refine fV_iconst (v := 2) hF dL_law_1133 (by decide) ?_
          refine fV_iadd hF dL_law_1134 ?_
          obtain ⟨hix382, h⟩ := h
          refine fV_sld hF hX hb hix382 dL_law_1135 ?_
          refine fV_aload_n hF dL_law_1136 rfl rfl ?_
          refine fV_iload hF dL_law_1137 rfl ?_
          refine fV_iconst (v := 3) hF dL_law_1139 (by decide) ?_
          refine fV_iadd hF dL_law_1140 ?_
          obtain ⟨hix383, h⟩ := h
          refine fV_sld hF hX hb hix383 dL_law_1141 ?_
          refine fV_aload_n hF dL_law_1142 rfl rfl ?_
          refine fV_iload hF dL_law_1143 rfl ?_
          refine fV_iconst (v := 4) hF dL_law_1145 (by decide) ?_
          refine fV_iadd hF dL_law_1146 ?_
          obtain ⟨hix384, h⟩ := h
          refine fV_sld hF hX hb hix384 dL_law_1147 ?_
          refine fV_aload_n hF dL_law_1148 rfl rfl ?_
          refine fV_callSXH (As := [(aR x1), (aI (sc (Int32.toNatClampNeg (x5 + (1 : Int32))))), (aI (sc (Int32.toNatClampNeg (x5 + (2 : Int32))))), (aI (sc (Int32.toNatClampNeg (x5 + (3 : Int32))))), (aI (sc (Int32.toNatClampNeg (x5 + (4 : Int32))))), (aR x3)]) hF (mc_L_reserve hF.2.2.2.2.2.2.2.2.1 h) (by omega) fw_1017 fw_1015 fw_1016 fw_0 ⟨by decide, by decide, by decide +kernel⟩ (na := 6) rfl (by decide) (Nat.le_of_ble_eq_true rfl) dL_law_1149 rfl (fun rv S386 n387 hp => ?_)
          obtain ⟨v385, rfl, h⟩ := hp
          refine fV_istore0 hF [some (aR (some b)), some (aR x1), some (aR x2), some (aR x3), some (aR x4), some (aI x5), some (aI v385), none, none] dL_law_1152 (by rw [hxn]; decide) rfl rfl ?_
          refine fV_aload_n hF dL_law_1154 rfl rfl ?_
          refine fV_aload_n hF dL_law_1155 rfl rfl ?_
          refine fV_iload hF dL_law_1156 rfl ?_
          refine fV_iconst (v := 1) hF dL_law_1158 (by decide) ?_
          refine fV_iadd hF dL_law_1159 ?_
          obtain ⟨hix388, h⟩ := h
          refine fV_sld hF hX hb hix388 dL_law_1160 ?_
          refine fV_aload_n hF dL_law_1161 rfl rfl ?_
          refine fV_iload hF dL_law_1162 rfl ?_
          refine fV_iconst (v := 2) hF dL_law_1164 (by decide) ?_
          refine fV_iadd hF dL_law_1165 ?_
          obtain ⟨hix389, h⟩ := h
          refine fV_sld hF hX hb hix389 dL_law_1166 ?_
          refine fV_aload_n hF dL_law_1167 rfl rfl ?_
          refine fV_iload hF dL_law_1168 rfl ?_
          refine fV_iconst (v := 3) hF dL_law_1170 (by decide) ?_
          refine fV_iadd hF dL_law_1171 ?_
          obtain ⟨hix390, h⟩ := h
          refine fV_sld hF hX hb hix390 dL_law_1172 ?_
          refine fV_aload_n hF dL_law_1173 rfl rfl ?_
          refine fV_iload hF dL_law_1174 rfl ?_
          refine fV_iconst (v := 4) hF dL_law_1176 (by decide) ?_
          refine fV_iadd hF dL_law_1177 ?_
          obtain ⟨hix391, h⟩ := h
          refine fV_sld hF hX hb hix391 dL_law_1178 ?_
          obtain ⟨a392, e393, hA394, h⟩ := h
          refine fV_callV (k := 5) (As := [(aI (sc (Int32.toNatClampNeg (x5 + (1 : Int32))))), (aI (sc (Int32.toNatClampNeg (x5 + (2 : Int32))))), (aI (sc (Int32.toNatClampNeg (x5 + (3 : Int32))))), (aI (sc (Int32.toNatClampNeg (x5 + (4 : Int32)))))]) hF (mc_X4_reserve hF.2.2.2.2.2.2.2.2.1 h) fK5 e393 hA394 (by omega) fw_1457 fw_1454 fw_1455 fw_1456 fw_10 ⟨rfl, by decide, by decide, by decide +kernel⟩ (na := 4) rfl (by decide) (Nat.le_of_ble_eq_true rfl) dL_law_1179 rfl (fun rv S396 n397 hp => ?_)
          obtain ⟨v395, rfl, h⟩ := hp
          refine fV_istore0 hF [some (aR (some b)), some (aR x1), some (aR x2), some (aR x3), some (aR x4), some (aI x5), some (aI v385), some (aI v395), none] dL_law_1182 (by rw [hxn]; decide) rfl rfl ?_
          refine fV_aload_n hF dL_law_1184 rfl rfl ?_
          obtain ⟨hA398, h⟩ := h
          refine fV_callV (k := 5) (As := []) hF (mc_X4_thrown hF.2.2.2.2.2.2.2.2.1 h) fK5 e393 hA398 (by omega) fw_1261 fw_1258 fw_1259 fw_1260 fw_10 ⟨rfl, by decide, by decide, by decide +kernel⟩ (na := 0) rfl (by decide) (Nat.le_of_ble_eq_true rfl) dL_law_1185 rfl (fun rv S9 n9 hp => ?_)
          obtain ⟨v399, rfl, rfl, rfl, h⟩ := hp
          refine fV_iload hF dL_law_1188 rfl ?_
          refine fV_icmp_eq (tgt := 1195) hF dL_law_1190 (by decide) (fun c400 => ?_) (fun c400 => ?_)
          · have h := h.1 c400
            refine fV_iload hF dL_law_1195 rfl ?_
            refine fV_if_ne (tgt := 1212) hF dL_law_1197 (by decide) (fun c401 => ?_) (fun c401 => ?_)
            · have h := h.1 c401
              refine fV_goto (tgt := 1886) hF dL_law_1212 (by decide) ?_
              refine fV_iinc (v := 5) hF (fun y => [some (aR (some b)), some (aR x1), some (aR x2), some (aR x3), some (aR x4), some (aI y), some (aI v385), some (aI v395), none]) dL_law_1886 rfl (by decide) (by rw [hxn]; decide) rfl (fun _ => rfl) (fun v402 ev402 => ?_)
              have h := h v402 ev402
              refine fV_goto (tgt := 28) hF dL_law_1889 (by decide) ?_
              refine fV.sub (l' := [some (aR (some b)), some (aR x1), some (aR x2), some (aR x3), some (aR x4), some (aI v402), none, none, none]) ⟨rfl, ⟨rfl, ⟨rfl, ⟨rfl, ⟨rfl, ⟨rfl, trivial⟩⟩⟩⟩⟩⟩ ?_
              exact ih S396 n397 x1 x2 x3 x4 v402 h
            · have h := h.2 c401
              refine fV_aload_n hF dL_law_1200 rfl rfl ?_
              refine fV_iconst (v := 0) hF dL_law_1201 (by decide) ?_
              obtain ⟨a403, e404, hA405, h⟩ := h
              obtain ⟨hix406, h⟩ := h
              refine fV_lald hF e404 hA405 hix406 dL_law_1202 ?_
              refine fV_iload hF dL_law_1203 rfl ?_
              refine fV_i2l hF dL_law_1205 ?_
              refine fV_lcmp hF dL_law_1206 ?_
              refine fV_if_eq (tgt := 1212) hF dL_law_1207 (by decide) (fun c407 => ?_) (fun c407 => ?_)
              · have h := h.1 c407
                refine fV_goto (tgt := 1886) hF dL_law_1212 (by decide) ?_
                refine fV_iinc (v := 5) hF (fun y => [some (aR (some b)), some (aR x1), some (aR x2), some (aR x3), some (aR x4), some (aI y), some (aI v385), some (aI v395), none]) dL_law_1886 rfl (by decide) (by rw [hxn]; decide) rfl (fun _ => rfl) (fun v408 ev408 => ?_)
                have h := h v408 ev408
                refine fV_goto (tgt := 28) hF dL_law_1889 (by decide) ?_
                refine fV.sub (l' := [some (aR (some b)), some (aR x1), some (aR x2), some (aR x3), some (aR x4), some (aI v408), none, none, none]) ⟨rfl, ⟨rfl, ⟨rfl, ⟨rfl, ⟨rfl, ⟨rfl, trivial⟩⟩⟩⟩⟩⟩ ?_
                exact ih S396 n397 x1 x2 x3 x4 v408 h
              · have h := h.2 c407
                refine fV_iconst (v := 0) hF dL_law_1210 (by decide) ?_
                exact h.elim
          · have h := h.2 c400
            refine fV_iconst (v := 0) hF dL_law_1193 (by decide) ?_
            exact h.elim
        · have h := h.2.2.2.2.2.2.2.2.2.2.2.2.2.2.2.2.2.2.2.1 c
          refine fV_tableIn (tgt := 1215) (off := 1171) hF dL_law_44 c1 c2 (by rw [c]; decide) (by decide) ?_
          refine fV_aload_n hF dL_law_1215 rfl rfl ?_
          refine fV_aload_n hF dL_law_1216 rfl rfl ?_
          refine fV_iload hF dL_law_1217 rfl ?_
          refine fV_iconst (v := 1) hF dL_law_1219 (by decide) ?_
          refine fV_iadd hF dL_law_1220 ?_
          obtain ⟨hix409, h⟩ := h
          refine fV_sld hF hX hb hix409 dL_law_1221 ?_
          refine fV_aload_n hF dL_law_1222 rfl rfl ?_
          refine fV_iload hF dL_law_1223 rfl ?_
          refine fV_iconst (v := 2) hF dL_law_1225 (by decide) ?_
          refine fV_iadd hF dL_law_1226 ?_
          obtain ⟨hix410, h⟩ := h
          refine fV_sld hF hX hb hix410 dL_law_1227 ?_
          refine fV_aload_n hF dL_law_1228 rfl rfl ?_
          refine fV_iload hF dL_law_1229 rfl ?_
          refine fV_iconst (v := 3) hF dL_law_1231 (by decide) ?_
          refine fV_iadd hF dL_law_1232 ?_
          obtain ⟨hix411, h⟩ := h
          refine fV_sld hF hX hb hix411 dL_law_1233 ?_
          refine fV_aload_n hF dL_law_1234 rfl rfl ?_
          refine fV_callSXH (As := [(aR x1), (aI (sc (Int32.toNatClampNeg (x5 + (1 : Int32))))), (aI (sc (Int32.toNatClampNeg (x5 + (2 : Int32))))), (aI (sc (Int32.toNatClampNeg (x5 + (3 : Int32))))), (aR x3)]) hF (mc_L_drop hF.2.2.2.2.2.2.2.2.1 h) (by omega) fw_1051 fw_1049 fw_1050 fw_0 ⟨by decide, by decide, by decide +kernel⟩ (na := 5) rfl (by decide) (Nat.le_of_ble_eq_true rfl) dL_law_1235 rfl (fun rv S413 n414 hp => ?_)
          obtain ⟨v412, rfl, h⟩ := hp
          refine fV_istore0 hF [some (aR (some b)), some (aR x1), some (aR x2), some (aR x3), some (aR x4), some (aI x5), some (aI v412), none, none] dL_law_1238 (by rw [hxn]; decide) rfl rfl ?_
          refine fV_aload_n hF dL_law_1240 rfl rfl ?_
          refine fV_aload_n hF dL_law_1241 rfl rfl ?_
          refine fV_iload hF dL_law_1242 rfl ?_
          refine fV_iconst (v := 1) hF dL_law_1244 (by decide) ?_
          refine fV_iadd hF dL_law_1245 ?_
          obtain ⟨hix415, h⟩ := h
          refine fV_sld hF hX hb hix415 dL_law_1246 ?_
          refine fV_aload_n hF dL_law_1247 rfl rfl ?_
          refine fV_iload hF dL_law_1248 rfl ?_
          refine fV_iconst (v := 2) hF dL_law_1250 (by decide) ?_
          refine fV_iadd hF dL_law_1251 ?_
          obtain ⟨hix416, h⟩ := h
          refine fV_sld hF hX hb hix416 dL_law_1252 ?_
          refine fV_aload_n hF dL_law_1253 rfl rfl ?_
          refine fV_iload hF dL_law_1254 rfl ?_
          refine fV_iconst (v := 3) hF dL_law_1256 (by decide) ?_
          refine fV_iadd hF dL_law_1257 ?_
          obtain ⟨hix417, h⟩ := h
          refine fV_sld hF hX hb hix417 dL_law_1258 ?_
          obtain ⟨a418, e419, hA420, h⟩ := h
          refine fV_callV (k := 5) (As := [(aI (sc (Int32.toNatClampNeg (x5 + (1 : Int32))))), (aI (sc (Int32.toNatClampNeg (x5 + (2 : Int32))))), (aI (sc (Int32.toNatClampNeg (x5 + (3 : Int32)))))]) hF (mc_X4_drop hF.2.2.2.2.2.2.2.2.1 h) fK5 e419 hA420 (by omega) fw_1469 fw_1466 fw_1467 fw_1468 fw_10 ⟨rfl, by decide, by decide, by decide +kernel⟩ (na := 3) rfl (by decide) (Nat.le_of_ble_eq_true rfl) dL_law_1259 rfl (fun rv S422 n423 hp => ?_)
          obtain ⟨v421, rfl, h⟩ := hp
          refine fV_istore0 hF [some (aR (some b)), some (aR x1), some (aR x2), some (aR x3), some (aR x4), some (aI x5), some (aI v412), some (aI v421), none] dL_law_1262 (by rw [hxn]; decide) rfl rfl ?_
          refine fV_aload_n hF dL_law_1264 rfl rfl ?_
          obtain ⟨hA424, h⟩ := h
          refine fV_callV (k := 5) (As := []) hF (mc_X4_thrown hF.2.2.2.2.2.2.2.2.1 h) fK5 e419 hA424 (by omega) fw_1261 fw_1258 fw_1259 fw_1260 fw_10 ⟨rfl, by decide, by decide, by decide +kernel⟩ (na := 0) rfl (by decide) (Nat.le_of_ble_eq_true rfl) dL_law_1265 rfl (fun rv S9 n9 hp => ?_)
          obtain ⟨v425, rfl, rfl, rfl, h⟩ := hp
          refine fV_iload hF dL_law_1268 rfl ?_
          refine fV_icmp_eq (tgt := 1275) hF dL_law_1270 (by decide) (fun c426 => ?_) (fun c426 => ?_)
          · have h := h.1 c426
            refine fV_iload hF dL_law_1275 rfl ?_
            refine fV_if_ne (tgt := 1292) hF dL_law_1277 (by decide) (fun c427 => ?_) (fun c427 => ?_)
            · have h := h.1 c427
              refine fV_goto (tgt := 1886) hF dL_law_1292 (by decide) ?_
              refine fV_iinc (v := 5) hF (fun y => [some (aR (some b)), some (aR x1), some (aR x2), some (aR x3), some (aR x4), some (aI y), some (aI v412), some (aI v421), none]) dL_law_1886 rfl (by decide) (by rw [hxn]; decide) rfl (fun _ => rfl) (fun v428 ev428 => ?_)
              have h := h v428 ev428
              refine fV_goto (tgt := 28) hF dL_law_1889 (by decide) ?_
              refine fV.sub (l' := [some (aR (some b)), some (aR x1), some (aR x2), some (aR x3), some (aR x4), some (aI v428), none, none, none]) ⟨rfl, ⟨rfl, ⟨rfl, ⟨rfl, ⟨rfl, ⟨rfl, trivial⟩⟩⟩⟩⟩⟩ ?_
              exact ih S422 n423 x1 x2 x3 x4 v428 h
            · have h := h.2 c427
              refine fV_aload_n hF dL_law_1280 rfl rfl ?_
              refine fV_iconst (v := 0) hF dL_law_1281 (by decide) ?_
              obtain ⟨a429, e430, hA431, h⟩ := h
              obtain ⟨hix432, h⟩ := h
              refine fV_lald hF e430 hA431 hix432 dL_law_1282 ?_
              refine fV_iload hF dL_law_1283 rfl ?_
              refine fV_i2l hF dL_law_1285 ?_
              refine fV_lcmp hF dL_law_1286 ?_
              refine fV_if_eq (tgt := 1292) hF dL_law_1287 (by decide) (fun c433 => ?_) (fun c433 => ?_)
              · have h := h.1 c433
                refine fV_goto (tgt := 1886) hF dL_law_1292 (by decide) ?_
                refine fV_iinc (v := 5) hF (fun y => [some (aR (some b)), some (aR x1), some (aR x2), some (aR x3), some (aR x4), some (aI y), some (aI v412), some (aI v421), none]) dL_law_1886 rfl (by decide) (by rw [hxn]; decide) rfl (fun _ => rfl) (fun v434 ev434 => ?_)
                have h := h v434 ev434
                refine fV_goto (tgt := 28) hF dL_law_1889 (by decide) ?_
                refine fV.sub (l' := [some (aR (some b)), some (aR x1), some (aR x2), some (aR x3), some (aR x4), some (aI v434), none, none, none]) ⟨rfl, ⟨rfl, ⟨rfl, ⟨rfl, ⟨rfl, ⟨rfl, trivial⟩⟩⟩⟩⟩⟩ ?_
                exact ih S422 n423 x1 x2 x3 x4 v434 h
              · have h := h.2 c433
                refine fV_iconst (v := 0) hF dL_law_1290 (by decide) ?_
                exact h.elim
          · have h := h.2 c426
            refine fV_iconst (v := 0) hF dL_law_1273 (by decide) ?_
            exact h.elim
        · have h := h.2.2.2.2.2.2.2.2.2.2.2.2.2.2.2.2.2.2.2.2.1 c
          refine fV_tableIn (tgt := 1295) (off := 1251) hF dL_law_44 c1 c2 (by rw [c]; decide) (by decide) ?_
          refine fV_aload_n hF dL_law_1295 rfl rfl ?_
          refine fV_aload_n hF dL_law_1296 rfl rfl ?_
          refine fV_iload hF dL_law_1297 rfl ?_
          refine fV_iconst (v := 1) hF dL_law_1299 (by decide) ?_
          refine fV_iadd hF dL_law_1300 ?_
          obtain ⟨hix435, h⟩ := h
          refine fV_sld hF hX hb hix435 dL_law_1301 ?_
          refine fV_aload_n hF dL_law_1302 rfl rfl ?_
          refine fV_callSXH (As := [(aR x1), (aI (sc (Int32.toNatClampNeg (x5 + (1 : Int32))))), (aR x3)]) hF (mc_L_reserved hF.2.2.2.2.2.2.2.2.1 h) (by omega) fw_1063 fw_1061 fw_1062 fw_0 ⟨by decide, by decide, by decide +kernel⟩ (na := 3) rfl (by decide) (Nat.le_of_ble_eq_true rfl) dL_law_1303 rfl (fun rv S437 n438 hp => ?_)
          obtain ⟨v436, rfl, h⟩ := hp
          refine fV_istore0 hF [some (aR (some b)), some (aR x1), some (aR x2), some (aR x3), some (aR x4), some (aI x5), some (aI v436), none, none] dL_law_1306 (by rw [hxn]; decide) rfl rfl ?_
          refine fV_aload_n hF dL_law_1308 rfl rfl ?_
          refine fV_aload_n hF dL_law_1309 rfl rfl ?_
          refine fV_iload hF dL_law_1310 rfl ?_
          refine fV_iconst (v := 1) hF dL_law_1312 (by decide) ?_
          refine fV_iadd hF dL_law_1313 ?_
          obtain ⟨hix439, h⟩ := h
          refine fV_sld hF hX hb hix439 dL_law_1314 ?_
          obtain ⟨a440, e441, hA442, h⟩ := h
          refine fV_callV (k := 5) (As := [(aI (sc (Int32.toNatClampNeg (x5 + (1 : Int32)))))]) hF (mc_X4_reserved hF.2.2.2.2.2.2.2.2.1 h) fK5 e441 hA442 (by omega) fw_1473 fw_1470 fw_1471 fw_1472 fw_10 ⟨rfl, by decide, by decide, by decide +kernel⟩ (na := 1) rfl (by decide) (Nat.le_of_ble_eq_true rfl) dL_law_1315 rfl (fun rv S444 n445 hp => ?_)
          obtain ⟨v443, rfl, h⟩ := hp
          refine fV_istore0 hF [some (aR (some b)), some (aR x1), some (aR x2), some (aR x3), some (aR x4), some (aI x5), some (aI v436), some (aI v443), none] dL_law_1318 (by rw [hxn]; decide) rfl rfl ?_
          refine fV_aload_n hF dL_law_1320 rfl rfl ?_
          obtain ⟨hA446, h⟩ := h
          refine fV_callV (k := 5) (As := []) hF (mc_X4_thrown hF.2.2.2.2.2.2.2.2.1 h) fK5 e441 hA446 (by omega) fw_1261 fw_1258 fw_1259 fw_1260 fw_10 ⟨rfl, by decide, by decide, by decide +kernel⟩ (na := 0) rfl (by decide) (Nat.le_of_ble_eq_true rfl) dL_law_1321 rfl (fun rv S9 n9 hp => ?_)
          obtain ⟨v447, rfl, rfl, rfl, h⟩ := hp
          refine fV_iload hF dL_law_1324 rfl ?_
          refine fV_icmp_eq (tgt := 1331) hF dL_law_1326 (by decide) (fun c448 => ?_) (fun c448 => ?_)
          · have h := h.1 c448
            refine fV_iload hF dL_law_1331 rfl ?_
            refine fV_if_ne (tgt := 1348) hF dL_law_1333 (by decide) (fun c449 => ?_) (fun c449 => ?_)
            · have h := h.1 c449
              refine fV_goto (tgt := 1886) hF dL_law_1348 (by decide) ?_
              refine fV_iinc (v := 5) hF (fun y => [some (aR (some b)), some (aR x1), some (aR x2), some (aR x3), some (aR x4), some (aI y), some (aI v436), some (aI v443), none]) dL_law_1886 rfl (by decide) (by rw [hxn]; decide) rfl (fun _ => rfl) (fun v450 ev450 => ?_)
              have h := h v450 ev450
              refine fV_goto (tgt := 28) hF dL_law_1889 (by decide) ?_
              refine fV.sub (l' := [some (aR (some b)), some (aR x1), some (aR x2), some (aR x3), some (aR x4), some (aI v450), none, none, none]) ⟨rfl, ⟨rfl, ⟨rfl, ⟨rfl, ⟨rfl, ⟨rfl, trivial⟩⟩⟩⟩⟩⟩ ?_
              exact ih S444 n445 x1 x2 x3 x4 v450 h
            · have h := h.2 c449
              refine fV_aload_n hF dL_law_1336 rfl rfl ?_
              refine fV_iconst (v := 0) hF dL_law_1337 (by decide) ?_
              obtain ⟨a451, e452, hA453, h⟩ := h
              obtain ⟨hix454, h⟩ := h
              refine fV_lald hF e452 hA453 hix454 dL_law_1338 ?_
              refine fV_iload hF dL_law_1339 rfl ?_
              refine fV_i2l hF dL_law_1341 ?_
              refine fV_lcmp hF dL_law_1342 ?_
              refine fV_if_eq (tgt := 1348) hF dL_law_1343 (by decide) (fun c455 => ?_) (fun c455 => ?_)
              · have h := h.1 c455
                refine fV_goto (tgt := 1886) hF dL_law_1348 (by decide) ?_
                refine fV_iinc (v := 5) hF (fun y => [some (aR (some b)), some (aR x1), some (aR x2), some (aR x3), some (aR x4), some (aI y), some (aI v436), some (aI v443), none]) dL_law_1886 rfl (by decide) (by rw [hxn]; decide) rfl (fun _ => rfl) (fun v456 ev456 => ?_)
                have h := h v456 ev456
                refine fV_goto (tgt := 28) hF dL_law_1889 (by decide) ?_
                refine fV.sub (l' := [some (aR (some b)), some (aR x1), some (aR x2), some (aR x3), some (aR x4), some (aI v456), none, none, none]) ⟨rfl, ⟨rfl, ⟨rfl, ⟨rfl, ⟨rfl, ⟨rfl, trivial⟩⟩⟩⟩⟩⟩ ?_
                exact ih S444 n445 x1 x2 x3 x4 v456 h
              · have h := h.2 c455
                refine fV_iconst (v := 0) hF dL_law_1346 (by decide) ?_
                exact h.elim
          · have h := h.2 c448
            refine fV_iconst (v := 0) hF dL_law_1329 (by decide) ?_
            exact h.elim
        · have h := h.2.2.2.2.2.2.2.2.2.2.2.2.2.2.2.2.2.2.2.2.2.1 c
          refine fV_tableIn (tgt := 1351) (off := 1307) hF dL_law_44 c1 c2 (by rw [c]; decide) (by decide) ?_
          refine fV_aload_n hF dL_law_1351 rfl rfl ?_
          refine fV_aload_n hF dL_law_1352 rfl rfl ?_
          refine fV_iload hF dL_law_1353 rfl ?_
          refine fV_iconst (v := 1) hF dL_law_1355 (by decide) ?_
          refine fV_iadd hF dL_law_1356 ?_
          obtain ⟨hix457, h⟩ := h
          refine fV_sld hF hX hb hix457 dL_law_1357 ?_
          refine fV_aload_n hF dL_law_1358 rfl rfl ?_
          refine fV_callSXH (As := [(aR x1), (aI (sc (Int32.toNatClampNeg (x5 + (1 : Int32))))), (aR x3)]) hF (mc_L_running hF.2.2.2.2.2.2.2.2.1 h) (by omega) fw_1070 fw_1068 fw_1069 fw_0 ⟨by decide, by decide, by decide +kernel⟩ (na := 3) rfl (by decide) (Nat.le_of_ble_eq_true rfl) dL_law_1359 rfl (fun rv S459 n460 hp => ?_)
          obtain ⟨v458, rfl, h⟩ := hp
          refine fV_istore0 hF [some (aR (some b)), some (aR x1), some (aR x2), some (aR x3), some (aR x4), some (aI x5), some (aI v458), none, none] dL_law_1362 (by rw [hxn]; decide) rfl rfl ?_
          refine fV_aload_n hF dL_law_1364 rfl rfl ?_
          refine fV_aload_n hF dL_law_1365 rfl rfl ?_
          refine fV_iload hF dL_law_1366 rfl ?_
          refine fV_iconst (v := 1) hF dL_law_1368 (by decide) ?_
          refine fV_iadd hF dL_law_1369 ?_
          obtain ⟨hix461, h⟩ := h
          refine fV_sld hF hX hb hix461 dL_law_1370 ?_
          obtain ⟨a462, e463, hA464, h⟩ := h
          refine fV_callV (k := 5) (As := [(aI (sc (Int32.toNatClampNeg (x5 + (1 : Int32)))))]) hF (mc_X4_running hF.2.2.2.2.2.2.2.2.1 h) fK5 e463 hA464 (by omega) fw_1477 fw_1474 fw_1475 fw_1476 fw_10 ⟨rfl, by decide, by decide, by decide +kernel⟩ (na := 1) rfl (by decide) (Nat.le_of_ble_eq_true rfl) dL_law_1371 rfl (fun rv S466 n467 hp => ?_)
          obtain ⟨v465, rfl, h⟩ := hp
          refine fV_istore0 hF [some (aR (some b)), some (aR x1), some (aR x2), some (aR x3), some (aR x4), some (aI x5), some (aI v458), some (aI v465), none] dL_law_1374 (by rw [hxn]; decide) rfl rfl ?_
          refine fV_aload_n hF dL_law_1376 rfl rfl ?_
          obtain ⟨hA468, h⟩ := h
          refine fV_callV (k := 5) (As := []) hF (mc_X4_thrown hF.2.2.2.2.2.2.2.2.1 h) fK5 e463 hA468 (by omega) fw_1261 fw_1258 fw_1259 fw_1260 fw_10 ⟨rfl, by decide, by decide, by decide +kernel⟩ (na := 0) rfl (by decide) (Nat.le_of_ble_eq_true rfl) dL_law_1377 rfl (fun rv S9 n9 hp => ?_)
          obtain ⟨v469, rfl, rfl, rfl, h⟩ := hp
          refine fV_iload hF dL_law_1380 rfl ?_
          refine fV_icmp_eq (tgt := 1387) hF dL_law_1382 (by decide) (fun c470 => ?_) (fun c470 => ?_)
          · have h := h.1 c470
            refine fV_iload hF dL_law_1387 rfl ?_
            refine fV_if_ne (tgt := 1404) hF dL_law_1389 (by decide) (fun c471 => ?_) (fun c471 => ?_)
            · have h := h.1 c471
              refine fV_goto (tgt := 1886) hF dL_law_1404 (by decide) ?_
              refine fV_iinc (v := 5) hF (fun y => [some (aR (some b)), some (aR x1), some (aR x2), some (aR x3), some (aR x4), some (aI y), some (aI v458), some (aI v465), none]) dL_law_1886 rfl (by decide) (by rw [hxn]; decide) rfl (fun _ => rfl) (fun v472 ev472 => ?_)
              have h := h v472 ev472
              refine fV_goto (tgt := 28) hF dL_law_1889 (by decide) ?_
              refine fV.sub (l' := [some (aR (some b)), some (aR x1), some (aR x2), some (aR x3), some (aR x4), some (aI v472), none, none, none]) ⟨rfl, ⟨rfl, ⟨rfl, ⟨rfl, ⟨rfl, ⟨rfl, trivial⟩⟩⟩⟩⟩⟩ ?_
              exact ih S466 n467 x1 x2 x3 x4 v472 h
            · have h := h.2 c471
              refine fV_aload_n hF dL_law_1392 rfl rfl ?_
              refine fV_iconst (v := 0) hF dL_law_1393 (by decide) ?_
              obtain ⟨a473, e474, hA475, h⟩ := h
              obtain ⟨hix476, h⟩ := h
              refine fV_lald hF e474 hA475 hix476 dL_law_1394 ?_
              refine fV_iload hF dL_law_1395 rfl ?_
              refine fV_i2l hF dL_law_1397 ?_
              refine fV_lcmp hF dL_law_1398 ?_
              refine fV_if_eq (tgt := 1404) hF dL_law_1399 (by decide) (fun c477 => ?_) (fun c477 => ?_)
              · have h := h.1 c477
                refine fV_goto (tgt := 1886) hF dL_law_1404 (by decide) ?_
                refine fV_iinc (v := 5) hF (fun y => [some (aR (some b)), some (aR x1), some (aR x2), some (aR x3), some (aR x4), some (aI y), some (aI v458), some (aI v465), none]) dL_law_1886 rfl (by decide) (by rw [hxn]; decide) rfl (fun _ => rfl) (fun v478 ev478 => ?_)
                have h := h v478 ev478
                refine fV_goto (tgt := 28) hF dL_law_1889 (by decide) ?_
                refine fV.sub (l' := [some (aR (some b)), some (aR x1), some (aR x2), some (aR x3), some (aR x4), some (aI v478), none, none, none]) ⟨rfl, ⟨rfl, ⟨rfl, ⟨rfl, ⟨rfl, ⟨rfl, trivial⟩⟩⟩⟩⟩⟩ ?_
                exact ih S466 n467 x1 x2 x3 x4 v478 h
              · have h := h.2 c477
                refine fV_iconst (v := 0) hF dL_law_1402 (by decide) ?_
                exact h.elim
          · have h := h.2 c470
            refine fV_iconst (v := 0) hF dL_law_1385 (by decide) ?_
            exact h.elim
        · have h := h.2.2.2.2.2.2.2.2.2.2.2.2.2.2.2.2.2.2.2.2.2.2.1 c
          refine fV_tableIn (tgt := 1407) (off := 1363) hF dL_law_44 c1 c2 (by rw [c]; decide) (by decide) ?_
          refine fV_aload_n hF dL_law_1407 rfl rfl ?_
          refine fV_aload_n hF dL_law_1408 rfl rfl ?_
          refine fV_iload hF dL_law_1409 rfl ?_
          refine fV_iconst (v := 1) hF dL_law_1411 (by decide) ?_
          refine fV_iadd hF dL_law_1412 ?_
          obtain ⟨hix479, h⟩ := h
          refine fV_sld hF hX hb hix479 dL_law_1413 ?_
          refine fV_aload_n hF dL_law_1414 rfl rfl ?_
          refine fV_callSXH (As := [(aR x1), (aI (sc (Int32.toNatClampNeg (x5 + (1 : Int32))))), (aR x3)]) hF (mc_L_demand hF.2.2.2.2.2.2.2.2.1 h) (by omega) fw_1077 fw_1075 fw_1076 fw_0 ⟨by decide, by decide, by decide +kernel⟩ (na := 3) rfl (by decide) (Nat.le_of_ble_eq_true rfl) dL_law_1415 rfl (fun rv S481 n482 hp => ?_)
          obtain ⟨v480, rfl, h⟩ := hp
          refine fV_istore0 hF [some (aR (some b)), some (aR x1), some (aR x2), some (aR x3), some (aR x4), some (aI x5), some (aI v480), none, none] dL_law_1418 (by rw [hxn]; decide) rfl rfl ?_
          refine fV_aload_n hF dL_law_1420 rfl rfl ?_
          refine fV_aload_n hF dL_law_1421 rfl rfl ?_
          refine fV_iload hF dL_law_1422 rfl ?_
          refine fV_iconst (v := 1) hF dL_law_1424 (by decide) ?_
          refine fV_iadd hF dL_law_1425 ?_
          obtain ⟨hix483, h⟩ := h
          refine fV_sld hF hX hb hix483 dL_law_1426 ?_
          obtain ⟨a484, e485, hA486, h⟩ := h
          refine fV_callV (k := 5) (As := [(aI (sc (Int32.toNatClampNeg (x5 + (1 : Int32)))))]) hF (mc_X4_demand hF.2.2.2.2.2.2.2.2.1 h) fK5 e485 hA486 (by omega) fw_1481 fw_1478 fw_1479 fw_1480 fw_10 ⟨rfl, by decide, by decide, by decide +kernel⟩ (na := 1) rfl (by decide) (Nat.le_of_ble_eq_true rfl) dL_law_1427 rfl (fun rv S488 n489 hp => ?_)
          obtain ⟨v487, rfl, h⟩ := hp
          refine fV_istore0 hF [some (aR (some b)), some (aR x1), some (aR x2), some (aR x3), some (aR x4), some (aI x5), some (aI v480), some (aI v487), none] dL_law_1430 (by rw [hxn]; decide) rfl rfl ?_
          refine fV_aload_n hF dL_law_1432 rfl rfl ?_
          obtain ⟨hA490, h⟩ := h
          refine fV_callV (k := 5) (As := []) hF (mc_X4_thrown hF.2.2.2.2.2.2.2.2.1 h) fK5 e485 hA490 (by omega) fw_1261 fw_1258 fw_1259 fw_1260 fw_10 ⟨rfl, by decide, by decide, by decide +kernel⟩ (na := 0) rfl (by decide) (Nat.le_of_ble_eq_true rfl) dL_law_1433 rfl (fun rv S9 n9 hp => ?_)
          obtain ⟨v491, rfl, rfl, rfl, h⟩ := hp
          refine fV_iload hF dL_law_1436 rfl ?_
          refine fV_icmp_eq (tgt := 1443) hF dL_law_1438 (by decide) (fun c492 => ?_) (fun c492 => ?_)
          · have h := h.1 c492
            refine fV_iload hF dL_law_1443 rfl ?_
            refine fV_if_ne (tgt := 1460) hF dL_law_1445 (by decide) (fun c493 => ?_) (fun c493 => ?_)
            · have h := h.1 c493
              refine fV_goto (tgt := 1886) hF dL_law_1460 (by decide) ?_
              refine fV_iinc (v := 5) hF (fun y => [some (aR (some b)), some (aR x1), some (aR x2), some (aR x3), some (aR x4), some (aI y), some (aI v480), some (aI v487), none]) dL_law_1886 rfl (by decide) (by rw [hxn]; decide) rfl (fun _ => rfl) (fun v494 ev494 => ?_)
              have h := h v494 ev494
              refine fV_goto (tgt := 28) hF dL_law_1889 (by decide) ?_
              refine fV.sub (l' := [some (aR (some b)), some (aR x1), some (aR x2), some (aR x3), some (aR x4), some (aI v494), none, none, none]) ⟨rfl, ⟨rfl, ⟨rfl, ⟨rfl, ⟨rfl, ⟨rfl, trivial⟩⟩⟩⟩⟩⟩ ?_
              exact ih S488 n489 x1 x2 x3 x4 v494 h
            · have h := h.2 c493
              refine fV_aload_n hF dL_law_1448 rfl rfl ?_
              refine fV_iconst (v := 0) hF dL_law_1449 (by decide) ?_
              obtain ⟨a495, e496, hA497, h⟩ := h
              obtain ⟨hix498, h⟩ := h
              refine fV_lald hF e496 hA497 hix498 dL_law_1450 ?_
              refine fV_iload hF dL_law_1451 rfl ?_
              refine fV_i2l hF dL_law_1453 ?_
              refine fV_lcmp hF dL_law_1454 ?_
              refine fV_if_eq (tgt := 1460) hF dL_law_1455 (by decide) (fun c499 => ?_) (fun c499 => ?_)
              · have h := h.1 c499
                refine fV_goto (tgt := 1886) hF dL_law_1460 (by decide) ?_
                refine fV_iinc (v := 5) hF (fun y => [some (aR (some b)), some (aR x1), some (aR x2), some (aR x3), some (aR x4), some (aI y), some (aI v480), some (aI v487), none]) dL_law_1886 rfl (by decide) (by rw [hxn]; decide) rfl (fun _ => rfl) (fun v500 ev500 => ?_)
                have h := h v500 ev500
                refine fV_goto (tgt := 28) hF dL_law_1889 (by decide) ?_
                refine fV.sub (l' := [some (aR (some b)), some (aR x1), some (aR x2), some (aR x3), some (aR x4), some (aI v500), none, none, none]) ⟨rfl, ⟨rfl, ⟨rfl, ⟨rfl, ⟨rfl, ⟨rfl, trivial⟩⟩⟩⟩⟩⟩ ?_
                exact ih S488 n489 x1 x2 x3 x4 v500 h
              · have h := h.2 c499
                refine fV_iconst (v := 0) hF dL_law_1458 (by decide) ?_
                exact h.elim
          · have h := h.2 c492
            refine fV_iconst (v := 0) hF dL_law_1441 (by decide) ?_
            exact h.elim
        · have h := h.2.2.2.2.2.2.2.2.2.2.2.2.2.2.2.2.2.2.2.2.2.2.2.1 c
          refine fV_tableIn (tgt := 1463) (off := 1419) hF dL_law_44 c1 c2 (by rw [c]; decide) (by decide) ?_
          refine fV_aload_n hF dL_law_1463 rfl rfl ?_
          refine fV_aload_n hF dL_law_1464 rfl rfl ?_
          refine fV_iload hF dL_law_1465 rfl ?_
          refine fV_iconst (v := 1) hF dL_law_1467 (by decide) ?_
          refine fV_iadd hF dL_law_1468 ?_
          obtain ⟨hix501, h⟩ := h
          refine fV_sld hF hX hb hix501 dL_law_1469 ?_
          refine fV_aload_n hF dL_law_1470 rfl rfl ?_
          refine fV_callSXH (As := [(aR x1), (aI (sc (Int32.toNatClampNeg (x5 + (1 : Int32))))), (aR x3)]) hF (mc_L_share hF.2.2.2.2.2.2.2.2.1 h) (by omega) fw_1084 fw_1082 fw_1083 fw_0 ⟨by decide, by decide, by decide +kernel⟩ (na := 3) rfl (by decide) (Nat.le_of_ble_eq_true rfl) dL_law_1471 rfl (fun rv S503 n504 hp => ?_)
          obtain ⟨v502, rfl, h⟩ := hp
          refine fV_istore0 hF [some (aR (some b)), some (aR x1), some (aR x2), some (aR x3), some (aR x4), some (aI x5), some (aI v502), none, none] dL_law_1474 (by rw [hxn]; decide) rfl rfl ?_
          refine fV_aload_n hF dL_law_1476 rfl rfl ?_
          refine fV_aload_n hF dL_law_1477 rfl rfl ?_
          refine fV_iload hF dL_law_1478 rfl ?_
          refine fV_iconst (v := 1) hF dL_law_1480 (by decide) ?_
          refine fV_iadd hF dL_law_1481 ?_
          obtain ⟨hix505, h⟩ := h
          refine fV_sld hF hX hb hix505 dL_law_1482 ?_
          obtain ⟨a506, e507, hA508, h⟩ := h
          refine fV_callV (k := 5) (As := [(aI (sc (Int32.toNatClampNeg (x5 + (1 : Int32)))))]) hF (mc_X4_share hF.2.2.2.2.2.2.2.2.1 h) fK5 e507 hA508 (by omega) fw_1485 fw_1482 fw_1483 fw_1484 fw_10 ⟨rfl, by decide, by decide, by decide +kernel⟩ (na := 1) rfl (by decide) (Nat.le_of_ble_eq_true rfl) dL_law_1483 rfl (fun rv S510 n511 hp => ?_)
          obtain ⟨v509, rfl, h⟩ := hp
          refine fV_istore0 hF [some (aR (some b)), some (aR x1), some (aR x2), some (aR x3), some (aR x4), some (aI x5), some (aI v502), some (aI v509), none] dL_law_1486 (by rw [hxn]; decide) rfl rfl ?_
          refine fV_aload_n hF dL_law_1488 rfl rfl ?_
          obtain ⟨hA512, h⟩ := h
          refine fV_callV (k := 5) (As := []) hF (mc_X4_thrown hF.2.2.2.2.2.2.2.2.1 h) fK5 e507 hA512 (by omega) fw_1261 fw_1258 fw_1259 fw_1260 fw_10 ⟨rfl, by decide, by decide, by decide +kernel⟩ (na := 0) rfl (by decide) (Nat.le_of_ble_eq_true rfl) dL_law_1489 rfl (fun rv S9 n9 hp => ?_)
          obtain ⟨v513, rfl, rfl, rfl, h⟩ := hp
          refine fV_iload hF dL_law_1492 rfl ?_
          refine fV_icmp_eq (tgt := 1499) hF dL_law_1494 (by decide) (fun c514 => ?_) (fun c514 => ?_)
          · have h := h.1 c514
            refine fV_iload hF dL_law_1499 rfl ?_
            refine fV_if_ne (tgt := 1516) hF dL_law_1501 (by decide) (fun c515 => ?_) (fun c515 => ?_)
            · have h := h.1 c515
              refine fV_goto (tgt := 1886) hF dL_law_1516 (by decide) ?_
              refine fV_iinc (v := 5) hF (fun y => [some (aR (some b)), some (aR x1), some (aR x2), some (aR x3), some (aR x4), some (aI y), some (aI v502), some (aI v509), none]) dL_law_1886 rfl (by decide) (by rw [hxn]; decide) rfl (fun _ => rfl) (fun v516 ev516 => ?_)
              have h := h v516 ev516
              refine fV_goto (tgt := 28) hF dL_law_1889 (by decide) ?_
              refine fV.sub (l' := [some (aR (some b)), some (aR x1), some (aR x2), some (aR x3), some (aR x4), some (aI v516), none, none, none]) ⟨rfl, ⟨rfl, ⟨rfl, ⟨rfl, ⟨rfl, ⟨rfl, trivial⟩⟩⟩⟩⟩⟩ ?_
              exact ih S510 n511 x1 x2 x3 x4 v516 h
            · have h := h.2 c515
              refine fV_aload_n hF dL_law_1504 rfl rfl ?_
              refine fV_iconst (v := 0) hF dL_law_1505 (by decide) ?_
              obtain ⟨a517, e518, hA519, h⟩ := h
              obtain ⟨hix520, h⟩ := h
              refine fV_lald hF e518 hA519 hix520 dL_law_1506 ?_
              refine fV_iload hF dL_law_1507 rfl ?_
              refine fV_i2l hF dL_law_1509 ?_
              refine fV_lcmp hF dL_law_1510 ?_
              refine fV_if_eq (tgt := 1516) hF dL_law_1511 (by decide) (fun c521 => ?_) (fun c521 => ?_)
              · have h := h.1 c521
                refine fV_goto (tgt := 1886) hF dL_law_1516 (by decide) ?_
                refine fV_iinc (v := 5) hF (fun y => [some (aR (some b)), some (aR x1), some (aR x2), some (aR x3), some (aR x4), some (aI y), some (aI v502), some (aI v509), none]) dL_law_1886 rfl (by decide) (by rw [hxn]; decide) rfl (fun _ => rfl) (fun v522 ev522 => ?_)
                have h := h v522 ev522
                refine fV_goto (tgt := 28) hF dL_law_1889 (by decide) ?_
                refine fV.sub (l' := [some (aR (some b)), some (aR x1), some (aR x2), some (aR x3), some (aR x4), some (aI v522), none, none, none]) ⟨rfl, ⟨rfl, ⟨rfl, ⟨rfl, ⟨rfl, ⟨rfl, trivial⟩⟩⟩⟩⟩⟩ ?_
                exact ih S510 n511 x1 x2 x3 x4 v522 h
              · have h := h.2 c521
                refine fV_iconst (v := 0) hF dL_law_1514 (by decide) ?_
                exact h.elim
          · have h := h.2 c514
            refine fV_iconst (v := 0) hF dL_law_1497 (by decide) ?_
            exact h.elim
        · have h := h.2.2.2.2.2.2.2.2.2.2.2.2.2.2.2.2.2.2.2.2.2.2.2.2.1 c
          refine fV_tableIn (tgt := 1519) (off := 1475) hF dL_law_44 c1 c2 (by rw [c]; decide) (by decide) ?_
          refine fV_aload_n hF dL_law_1519 rfl rfl ?_
          refine fV_aload_n hF dL_law_1520 rfl rfl ?_
          refine fV_iload hF dL_law_1521 rfl ?_
          refine fV_iconst (v := 1) hF dL_law_1523 (by decide) ?_
          refine fV_iadd hF dL_law_1524 ?_
          obtain ⟨hix523, h⟩ := h
          refine fV_sld hF hX hb hix523 dL_law_1525 ?_
          refine fV_aload_n hF dL_law_1526 rfl rfl ?_
          refine fV_callSXH (As := [(aR x1), (aI (sc (Int32.toNatClampNeg (x5 + (1 : Int32))))), (aR x3)]) hF (mc_L_shareByLevels hF.2.2.2.2.2.2.2.2.1 h) (by omega) fw_1091 fw_1089 fw_1090 fw_0 ⟨by decide, by decide, by decide +kernel⟩ (na := 3) rfl (by decide) (Nat.le_of_ble_eq_true rfl) dL_law_1527 rfl (fun rv S525 n526 hp => ?_)
          obtain ⟨v524, rfl, h⟩ := hp
          refine fV_istore0 hF [some (aR (some b)), some (aR x1), some (aR x2), some (aR x3), some (aR x4), some (aI x5), some (aI v524), none, none] dL_law_1530 (by rw [hxn]; decide) rfl rfl ?_
          refine fV_aload_n hF dL_law_1532 rfl rfl ?_
          refine fV_aload_n hF dL_law_1533 rfl rfl ?_
          refine fV_iload hF dL_law_1534 rfl ?_
          refine fV_iconst (v := 1) hF dL_law_1536 (by decide) ?_
          refine fV_iadd hF dL_law_1537 ?_
          obtain ⟨hix527, h⟩ := h
          refine fV_sld hF hX hb hix527 dL_law_1538 ?_
          obtain ⟨a528, e529, hA530, h⟩ := h
          refine fV_callV (k := 5) (As := [(aI (sc (Int32.toNatClampNeg (x5 + (1 : Int32)))))]) hF (mc_X4_shareByLevels hF.2.2.2.2.2.2.2.2.1 h) fK5 e529 hA530 (by omega) fw_1489 fw_1486 fw_1487 fw_1488 fw_10 ⟨rfl, by decide, by decide, by decide +kernel⟩ (na := 1) rfl (by decide) (Nat.le_of_ble_eq_true rfl) dL_law_1539 rfl (fun rv S532 n533 hp => ?_)
          obtain ⟨v531, rfl, h⟩ := hp
          refine fV_istore0 hF [some (aR (some b)), some (aR x1), some (aR x2), some (aR x3), some (aR x4), some (aI x5), some (aI v524), some (aI v531), none] dL_law_1542 (by rw [hxn]; decide) rfl rfl ?_
          refine fV_aload_n hF dL_law_1544 rfl rfl ?_
          obtain ⟨hA534, h⟩ := h
          refine fV_callV (k := 5) (As := []) hF (mc_X4_thrown hF.2.2.2.2.2.2.2.2.1 h) fK5 e529 hA534 (by omega) fw_1261 fw_1258 fw_1259 fw_1260 fw_10 ⟨rfl, by decide, by decide, by decide +kernel⟩ (na := 0) rfl (by decide) (Nat.le_of_ble_eq_true rfl) dL_law_1545 rfl (fun rv S9 n9 hp => ?_)
          obtain ⟨v535, rfl, rfl, rfl, h⟩ := hp
          refine fV_iload hF dL_law_1548 rfl ?_
          refine fV_icmp_eq (tgt := 1555) hF dL_law_1550 (by decide) (fun c536 => ?_) (fun c536 => ?_)
          · have h := h.1 c536
            refine fV_iload hF dL_law_1555 rfl ?_
            refine fV_if_ne (tgt := 1572) hF dL_law_1557 (by decide) (fun c537 => ?_) (fun c537 => ?_)
            · have h := h.1 c537
              refine fV_goto (tgt := 1886) hF dL_law_1572 (by decide) ?_
              refine fV_iinc (v := 5) hF (fun y => [some (aR (some b)), some (aR x1), some (aR x2), some (aR x3), some (aR x4), some (aI y), some (aI v524), some (aI v531), none]) dL_law_1886 rfl (by decide) (by rw [hxn]; decide) rfl (fun _ => rfl) (fun v538 ev538 => ?_)
              have h := h v538 ev538
              refine fV_goto (tgt := 28) hF dL_law_1889 (by decide) ?_
              refine fV.sub (l' := [some (aR (some b)), some (aR x1), some (aR x2), some (aR x3), some (aR x4), some (aI v538), none, none, none]) ⟨rfl, ⟨rfl, ⟨rfl, ⟨rfl, ⟨rfl, ⟨rfl, trivial⟩⟩⟩⟩⟩⟩ ?_
              exact ih S532 n533 x1 x2 x3 x4 v538 h
            · have h := h.2 c537
              refine fV_aload_n hF dL_law_1560 rfl rfl ?_
              refine fV_iconst (v := 0) hF dL_law_1561 (by decide) ?_
              obtain ⟨a539, e540, hA541, h⟩ := h
              obtain ⟨hix542, h⟩ := h
              refine fV_lald hF e540 hA541 hix542 dL_law_1562 ?_
              refine fV_iload hF dL_law_1563 rfl ?_
              refine fV_i2l hF dL_law_1565 ?_
              refine fV_lcmp hF dL_law_1566 ?_
              refine fV_if_eq (tgt := 1572) hF dL_law_1567 (by decide) (fun c543 => ?_) (fun c543 => ?_)
              · have h := h.1 c543
                refine fV_goto (tgt := 1886) hF dL_law_1572 (by decide) ?_
                refine fV_iinc (v := 5) hF (fun y => [some (aR (some b)), some (aR x1), some (aR x2), some (aR x3), some (aR x4), some (aI y), some (aI v524), some (aI v531), none]) dL_law_1886 rfl (by decide) (by rw [hxn]; decide) rfl (fun _ => rfl) (fun v544 ev544 => ?_)
                have h := h v544 ev544
                refine fV_goto (tgt := 28) hF dL_law_1889 (by decide) ?_
                refine fV.sub (l' := [some (aR (some b)), some (aR x1), some (aR x2), some (aR x3), some (aR x4), some (aI v544), none, none, none]) ⟨rfl, ⟨rfl, ⟨rfl, ⟨rfl, ⟨rfl, ⟨rfl, trivial⟩⟩⟩⟩⟩⟩ ?_
                exact ih S532 n533 x1 x2 x3 x4 v544 h
              · have h := h.2 c543
                refine fV_iconst (v := 0) hF dL_law_1570 (by decide) ?_
                exact h.elim
          · have h := h.2 c536
            refine fV_iconst (v := 0) hF dL_law_1553 (by decide) ?_
            exact h.elim
        · have h := h.2.2.2.2.2.2.2.2.2.2.2.2.2.2.2.2.2.2.2.2.2.2.2.2.2.1 c
          refine fV_tableIn (tgt := 1575) (off := 1531) hF dL_law_44 c1 c2 (by rw [c]; decide) (by decide) ?_
          refine fV_aload_n hF dL_law_1575 rfl rfl ?_
          refine fV_aload_n hF dL_law_1576 rfl rfl ?_
          refine fV_iload hF dL_law_1577 rfl ?_
          refine fV_iconst (v := 1) hF dL_law_1579 (by decide) ?_
          refine fV_iadd hF dL_law_1580 ?_
          obtain ⟨hix545, h⟩ := h
          refine fV_sld hF hX hb hix545 dL_law_1581 ?_
          refine fV_aload_n hF dL_law_1582 rfl rfl ?_
          refine fV_callSXH (As := [(aR x1), (aI (sc (Int32.toNatClampNeg (x5 + (1 : Int32))))), (aR x3)]) hF (mc_L_due hF.2.2.2.2.2.2.2.2.1 h) (by omega) fw_1098 fw_1096 fw_1097 fw_0 ⟨by decide, by decide, by decide +kernel⟩ (na := 3) rfl (by decide) (Nat.le_of_ble_eq_true rfl) dL_law_1583 rfl (fun rv S547 n548 hp => ?_)
          obtain ⟨v546, rfl, h⟩ := hp
          refine fV_istore0 hF [some (aR (some b)), some (aR x1), some (aR x2), some (aR x3), some (aR x4), some (aI x5), some (aI v546), none, none] dL_law_1586 (by rw [hxn]; decide) rfl rfl ?_
          refine fV_aload_n hF dL_law_1588 rfl rfl ?_
          refine fV_aload_n hF dL_law_1589 rfl rfl ?_
          refine fV_iload hF dL_law_1590 rfl ?_
          refine fV_iconst (v := 1) hF dL_law_1592 (by decide) ?_
          refine fV_iadd hF dL_law_1593 ?_
          obtain ⟨hix549, h⟩ := h
          refine fV_sld hF hX hb hix549 dL_law_1594 ?_
          obtain ⟨a550, e551, hA552, h⟩ := h
          refine fV_callV (k := 5) (As := [(aI (sc (Int32.toNatClampNeg (x5 + (1 : Int32)))))]) hF (mc_X4_due hF.2.2.2.2.2.2.2.2.1 h) fK5 e551 hA552 (by omega) fw_1494 fw_1491 fw_1492 fw_1493 fw_10 ⟨rfl, by decide, by decide, by decide +kernel⟩ (na := 1) rfl (by decide) (Nat.le_of_ble_eq_true rfl) dL_law_1595 rfl (fun rv S554 n555 hp => ?_)
          obtain ⟨v553, rfl, h⟩ := hp
          refine fV_istore0 hF [some (aR (some b)), some (aR x1), some (aR x2), some (aR x3), some (aR x4), some (aI x5), some (aI v546), some (aI v553), none] dL_law_1598 (by rw [hxn]; decide) rfl rfl ?_
          refine fV_aload_n hF dL_law_1600 rfl rfl ?_
          obtain ⟨hA556, h⟩ := h
          refine fV_callV (k := 5) (As := []) hF (mc_X4_thrown hF.2.2.2.2.2.2.2.2.1 h) fK5 e551 hA556 (by omega) fw_1261 fw_1258 fw_1259 fw_1260 fw_10 ⟨rfl, by decide, by decide, by decide +kernel⟩ (na := 0) rfl (by decide) (Nat.le_of_ble_eq_true rfl) dL_law_1601 rfl (fun rv S9 n9 hp => ?_)
          obtain ⟨v557, rfl, rfl, rfl, h⟩ := hp
          refine fV_iload hF dL_law_1604 rfl ?_
          refine fV_icmp_eq (tgt := 1611) hF dL_law_1606 (by decide) (fun c558 => ?_) (fun c558 => ?_)
          · have h := h.1 c558
            refine fV_iload hF dL_law_1611 rfl ?_
            refine fV_if_ne (tgt := 1628) hF dL_law_1613 (by decide) (fun c559 => ?_) (fun c559 => ?_)
            · have h := h.1 c559
              refine fV_goto (tgt := 1886) hF dL_law_1628 (by decide) ?_
              refine fV_iinc (v := 5) hF (fun y => [some (aR (some b)), some (aR x1), some (aR x2), some (aR x3), some (aR x4), some (aI y), some (aI v546), some (aI v553), none]) dL_law_1886 rfl (by decide) (by rw [hxn]; decide) rfl (fun _ => rfl) (fun v560 ev560 => ?_)
              have h := h v560 ev560
              refine fV_goto (tgt := 28) hF dL_law_1889 (by decide) ?_
              refine fV.sub (l' := [some (aR (some b)), some (aR x1), some (aR x2), some (aR x3), some (aR x4), some (aI v560), none, none, none]) ⟨rfl, ⟨rfl, ⟨rfl, ⟨rfl, ⟨rfl, ⟨rfl, trivial⟩⟩⟩⟩⟩⟩ ?_
              exact ih S554 n555 x1 x2 x3 x4 v560 h
            · have h := h.2 c559
              refine fV_aload_n hF dL_law_1616 rfl rfl ?_
              refine fV_iconst (v := 0) hF dL_law_1617 (by decide) ?_
              obtain ⟨a561, e562, hA563, h⟩ := h
              obtain ⟨hix564, h⟩ := h
              refine fV_lald hF e562 hA563 hix564 dL_law_1618 ?_
              refine fV_iload hF dL_law_1619 rfl ?_
              refine fV_i2l hF dL_law_1621 ?_
              refine fV_lcmp hF dL_law_1622 ?_
              refine fV_if_eq (tgt := 1628) hF dL_law_1623 (by decide) (fun c565 => ?_) (fun c565 => ?_)
              · have h := h.1 c565
                refine fV_goto (tgt := 1886) hF dL_law_1628 (by decide) ?_
                refine fV_iinc (v := 5) hF (fun y => [some (aR (some b)), some (aR x1), some (aR x2), some (aR x3), some (aR x4), some (aI y), some (aI v546), some (aI v553), none]) dL_law_1886 rfl (by decide) (by rw [hxn]; decide) rfl (fun _ => rfl) (fun v566 ev566 => ?_)
                have h := h v566 ev566
                refine fV_goto (tgt := 28) hF dL_law_1889 (by decide) ?_
                refine fV.sub (l' := [some (aR (some b)), some (aR x1), some (aR x2), some (aR x3), some (aR x4), some (aI v566), none, none, none]) ⟨rfl, ⟨rfl, ⟨rfl, ⟨rfl, ⟨rfl, ⟨rfl, trivial⟩⟩⟩⟩⟩⟩ ?_
                exact ih S554 n555 x1 x2 x3 x4 v566 h
              · have h := h.2 c565
                refine fV_iconst (v := 0) hF dL_law_1626 (by decide) ?_
                exact h.elim
          · have h := h.2 c558
            refine fV_iconst (v := 0) hF dL_law_1609 (by decide) ?_
            exact h.elim
        · have h := h.2.2.2.2.2.2.2.2.2.2.2.2.2.2.2.2.2.2.2.2.2.2.2.2.2.2.1 c
          refine fV_tableIn (tgt := 1631) (off := 1587) hF dL_law_44 c1 c2 (by rw [c]; decide) (by decide) ?_
          refine fV_aload_n hF dL_law_1631 rfl rfl ?_
          refine fV_aload_n hF dL_law_1632 rfl rfl ?_
          refine fV_iload hF dL_law_1633 rfl ?_
          refine fV_iconst (v := 1) hF dL_law_1635 (by decide) ?_
          refine fV_iadd hF dL_law_1636 ?_
          obtain ⟨hix567, h⟩ := h
          refine fV_sld hF hX hb hix567 dL_law_1637 ?_
          refine fV_aload_n hF dL_law_1638 rfl rfl ?_
          refine fV_callSXH (As := [(aR x1), (aI (sc (Int32.toNatClampNeg (x5 + (1 : Int32))))), (aR x3)]) hF (mc_L_freeFor hF.2.2.2.2.2.2.2.2.1 h) (by omega) fw_1105 fw_1103 fw_1104 fw_0 ⟨by decide, by decide, by decide +kernel⟩ (na := 3) rfl (by decide) (Nat.le_of_ble_eq_true rfl) dL_law_1639 rfl (fun rv S569 n570 hp => ?_)
          obtain ⟨v568, rfl, h⟩ := hp
          refine fV_istore0 hF [some (aR (some b)), some (aR x1), some (aR x2), some (aR x3), some (aR x4), some (aI x5), some (aI v568), none, none] dL_law_1642 (by rw [hxn]; decide) rfl rfl ?_
          refine fV_aload_n hF dL_law_1644 rfl rfl ?_
          refine fV_aload_n hF dL_law_1645 rfl rfl ?_
          refine fV_iload hF dL_law_1646 rfl ?_
          refine fV_iconst (v := 1) hF dL_law_1648 (by decide) ?_
          refine fV_iadd hF dL_law_1649 ?_
          obtain ⟨hix571, h⟩ := h
          refine fV_sld hF hX hb hix571 dL_law_1650 ?_
          obtain ⟨a572, e573, hA574, h⟩ := h
          refine fV_callV (k := 5) (As := [(aI (sc (Int32.toNatClampNeg (x5 + (1 : Int32)))))]) hF (mc_X4_freeFor hF.2.2.2.2.2.2.2.2.1 h) fK5 e573 hA574 (by omega) fw_1498 fw_1495 fw_1496 fw_1497 fw_10 ⟨rfl, by decide, by decide, by decide +kernel⟩ (na := 1) rfl (by decide) (Nat.le_of_ble_eq_true rfl) dL_law_1651 rfl (fun rv S576 n577 hp => ?_)
          obtain ⟨v575, rfl, h⟩ := hp
          refine fV_istore0 hF [some (aR (some b)), some (aR x1), some (aR x2), some (aR x3), some (aR x4), some (aI x5), some (aI v568), some (aI v575), none] dL_law_1654 (by rw [hxn]; decide) rfl rfl ?_
          refine fV_aload_n hF dL_law_1656 rfl rfl ?_
          obtain ⟨hA578, h⟩ := h
          refine fV_callV (k := 5) (As := []) hF (mc_X4_thrown hF.2.2.2.2.2.2.2.2.1 h) fK5 e573 hA578 (by omega) fw_1261 fw_1258 fw_1259 fw_1260 fw_10 ⟨rfl, by decide, by decide, by decide +kernel⟩ (na := 0) rfl (by decide) (Nat.le_of_ble_eq_true rfl) dL_law_1657 rfl (fun rv S9 n9 hp => ?_)
          obtain ⟨v579, rfl, rfl, rfl, h⟩ := hp
          refine fV_iload hF dL_law_1660 rfl ?_
          refine fV_icmp_eq (tgt := 1667) hF dL_law_1662 (by decide) (fun c580 => ?_) (fun c580 => ?_)
          · have h := h.1 c580
            refine fV_iload hF dL_law_1667 rfl ?_
            refine fV_if_ne (tgt := 1684) hF dL_law_1669 (by decide) (fun c581 => ?_) (fun c581 => ?_)
            · have h := h.1 c581
              refine fV_goto (tgt := 1886) hF dL_law_1684 (by decide) ?_
              refine fV_iinc (v := 5) hF (fun y => [some (aR (some b)), some (aR x1), some (aR x2), some (aR x3), some (aR x4), some (aI y), some (aI v568), some (aI v575), none]) dL_law_1886 rfl (by decide) (by rw [hxn]; decide) rfl (fun _ => rfl) (fun v582 ev582 => ?_)
              have h := h v582 ev582
              refine fV_goto (tgt := 28) hF dL_law_1889 (by decide) ?_
              refine fV.sub (l' := [some (aR (some b)), some (aR x1), some (aR x2), some (aR x3), some (aR x4), some (aI v582), none, none, none]) ⟨rfl, ⟨rfl, ⟨rfl, ⟨rfl, ⟨rfl, ⟨rfl, trivial⟩⟩⟩⟩⟩⟩ ?_
              exact ih S576 n577 x1 x2 x3 x4 v582 h
            · have h := h.2 c581
              refine fV_aload_n hF dL_law_1672 rfl rfl ?_
              refine fV_iconst (v := 0) hF dL_law_1673 (by decide) ?_
              obtain ⟨a583, e584, hA585, h⟩ := h
              obtain ⟨hix586, h⟩ := h
              refine fV_lald hF e584 hA585 hix586 dL_law_1674 ?_
              refine fV_iload hF dL_law_1675 rfl ?_
              refine fV_i2l hF dL_law_1677 ?_
              refine fV_lcmp hF dL_law_1678 ?_
              refine fV_if_eq (tgt := 1684) hF dL_law_1679 (by decide) (fun c587 => ?_) (fun c587 => ?_)
              · have h := h.1 c587
                refine fV_goto (tgt := 1886) hF dL_law_1684 (by decide) ?_
                refine fV_iinc (v := 5) hF (fun y => [some (aR (some b)), some (aR x1), some (aR x2), some (aR x3), some (aR x4), some (aI y), some (aI v568), some (aI v575), none]) dL_law_1886 rfl (by decide) (by rw [hxn]; decide) rfl (fun _ => rfl) (fun v588 ev588 => ?_)
                have h := h v588 ev588
                refine fV_goto (tgt := 28) hF dL_law_1889 (by decide) ?_
                refine fV.sub (l' := [some (aR (some b)), some (aR x1), some (aR x2), some (aR x3), some (aR x4), some (aI v588), none, none, none]) ⟨rfl, ⟨rfl, ⟨rfl, ⟨rfl, ⟨rfl, ⟨rfl, trivial⟩⟩⟩⟩⟩⟩ ?_
                exact ih S576 n577 x1 x2 x3 x4 v588 h
              · have h := h.2 c587
                refine fV_iconst (v := 0) hF dL_law_1682 (by decide) ?_
                exact h.elim
          · have h := h.2 c580
            refine fV_iconst (v := 0) hF dL_law_1665 (by decide) ?_
            exact h.elim
        · have h := h.2.2.2.2.2.2.2.2.2.2.2.2.2.2.2.2.2.2.2.2.2.2.2.2.2.2.2.1 c
          refine fV_tableIn (tgt := 1687) (off := 1643) hF dL_law_44 c1 c2 (by rw [c]; decide) (by decide) ?_
          refine fV_aload_n hF dL_law_1687 rfl rfl ?_
          refine fV_aload_n hF dL_law_1688 rfl rfl ?_
          refine fV_iload hF dL_law_1689 rfl ?_
          refine fV_iconst (v := 1) hF dL_law_1691 (by decide) ?_
          refine fV_iadd hF dL_law_1692 ?_
          obtain ⟨hix589, h⟩ := h
          refine fV_sld hF hX hb hix589 dL_law_1693 ?_
          refine fV_aload_n hF dL_law_1694 rfl rfl ?_
          refine fV_callSXH (As := [(aR x1), (aI (sc (Int32.toNatClampNeg (x5 + (1 : Int32))))), (aR x3)]) hF (mc_L_use hF.2.2.2.2.2.2.2.2.1 h) (by omega) fw_1112 fw_1110 fw_1111 fw_0 ⟨by decide, by decide, by decide +kernel⟩ (na := 3) rfl (by decide) (Nat.le_of_ble_eq_true rfl) dL_law_1695 rfl (fun rv S591 n592 hp => ?_)
          obtain ⟨v590, rfl, h⟩ := hp
          refine fV_istore0 hF [some (aR (some b)), some (aR x1), some (aR x2), some (aR x3), some (aR x4), some (aI x5), some (aI v590), none, none] dL_law_1698 (by rw [hxn]; decide) rfl rfl ?_
          refine fV_aload_n hF dL_law_1700 rfl rfl ?_
          refine fV_aload_n hF dL_law_1701 rfl rfl ?_
          refine fV_iload hF dL_law_1702 rfl ?_
          refine fV_iconst (v := 1) hF dL_law_1704 (by decide) ?_
          refine fV_iadd hF dL_law_1705 ?_
          obtain ⟨hix593, h⟩ := h
          refine fV_sld hF hX hb hix593 dL_law_1706 ?_
          obtain ⟨a594, e595, hA596, h⟩ := h
          refine fV_callV (k := 5) (As := [(aI (sc (Int32.toNatClampNeg (x5 + (1 : Int32)))))]) hF (mc_X4_use hF.2.2.2.2.2.2.2.2.1 h) fK5 e595 hA596 (by omega) fw_1502 fw_1499 fw_1500 fw_1501 fw_10 ⟨rfl, by decide, by decide, by decide +kernel⟩ (na := 1) rfl (by decide) (Nat.le_of_ble_eq_true rfl) dL_law_1707 rfl (fun rv S598 n599 hp => ?_)
          obtain ⟨z597, rfl, h⟩ := hp
          refine fV_lstore0 hF [some (aR (some b)), some (aR x1), some (aR x2), some (aR x3), some (aR x4), some (aI x5), some (aI v590), some (aJ z597), none] dL_law_1710 (by rw [hxn]; decide) rfl rfl ?_
          refine fV_aload_n hF dL_law_1712 rfl rfl ?_
          obtain ⟨hA600, h⟩ := h
          refine fV_callV (k := 5) (As := []) hF (mc_X4_thrown hF.2.2.2.2.2.2.2.2.1 h) fK5 e595 hA600 (by omega) fw_1261 fw_1258 fw_1259 fw_1260 fw_10 ⟨rfl, by decide, by decide, by decide +kernel⟩ (na := 0) rfl (by decide) (Nat.le_of_ble_eq_true rfl) dL_law_1713 rfl (fun rv S9 n9 hp => ?_)
          obtain ⟨v601, rfl, rfl, rfl, h⟩ := hp
          refine fV_iload hF dL_law_1716 rfl ?_
          refine fV_icmp_eq (tgt := 1723) hF dL_law_1718 (by decide) (fun c602 => ?_) (fun c602 => ?_)
          · have h := h.1 c602
            refine fV_iload hF dL_law_1723 rfl ?_
            refine fV_if_ne (tgt := 1739) hF dL_law_1725 (by decide) (fun c603 => ?_) (fun c603 => ?_)
            · have h := h.1 c603
              refine fV_goto (tgt := 1886) hF dL_law_1739 (by decide) ?_
              refine fV_iinc (v := 5) hF (fun y => [some (aR (some b)), some (aR x1), some (aR x2), some (aR x3), some (aR x4), some (aI y), some (aI v590), some (aJ z597), none]) dL_law_1886 rfl (by decide) (by rw [hxn]; decide) rfl (fun _ => rfl) (fun v604 ev604 => ?_)
              have h := h v604 ev604
              refine fV_goto (tgt := 28) hF dL_law_1889 (by decide) ?_
              refine fV.sub (l' := [some (aR (some b)), some (aR x1), some (aR x2), some (aR x3), some (aR x4), some (aI v604), none, none, none]) ⟨rfl, ⟨rfl, ⟨rfl, ⟨rfl, ⟨rfl, ⟨rfl, trivial⟩⟩⟩⟩⟩⟩ ?_
              exact ih S598 n599 x1 x2 x3 x4 v604 h
            · have h := h.2 c603
              refine fV_aload_n hF dL_law_1728 rfl rfl ?_
              refine fV_iconst (v := 0) hF dL_law_1729 (by decide) ?_
              obtain ⟨a605, e606, hA607, h⟩ := h
              obtain ⟨hix608, h⟩ := h
              refine fV_lald hF e606 hA607 hix608 dL_law_1730 ?_
              refine fV_lload hF dL_law_1731 rfl ?_
              refine fV_lcmp hF dL_law_1733 ?_
              refine fV_if_eq (tgt := 1739) hF dL_law_1734 (by decide) (fun c609 => ?_) (fun c609 => ?_)
              · have h := h.1 c609
                refine fV_goto (tgt := 1886) hF dL_law_1739 (by decide) ?_
                refine fV_iinc (v := 5) hF (fun y => [some (aR (some b)), some (aR x1), some (aR x2), some (aR x3), some (aR x4), some (aI y), some (aI v590), some (aJ z597), none]) dL_law_1886 rfl (by decide) (by rw [hxn]; decide) rfl (fun _ => rfl) (fun v610 ev610 => ?_)
                have h := h v610 ev610
                refine fV_goto (tgt := 28) hF dL_law_1889 (by decide) ?_
                refine fV.sub (l' := [some (aR (some b)), some (aR x1), some (aR x2), some (aR x3), some (aR x4), some (aI v610), none, none, none]) ⟨rfl, ⟨rfl, ⟨rfl, ⟨rfl, ⟨rfl, ⟨rfl, trivial⟩⟩⟩⟩⟩⟩ ?_
                exact ih S598 n599 x1 x2 x3 x4 v610 h
              · have h := h.2 c609
                refine fV_iconst (v := 0) hF dL_law_1737 (by decide) ?_
                exact h.elim
          · have h := h.2 c602
            refine fV_iconst (v := 0) hF dL_law_1721 (by decide) ?_
            exact h.elim
        · have h := h.2.2.2.2.2.2.2.2.2.2.2.2.2.2.2.2.2.2.2.2.2.2.2.2.2.2.2.2.1 c
          refine fV_tableIn (tgt := 1742) (off := 1698) hF dL_law_44 c1 c2 (by rw [c]; decide) (by decide) ?_
          refine fV_aload_n hF dL_law_1742 rfl rfl ?_
          refine fV_aload hF dL_law_1743 rfl ?_
          refine fV_callSXH (As := [(aR x1), (aR x4)]) hF (mc_L_usedShare hF.2.2.2.2.2.2.2.2.1 h) (by omega) fw_1119 fw_1117 fw_1118 fw_0 ⟨by decide, by decide, by decide +kernel⟩ (na := 2) rfl (by decide) (Nat.le_of_ble_eq_true rfl) dL_law_1745 rfl (fun rv S612 n613 hp => ?_)
          obtain ⟨v611, rfl, h⟩ := hp
          refine fV_istore0 hF [some (aR (some b)), some (aR x1), some (aR x2), some (aR x3), some (aR x4), some (aI x5), some (aI v611), none, none] dL_law_1748 (by rw [hxn]; decide) rfl rfl ?_
          refine fV_aload_n hF dL_law_1750 rfl rfl ?_
          obtain ⟨a614, e615, hA616, h⟩ := h
          refine fV_callV (k := 5) (As := []) hF (mc_X4_usedShare hF.2.2.2.2.2.2.2.2.1 h) fK5 e615 hA616 (by omega) fw_1506 fw_1503 fw_1504 fw_1505 fw_10 ⟨rfl, by decide, by decide, by decide +kernel⟩ (na := 0) rfl (by decide) (Nat.le_of_ble_eq_true rfl) dL_law_1751 rfl (fun rv S618 n619 hp => ?_)
          obtain ⟨u617, rfl, h⟩ := hp
          refine fV_fstore0 hF [some (aR (some b)), some (aR x1), some (aR x2), some (aR x3), some (aR x4), some (aI x5), some (aI v611), some (aF u617), none] dL_law_1754 (by rw [hxn]; decide) rfl rfl ?_
          refine fV_aload_n hF dL_law_1756 rfl rfl ?_
          obtain ⟨hA620, h⟩ := h
          refine fV_callV (k := 5) (As := []) hF (mc_X4_thrown hF.2.2.2.2.2.2.2.2.1 h) fK5 e615 hA620 (by omega) fw_1261 fw_1258 fw_1259 fw_1260 fw_10 ⟨rfl, by decide, by decide, by decide +kernel⟩ (na := 0) rfl (by decide) (Nat.le_of_ble_eq_true rfl) dL_law_1757 rfl (fun rv S9 n9 hp => ?_)
          obtain ⟨v621, rfl, rfl, rfl, h⟩ := hp
          refine fV_iload hF dL_law_1760 rfl ?_
          refine fV_icmp_eq (tgt := 1767) hF dL_law_1762 (by decide) (fun c622 => ?_) (fun c622 => ?_)
          · have h := h.1 c622
            refine fV_iload hF dL_law_1767 rfl ?_
            refine fV_if_ne (tgt := 1805) hF dL_law_1769 (by decide) (fun c623 => ?_) (fun c623 => ?_)
            · have h := h.1 c623
              refine fV_goto (tgt := 1886) hF dL_law_1805 (by decide) ?_
              refine fV_iinc (v := 5) hF (fun y => [some (aR (some b)), some (aR x1), some (aR x2), some (aR x3), some (aR x4), some (aI y), some (aI v611), some (aF u617), none]) dL_law_1886 rfl (by decide) (by rw [hxn]; decide) rfl (fun _ => rfl) (fun v624 ev624 => ?_)
              have h := h v624 ev624
              refine fV_goto (tgt := 28) hF dL_law_1889 (by decide) ?_
              refine fV.sub (l' := [some (aR (some b)), some (aR x1), some (aR x2), some (aR x3), some (aR x4), some (aI v624), none, none, none]) ⟨rfl, ⟨rfl, ⟨rfl, ⟨rfl, ⟨rfl, ⟨rfl, trivial⟩⟩⟩⟩⟩⟩ ?_
              exact ih S618 n619 x1 x2 x3 x4 v624 h
            · have h := h.2 c623
              refine fV_aload hF dL_law_1772 rfl ?_
              refine fV_iconst (v := 0) hF dL_law_1774 (by decide) ?_
              obtain ⟨a625, e626, hA627, h⟩ := h
              obtain ⟨hix628, h⟩ := h
              refine fV_dald hF e626 hA627 hix628 dL_law_1775 ?_
              refine fV_fload hF dL_law_1776 rfl ?_
              obtain ⟨hne629, h⟩ := h
              refine fV_f2d hF dL_law_1778 hne629 ?_
              refine fV_dcmp hF dL_law_1779 ?_
              refine fV_if_eq (tgt := 1805) hF dL_law_1780 (by decide) (fun c630 => ?_) (fun c630 => ?_)
              · have h := h.1 c630
                refine fV_goto (tgt := 1886) hF dL_law_1805 (by decide) ?_
                refine fV_iinc (v := 5) hF (fun y => [some (aR (some b)), some (aR x1), some (aR x2), some (aR x3), some (aR x4), some (aI y), some (aI v611), some (aF u617), none]) dL_law_1886 rfl (by decide) (by rw [hxn]; decide) rfl (fun _ => rfl) (fun v631 ev631 => ?_)
                have h := h v631 ev631
                refine fV_goto (tgt := 28) hF dL_law_1889 (by decide) ?_
                refine fV.sub (l' := [some (aR (some b)), some (aR x1), some (aR x2), some (aR x3), some (aR x4), some (aI v631), none, none, none]) ⟨rfl, ⟨rfl, ⟨rfl, ⟨rfl, ⟨rfl, ⟨rfl, trivial⟩⟩⟩⟩⟩⟩ ?_
                exact ih S618 n619 x1 x2 x3 x4 v631 h
              · have h := h.2 c630
                refine fV_aload hF dL_law_1783 rfl ?_
                refine fV_iconst (v := 0) hF dL_law_1785 (by decide) ?_
                obtain ⟨hix632, h⟩ := h
                refine fV_dald hF e626 hA627 hix632 dL_law_1786 ?_
                refine fV_aload hF dL_law_1787 rfl ?_
                refine fV_iconst (v := 0) hF dL_law_1789 (by decide) ?_
                obtain ⟨hix633, h⟩ := h
                refine fV_dald hF e626 hA627 hix633 dL_law_1790 ?_
                refine fV_dcmp hF dL_law_1791 ?_
                refine fV_if_eq (tgt := 1803) hF dL_law_1792 (by decide) (fun c634 => ?_) (fun c634 => ?_)
                · have h := h.1 c634
                  refine fV_iconst (v := 0) hF dL_law_1803 (by decide) ?_
                  exact h.elim
                · have h := h.2 c634
                  refine fV_fload hF dL_law_1795 rfl ?_
                  refine fV_fload hF dL_law_1797 rfl ?_
                  refine fV_fcmp hF dL_law_1799 ?_
                  refine fV_if_ne (tgt := 1805) hF dL_law_1800 (by decide) (fun c635 => ?_) (fun c635 => ?_)
                  · have h := h.1 c635
                    refine fV_goto (tgt := 1886) hF dL_law_1805 (by decide) ?_
                    refine fV_iinc (v := 5) hF (fun y => [some (aR (some b)), some (aR x1), some (aR x2), some (aR x3), some (aR x4), some (aI y), some (aI v611), some (aF u617), none]) dL_law_1886 rfl (by decide) (by rw [hxn]; decide) rfl (fun _ => rfl) (fun v636 ev636 => ?_)
                    have h := h v636 ev636
                    refine fV_goto (tgt := 28) hF dL_law_1889 (by decide) ?_
                    refine fV.sub (l' := [some (aR (some b)), some (aR x1), some (aR x2), some (aR x3), some (aR x4), some (aI v636), none, none, none]) ⟨rfl, ⟨rfl, ⟨rfl, ⟨rfl, ⟨rfl, ⟨rfl, trivial⟩⟩⟩⟩⟩⟩ ?_
                    exact ih S618 n619 x1 x2 x3 x4 v636 h
                  · have h := h.2 c635
                    refine fV_iconst (v := 0) hF dL_law_1803 (by decide) ?_
                    exact h.elim
          · have h := h.2 c622
            refine fV_iconst (v := 0) hF dL_law_1765 (by decide) ?_
            exact h.elim
        · have h := h.2.2.2.2.2.2.2.2.2.2.2.2.2.2.2.2.2.2.2.2.2.2.2.2.2.2.2.2.2.1 c
          refine fV_tableIn (tgt := 1808) (off := 1764) hF dL_law_44 c1 c2 (by rw [c]; decide) (by decide) ?_
          refine fV_aload_n hF dL_law_1808 rfl rfl ?_
          refine fV_aload hF dL_law_1809 rfl ?_
          refine fV_callSXH (As := [(aR x1), (aR x4)]) hF (mc_L_meanStops hF.2.2.2.2.2.2.2.2.1 h) (by omega) fw_1143 fw_1141 fw_1142 fw_0 ⟨by decide, by decide, by decide +kernel⟩ (na := 2) rfl (by decide) (Nat.le_of_ble_eq_true rfl) dL_law_1811 rfl (fun rv S638 n639 hp => ?_)
          obtain ⟨v637, rfl, h⟩ := hp
          refine fV_istore0 hF [some (aR (some b)), some (aR x1), some (aR x2), some (aR x3), some (aR x4), some (aI x5), some (aI v637), none, none] dL_law_1814 (by rw [hxn]; decide) rfl rfl ?_
          refine fV_aload_n hF dL_law_1816 rfl rfl ?_
          obtain ⟨a640, e641, hA642, h⟩ := h
          refine fV_callV (k := 5) (As := []) hF (mc_X4_meanStops hF.2.2.2.2.2.2.2.2.1 h) fK5 e641 hA642 (by omega) fw_1510 fw_1507 fw_1508 fw_1509 fw_10 ⟨rfl, by decide, by decide, by decide +kernel⟩ (na := 0) rfl (by decide) (Nat.le_of_ble_eq_true rfl) dL_law_1817 rfl (fun rv S644 n645 hp => ?_)
          obtain ⟨w643, rfl, h⟩ := hp
          refine fV_dstore0 hF [some (aR (some b)), some (aR x1), some (aR x2), some (aR x3), some (aR x4), some (aI x5), some (aI v637), some (aD w643), none] dL_law_1820 (by rw [hxn]; decide) rfl rfl ?_
          refine fV_aload_n hF dL_law_1822 rfl rfl ?_
          obtain ⟨hA646, h⟩ := h
          refine fV_callV (k := 5) (As := []) hF (mc_X4_thrown hF.2.2.2.2.2.2.2.2.1 h) fK5 e641 hA646 (by omega) fw_1261 fw_1258 fw_1259 fw_1260 fw_10 ⟨rfl, by decide, by decide, by decide +kernel⟩ (na := 0) rfl (by decide) (Nat.le_of_ble_eq_true rfl) dL_law_1823 rfl (fun rv S9 n9 hp => ?_)
          obtain ⟨v647, rfl, rfl, rfl, h⟩ := hp
          refine fV_iload hF dL_law_1826 rfl ?_
          refine fV_icmp_eq (tgt := 1833) hF dL_law_1828 (by decide) (fun c648 => ?_) (fun c648 => ?_)
          · have h := h.1 c648
            refine fV_iload hF dL_law_1833 rfl ?_
            refine fV_if_ne (tgt := 1870) hF dL_law_1835 (by decide) (fun c649 => ?_) (fun c649 => ?_)
            · have h := h.1 c649
              refine fV_goto (tgt := 1886) hF dL_law_1870 (by decide) ?_
              refine fV_iinc (v := 5) hF (fun y => [some (aR (some b)), some (aR x1), some (aR x2), some (aR x3), some (aR x4), some (aI y), some (aI v637), some (aD w643), none]) dL_law_1886 rfl (by decide) (by rw [hxn]; decide) rfl (fun _ => rfl) (fun v650 ev650 => ?_)
              have h := h v650 ev650
              refine fV_goto (tgt := 28) hF dL_law_1889 (by decide) ?_
              refine fV.sub (l' := [some (aR (some b)), some (aR x1), some (aR x2), some (aR x3), some (aR x4), some (aI v650), none, none, none]) ⟨rfl, ⟨rfl, ⟨rfl, ⟨rfl, ⟨rfl, ⟨rfl, trivial⟩⟩⟩⟩⟩⟩ ?_
              exact ih S644 n645 x1 x2 x3 x4 v650 h
            · have h := h.2 c649
              refine fV_aload hF dL_law_1838 rfl ?_
              refine fV_iconst (v := 0) hF dL_law_1840 (by decide) ?_
              obtain ⟨a651, e652, hA653, h⟩ := h
              obtain ⟨hix654, h⟩ := h
              refine fV_dald hF e652 hA653 hix654 dL_law_1841 ?_
              refine fV_dload hF dL_law_1842 rfl ?_
              refine fV_dcmp hF dL_law_1844 ?_
              refine fV_if_eq (tgt := 1870) hF dL_law_1845 (by decide) (fun c655 => ?_) (fun c655 => ?_)
              · have h := h.1 c655
                refine fV_goto (tgt := 1886) hF dL_law_1870 (by decide) ?_
                refine fV_iinc (v := 5) hF (fun y => [some (aR (some b)), some (aR x1), some (aR x2), some (aR x3), some (aR x4), some (aI y), some (aI v637), some (aD w643), none]) dL_law_1886 rfl (by decide) (by rw [hxn]; decide) rfl (fun _ => rfl) (fun v656 ev656 => ?_)
                have h := h v656 ev656
                refine fV_goto (tgt := 28) hF dL_law_1889 (by decide) ?_
                refine fV.sub (l' := [some (aR (some b)), some (aR x1), some (aR x2), some (aR x3), some (aR x4), some (aI v656), none, none, none]) ⟨rfl, ⟨rfl, ⟨rfl, ⟨rfl, ⟨rfl, ⟨rfl, trivial⟩⟩⟩⟩⟩⟩ ?_
                exact ih S644 n645 x1 x2 x3 x4 v656 h
              · have h := h.2 c655
                refine fV_aload hF dL_law_1848 rfl ?_
                refine fV_iconst (v := 0) hF dL_law_1850 (by decide) ?_
                obtain ⟨hix657, h⟩ := h
                refine fV_dald hF e652 hA653 hix657 dL_law_1851 ?_
                refine fV_aload hF dL_law_1852 rfl ?_
                refine fV_iconst (v := 0) hF dL_law_1854 (by decide) ?_
                obtain ⟨hix658, h⟩ := h
                refine fV_dald hF e652 hA653 hix658 dL_law_1855 ?_
                refine fV_dcmp hF dL_law_1856 ?_
                refine fV_if_eq (tgt := 1868) hF dL_law_1857 (by decide) (fun c659 => ?_) (fun c659 => ?_)
                · have h := h.1 c659
                  refine fV_iconst (v := 0) hF dL_law_1868 (by decide) ?_
                  exact h.elim
                · have h := h.2 c659
                  refine fV_dload hF dL_law_1860 rfl ?_
                  refine fV_dload hF dL_law_1862 rfl ?_
                  refine fV_dcmp hF dL_law_1864 ?_
                  refine fV_if_ne (tgt := 1870) hF dL_law_1865 (by decide) (fun c660 => ?_) (fun c660 => ?_)
                  · have h := h.1 c660
                    refine fV_goto (tgt := 1886) hF dL_law_1870 (by decide) ?_
                    refine fV_iinc (v := 5) hF (fun y => [some (aR (some b)), some (aR x1), some (aR x2), some (aR x3), some (aR x4), some (aI y), some (aI v637), some (aD w643), none]) dL_law_1886 rfl (by decide) (by rw [hxn]; decide) rfl (fun _ => rfl) (fun v661 ev661 => ?_)
                    have h := h v661 ev661
                    refine fV_goto (tgt := 28) hF dL_law_1889 (by decide) ?_
                    refine fV.sub (l' := [some (aR (some b)), some (aR x1), some (aR x2), some (aR x3), some (aR x4), some (aI v661), none, none, none]) ⟨rfl, ⟨rfl, ⟨rfl, ⟨rfl, ⟨rfl, ⟨rfl, trivial⟩⟩⟩⟩⟩⟩ ?_
                    exact ih S644 n645 x1 x2 x3 x4 v661 h
                  · have h := h.2 c660
                    refine fV_iconst (v := 0) hF dL_law_1868 (by decide) ?_
                    exact h.elim
          · have h := h.2 c648
            refine fV_iconst (v := 0) hF dL_law_1831 (by decide) ?_
            exact h.elim
        · have h := h.2.2.2.2.2.2.2.2.2.2.2.2.2.2.2.2.2.2.2.2.2.2.2.2.2.2.2.2.2.2 c
          refine fV_tableIn (tgt := 1873) (off := 1829) hF dL_law_44 c1 c2 (by rw [c]; decide) (by decide) ?_
          refine fV_aload_n hF dL_law_1873 rfl rfl ?_
          obtain ⟨a662, e663, hA664, h⟩ := h
          refine fV_callV (k := 4) (As := []) hF (mc_X3_isFair hF.2.2.2.2.2.2.2.2.1 h) fK4 e663 hA664 (by omega) fw_245 fw_242 fw_243 fw_244 fw_1 ⟨rfl, by decide, by decide, by decide +kernel⟩ (na := 0) rfl (by decide) (Nat.le_of_ble_eq_true rfl) dL_law_1874 rfl (fun rv S666 n667 hp => ?_)
          obtain ⟨v665, rfl, h⟩ := hp
          refine fV_aload_n hF dL_law_1877 rfl rfl ?_
          obtain ⟨a668, e669, hA670, h⟩ := h
          refine fV_callV (k := 5) (As := []) hF (mc_X4_isFair hF.2.2.2.2.2.2.2.2.1 h) fK5 e669 hA670 (by omega) fw_1514 fw_1511 fw_1512 fw_1513 fw_10 ⟨rfl, by decide, by decide, by decide +kernel⟩ (na := 0) rfl (by decide) (Nat.le_of_ble_eq_true rfl) dL_law_1878 rfl (fun rv S672 n673 hp => ?_)
          obtain ⟨v671, rfl, h⟩ := hp
          refine fV_icmp_eq (tgt := 1886) hF dL_law_1881 (by decide) (fun c674 => ?_) (fun c674 => ?_)
          · have h := h.1 c674
            refine fV_iinc (v := 5) hF (fun y => [some (aR (some b)), some (aR x1), some (aR x2), some (aR x3), some (aR x4), some (aI y), none, none, none]) dL_law_1886 rfl (by decide) (by rw [hxn]; decide) rfl (fun _ => rfl) (fun v675 ev675 => ?_)
            have h := h v675 ev675
            refine fV_goto (tgt := 28) hF dL_law_1889 (by decide) ?_
            refine fV.sub (l' := [some (aR (some b)), some (aR x1), some (aR x2), some (aR x3), some (aR x4), some (aI v675), none, none, none]) ⟨rfl, ⟨rfl, ⟨rfl, ⟨rfl, ⟨rfl, ⟨rfl, trivial⟩⟩⟩⟩⟩⟩ ?_
            exact ih S672 n673 x1 x2 x3 x4 v675 h
          · have h := h.2 c674
            refine fV_iconst (v := 0) hF dL_law_1884 (by decide) ?_
            exact h.elim
set_option maxRecDepth 100000 in
set_option maxHeartbeats 4000000 in
theorem mc_L_law {F : fX} {lv : Nat} (hlv : 19 ≤ lv) (hF : fOk F cL_law RL lv) (hxn : xn F = 9) (hr : (xM F).sig.returnType = (some .boolean)) {S : fMS} {n L : Nat} {sc : Nat → Int32} {b : Nat} (hX : va_X b L sc (xs F) (xs F).heap) (hb : b < fgz (xG F)) (hE : ∀ (S : fMS) (n pc : Nat) (l : List (Option fAV)), decode code pc = .ok (.ireturn, 1) → fV F S n pc l [aI 1]) (h : wp_L_law S n L sc) : fV F S n 0 [some (aR (some b)), none, none, none, none, none, none, none, none] [] := by
  unfold wp_L_law at h
  obtain ⟨hn1, h⟩ := h
  refine fV_new (k := 4) hF fK4 tyX3_ok fDef4 (by omega) fw_32 fw_33 fw_1 hn1 dL_law_0 (fun q2 hq3 hqe4 => ?_)
  have h := h q2 hq3 hqe4
  refine fV_dup hF dL_law_3 rfl ?_
  refine fV_callI (As := []) hF (mc_X3_init hF.2.2.2.2.2.2.2.2.1 h) rfl (by omega) fw_36 fw_34 fw_35 fw_1 ⟨by decide, by decide, by decide +kernel⟩ (na := 0) rfl rfl (by decide) (Nat.le_of_ble_eq_true rfl) dL_law_4 rfl (fun rv S5 n6 hp => ?_)
  obtain ⟨rfl, h⟩ := hp
  refine fV_astore_n0 hF [some (aR (some b)), some (aR (some q2)), none, none, none, none, none, none, none] dL_law_7 rfl (by rw [hxn]; decide) rfl rfl ?_
  obtain ⟨hn7, h⟩ := h
  refine fV_new (k := 5) hF fK5 tyX4_ok fDef5 (by omega) fw_1149 fw_1150 fw_10 hn7 dL_law_8 (fun q8 hq9 hqe10 => ?_)
  have h := h q8 hq9 hqe10
  refine fV_dup hF dL_law_11 rfl ?_
  refine fV_callI (As := []) hF (mc_X4_init hF.2.2.2.2.2.2.2.2.1 h) rfl (by omega) fw_1153 fw_1151 fw_1152 fw_10 ⟨by decide, by decide, by decide +kernel⟩ (na := 0) rfl rfl (by decide) (Nat.le_of_ble_eq_true rfl) dL_law_12 rfl (fun rv S11 n12 hp => ?_)
  obtain ⟨rfl, h⟩ := hp
  refine fV_astore_n0 hF [some (aR (some b)), some (aR (some q2)), some (aR (some q8)), none, none, none, none, none, none] dL_law_15 rfl (by rw [hxn]; decide) rfl rfl ?_
  refine fV_iconst (v := 1) hF dL_law_16 (by decide) ?_
  obtain ⟨hn13, h⟩ := h
  refine fV_newJ (N := 1) hF (by omega) fw_1256 (by decide) (by decide) hn13 dL_law_17 (fun q14 hq15 hqe16 => ?_)
  have h := h q14 hq15 hqe16
  refine fV_astore_n0 hF [some (aR (some b)), some (aR (some q2)), some (aR (some q8)), some (aR (some q14)), none, none, none, none, none] dL_law_19 rfl (by rw [hxn]; decide) rfl rfl ?_
  refine fV_iconst (v := 1) hF dL_law_20 (by decide) ?_
  obtain ⟨hn17, h⟩ := h
  refine fV_newD (N := 1) hF (by omega) fw_1519 (by decide) (by decide) hn17 dL_law_21 (fun q18 hq19 hqe20 => ?_)
  have h := h q18 hq19 hqe20
  refine fV_astore0 hF [some (aR (some b)), some (aR (some q2)), some (aR (some q8)), some (aR (some q14)), some (aR (some q18)), none, none, none, none] dL_law_23 (by rw [hxn]; decide) rfl rfl ?_
  refine fV_iconst (v := 0) hF dL_law_25 (by decide) ?_
  refine fV_istore0 hF [some (aR (some b)), some (aR (some q2)), some (aR (some q8)), some (aR (some q14)), some (aR (some q18)), some (aI (0 : Int32)), none, none, none] dL_law_26 (by rw [hxn]; decide) rfl rfl ?_
  obtain ⟨f1, h⟩ := h
  refine fV.sub (l' := [some (aR (some b)), some (aR (some q2)), some (aR (some q8)), some (aR (some q14)), some (aR (some q18)), some (aI (0 : Int32)), none, none, none]) ⟨rfl, ⟨rfl, ⟨rfl, ⟨rfl, ⟨rfl, ⟨rfl, trivial⟩⟩⟩⟩⟩⟩ ?_
  exact mB_L_law_28 hlv hF hxn hr hX hb hE  f1 (wN (wN S11 q14 12 1) q18 15 1) (n12 + (1 + 1) + (1 + 1)) (some q2) (some q8) (some q14) (some q18) (0 : Int32) h
