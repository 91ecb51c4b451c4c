-- ===== both answer alike: the quotients =====
section
variable {F S : fMS} {x m n B o1 o2 : Nat} {A : Nat → Nat} {θ : fG2} {i : Int} {K : fMS → Nat → Prop}
/-- the comparison behind both calls, of quotients -/
def lgU (K : fMS → Nat → Prop) (m out : Nat) (v611 : Int32) (u617 : UInt32) (S618 : fMS) (n619 : Nat) : Prop :=
  isA S618 5 m ∧ wp_X4_thrown S618 m (fun v621 => ((v621 = v611 → (((¬ v611 = 0 → (K S618 n619)) ∧ (v611 = 0 → (∃ a625 : Nat, some out = some a625 ∧ isA S618 15 a625 ∧ vp_in (0 : Int32) (sN S618 a625) ∧ vf_n64 (FP.f2d u617) ∧ ((Op.cmpValue (FP.dcmp ((sJ S618 a625 (Int32.toNatClampNeg (0 : Int32))).toUInt64) (FP.f2d u617)) CmpOp.l = 0 → (K S618 n619)) ∧ (¬ Op.cmpValue (FP.dcmp ((sJ S618 a625 (Int32.toNatClampNeg (0 : Int32))).toUInt64) (FP.f2d u617)) CmpOp.l = 0 → (vp_in (0 : Int32) (sN S618 a625) ∧ vp_in (0 : Int32) (sN S618 a625) ∧ ((Op.cmpValue (FP.dcmp ((sJ S618 a625 (Int32.toNatClampNeg (0 : Int32))).toUInt64) ((sJ S618 a625 (Int32.toNatClampNeg (0 : Int32))).toUInt64)) CmpOp.l = 0 → (False)) ∧ (¬ Op.cmpValue (FP.dcmp ((sJ S618 a625 (Int32.toNatClampNeg (0 : Int32))).toUInt64) ((sJ S618 a625 (Int32.toNatClampNeg (0 : Int32))).toUInt64)) CmpOp.l = 0 → (((¬ Op.cmpValue (FP.fcmp u617 u617) CmpOp.l = 0 → (K S618 n619)) ∧ (Op.cmpValue (FP.fcmp u617 u617) CmpOp.l = 0 → (False)))))))))))))) ∧ (¬ v621 = v611 → (False))))
def lgM (K : fMS → Nat → Prop) (m out : Nat) (v637 : Int32) (w643 : UInt64) (S644 : fMS) (n645 : Nat) : Prop :=
  isA S644 5 m ∧ wp_X4_thrown S644 m (fun v647 => ((v647 = v637 → (((¬ v637 = 0 → (K S644 n645)) ∧ (v637 = 0 → (∃ a651 : Nat, some out = some a651 ∧ isA S644 15 a651 ∧ vp_in (0 : Int32) (sN S644 a651) ∧ ((Op.cmpValue (FP.dcmp ((sJ S644 a651 (Int32.toNatClampNeg (0 : Int32))).toUInt64) w643) CmpOp.l = 0 → (K S644 n645)) ∧ (¬ Op.cmpValue (FP.dcmp ((sJ S644 a651 (Int32.toNatClampNeg (0 : Int32))).toUInt64) w643) CmpOp.l = 0 → (vp_in (0 : Int32) (sN S644 a651) ∧ vp_in (0 : Int32) (sN S644 a651) ∧ ((Op.cmpValue (FP.dcmp ((sJ S644 a651 (Int32.toNatClampNeg (0 : Int32))).toUInt64) ((sJ S644 a651 (Int32.toNatClampNeg (0 : Int32))).toUInt64)) CmpOp.l = 0 → (False)) ∧ (¬ Op.cmpValue (FP.dcmp ((sJ S644 a651 (Int32.toNatClampNeg (0 : Int32))).toUInt64) ((sJ S644 a651 (Int32.toNatClampNeg (0 : Int32))).toUInt64)) CmpOp.l = 0 → (((¬ Op.cmpValue (FP.dcmp w643 w643) CmpOp.l = 0 → (K S644 n645)) ∧ (Op.cmpValue (FP.dcmp w643 w643) CmpOp.l = 0 → (False)))))))))))))) ∧ (¬ v647 = v637 → (False))))
theorem cmp_same {u : UInt64} (h : vf_n64 u) : Op.cmpValue (FP.dcmp ((UInt64.toInt64 u).toUInt64) u) CmpOp.l = 0 := by
  have e : (UInt64.toInt64 u).toUInt64 = u := rfl
  rw [e, dcmp_n h]; rfl
theorem lo_usedShare (hJ : JB x m o1 o2 A θ S n B) (hM : MI i θ) (hi : 0 ≤ i ∧ i < 512) (hb : B + 20 ≤ 20000) (ho2 : o2 ≠ A 8) (hK : ∀ S n θ', JB x m o1 o2 A θ' S n (B + 20) → MI (i + 1) θ' → K S n) {Q : Int32 → fMS → Nat → Prop}
    (hQ : ∀ v7 S8 n9, isA S8 5 m → wp_X4_usedShare S8 n9 m (fun u S16 n17 => lgU K m o2 v7 u S16 n17) → Q v7 S8 n9) : wp_L_usedShare S n (some x) (some o2) Q := by
  have hB := hJ.bd
  obtain ⟨⟨q1, q2, q3, q4, q5, q6, q7, q8⟩, qc⟩ := hM.r hi
  obtain ⟨T, J, V, L, E, al, ln, vi, a1, a2, a3, a4, a5, a6, a7, a8, a9⟩ := hJ
  have cb : cdUsed θ = 0 ∨ cdUsed θ = 1 := by
    unfold cdUsed
    repeat (first | omega | split)
  refine xl_usedShare q1.1 ⟨a1, a2, a3, a4, a5, hb⟩ a8 ⟨fun hc S' n' hL => ?_, fun hc S' n' hL => ?_⟩
  · have un := f2d_n (used_n q1.1 hc)
    obtain ⟨z, hz⟩ : ∃ z, z = UInt64.toInt64 (FP.f2d (usedV θ)) := ⟨_, rfl⟩
    rw [← hz]
    have hM' := a6.br hL
    have w1 := hL.out a8
    have hM1 := hM'.wo (z := z) ho2
    refine hQ (iI 0) _ n' hM1.m (rf_usedShare q1.1 hB q4 hM1 (fun _ S2 τ h1 h2 h3 h4 h5 => ?_) (fun y => by omega))
    have hk : frK S' (wJ S' o2 0 z) := frK.wJ (Or.inr w1.1.2)
    obtain ⟨θ', j1, j2⟩ := JB.join a7 a8 a9 hL hk h1 h3 h4 (fun _ _ _ _ => rfl)
    have go : K S2 n' := hK S2 n' θ' j1 (j2.MI (MI_s hM))
    have hs : sJ S2 o2 0 = z := out_kept h1 (Or.inr w1.1.2) ho2
    have k12 : isA S2 15 o2 := (frK.fX h1).a (hk.a w1.1)
    have kN : sN S2 o2 = 1 := by rw [(frK.fX h1).2.2.1, hk.2.2.1]; exact w1.2
    refine ⟨h1.m, rf_thrown h1 ?_⟩
    rw [h2]
    refine ⟨fun _ => ⟨fun c => absurd rfl c, fun _ => ⟨o2, rfl, k12, ?_, un, fun _ => go, fun c => absurd ?_ c⟩⟩, fun c => absurd rfl c⟩
    · rw [kN]; exact (iI_in (a := 0) (by omega) (by omega)).mpr ⟨by omega, by omega⟩
    · show Op.cmpValue (FP.dcmp ((sJ S2 o2 0).toUInt64) (FP.f2d (usedV θ))) CmpOp.l = 0
      rw [hs, hz]; exact cmp_same un
  · have c1 : cdUsed θ = 1 := by omega
    rw [c1]
    have hM' := a6.br hL
    refine hQ (iI 1) S' n' hM'.m (rf_usedShare q1.1 hB q4 hM' (fun y => absurd y hc) (fun _ S2 τ u h1 h2 h3 h4 h5 => ?_))
    obtain ⟨θ', j1, j2⟩ := JB.join a7 a8 a9 hL frK.rf h1 h3 h4 (fun _ _ _ _ => rfl)
    have go : K S2 n' := hK S2 n' θ' j1 (j2.MI (MI_s hM))
    refine ⟨h1.m, rf_thrown h1 ?_⟩
    rw [h2]
    exact ⟨fun _ => ⟨fun _ => go, fun c => absurd c (by decide)⟩, fun c => absurd rfl c⟩
theorem lo_meanStops (hJ : JB x m o1 o2 A θ S n B) (hM : MI i θ) (hi : 0 ≤ i ∧ i < 512) (hb : B + 20 ≤ 20000) (ho2 : o2 ≠ A 8) (hK : ∀ S n θ', JB x m o1 o2 A θ' S n (B + 20) → MI (i + 1) θ' → K S n) {Q : Int32 → fMS → Nat → Prop}
    (hQ : ∀ v7 S8 n9, isA S8 5 m → wp_X4_meanStops S8 n9 m (fun u S16 n17 => lgM K m o2 v7 u S16 n17) → Q v7 S8 n9) : wp_L_meanStops S n (some x) (some o2) Q := by
  have hB := hJ.bd
  obtain ⟨⟨q1, q2, q3, q4, q5, q6, q7, q8⟩, qc⟩ := hM.r hi
  obtain ⟨T, J, V, L, E, al, ln, vi, a1, a2, a3, a4, a5, a6, a7, a8, a9⟩ := hJ
  have cb : cdMean θ = 0 ∨ cdMean θ = 1 := by
    unfold cdMean
    repeat (first | omega | split)
  refine xl_meanStops q1.1 ⟨a1, a2, a3, a4, a5, hb⟩ a8 ⟨fun hc S' n' hL => ?_, fun hc S' n' hL => ?_⟩
  · have un := mean_n q1.1.J hc
    obtain ⟨z, hz⟩ : ∃ z, z = UInt64.toInt64 (meanV θ) := ⟨_, rfl⟩
    rw [← hz]
    have hM' := a6.br hL
    have w1 := hL.out a8
    have hM1 := hM'.wo (z := z) ho2
    refine hQ (iI 0) _ n' hM1.m (rf_meanStops q1.1 hB q4 hM1 (fun _ S2 τ h1 h2 h3 h4 h5 => ?_) (fun y => by omega))
    have hk : frK S' (wJ S' o2 0 z) := frK.wJ (Or.inr w1.1.2)
    obtain ⟨θ', j1, j2⟩ := JB.join a7 a8 a9 hL hk h1 h3 h4 (fun _ _ _ _ => rfl)
    have go : K S2 n' := hK S2 n' θ' j1 (j2.MI (MI_s hM))
    have hs : sJ S2 o2 0 = z := out_kept h1 (Or.inr w1.1.2) ho2
    have k12 : isA S2 15 o2 := (frK.fX h1).a (hk.a w1.1)
    have kN : sN S2 o2 = 1 := by rw [(frK.fX h1).2.2.1, hk.2.2.1]; exact w1.2
    refine ⟨h1.m, rf_thrown h1 ?_⟩
    rw [h2]
    refine ⟨fun _ => ⟨fun c => absurd rfl c, fun _ => ⟨o2, rfl, k12, ?_, fun _ => go, fun c => absurd ?_ c⟩⟩, fun c => absurd rfl c⟩
    · rw [kN]; exact (iI_in (a := 0) (by omega) (by omega)).mpr ⟨by omega, by omega⟩
    · show Op.cmpValue (FP.dcmp ((sJ S2 o2 0).toUInt64) (meanV θ)) CmpOp.l = 0
      rw [hs, hz]; exact cmp_same un
  · have c1 : cdMean θ = 1 := by omega
    rw [c1]
    have hM' := a6.br hL
    refine hQ (iI 1) S' n' hM'.m (rf_meanStops q1.1 hB q4 hM' (fun y => absurd y hc) (fun _ S2 τ u h1 h2 h3 h4 h5 => ?_))
    obtain ⟨θ', j1, j2⟩ := JB.join a7 a8 a9 hL frK.rf h1 h3 h4 (fun _ _ _ _ => rfl)
    have go : K S2 n' := hK S2 n' θ' j1 (j2.MI (MI_s hM))
    refine ⟨h1.m, rf_thrown h1 ?_⟩
    rw [h2]
    exact ⟨fun _ => ⟨fun _ => go, fun c => absurd c (by decide)⟩, fun c => absurd rfl c⟩
end
