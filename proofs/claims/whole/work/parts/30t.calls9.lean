section
variable {F S : fMS} {m n : Nat} {A : Nat → Nat} {σ τ ρ : fG2}
def cdUsed (σ : fG2) : Int := if σ 2 0 = 0 then 1 else 0
def usedV (σ : fG2) : UInt32 := FP.fdiv (FP.i2f (iI (σ 10 0))) (FP.i2f (iI (σ 2 0)))
theorem used_n (hi : inv σ) (h : cdUsed σ = 0) : vf_n32 (usedV σ) := by
  have c := hi.c; have u := hi.U 0
  have hz : σ 2 0 ≠ 0 := fun z => by unfold cdUsed at h; rw [if_pos z] at h; exact absurd h (by decide)
  exact fdiv_n u (by omega)
theorem rf_usedShare (hi : inv σ) (hB : okB σ) (hS : okS σ) (h : RM F S m A σ) {post : UInt32 → fMS → Nat → Prop}
    (p0 : cdUsed σ = 0 → ∀ (S' : fMS) (τ : fG2), RM F S' m A τ → τ 0 0 = 0 → eqC σ τ → okB τ → okS τ → post (usedV σ) S' n)
    (p1 : cdUsed σ = 1 → ∀ (S' : fMS) (τ : fG2) (u : UInt32), RM F S' m A τ → τ 0 0 = 1 → eqC σ τ → okB τ → okS τ → post u S' n) : wp_X4_usedShare S n m post := by
  have c := hi.c; have u := hi.U 0
  unfold wp_X4_usedShare
  simp (disch := first | decide | omega) only [h.mm, h.s, iI_0, iI_eq, true_and]
  refine ⟨fun z => ?_, fun z => ?_⟩
  · have e : cdUsed σ = 0 := if_neg z
    unfold wB_X4_usedShare_13
    simp only [Option.some.injEq, exists_eq_left', h.mm, true_and]
    refine sp_go0 h (fun S' h' => ⟨fun z => absurd z (by decide), fun _ => ?_⟩)
    have e10 : up σ 0 0 0 10 0 = σ 10 0 := up_ne (by decide)
    have e2 : up σ 0 0 0 2 0 = σ 2 0 := up_ne (by decide)
    simp (disch := first | decide | omega) only [h'.mm, h'.R, h'.Nt, h'.kI, h'.aT, h'.s, iI_0, iI_in, iI_nat, true_and, Option.some.injEq, exists_eq_left', Int.toNat_zero, e10, e2]
    exact ⟨by omega, used_n hi e, p0 e _ _ h' up_at (eqC.up0 (Or.inr rfl)) (hB.w (by omega)) (hS.u0 (by decide) (by decide) (by decide))⟩
  · have e : cdUsed σ = 1 := if_pos z
    unfold wB_X4_usedShare_13
    simp only [Option.some.injEq, exists_eq_left', h.mm, true_and]
    exact sp_go1 (c := 1) h (by omega) (fun S' h' => ⟨fun _ => p1 e _ _ _ h' up_at (eqC.up0 (Or.inr rfl)) (hB.w (by omega)) (hS.u0 (by decide) (by decide) (by decide)), fun z => absurd rfl z⟩)
def msF (σ : fG2) : Nat → Int := fun j => if σ 17 j = 2 then σ 18 j else 0
def mnF (σ : fG2) : Nat → Int := fun j => if σ 17 j = 2 then 1 else 0
def msS (σ : fG2) : Int := fSum (msF σ) 0 (σ 12 0).toNat
def mnS (σ : fG2) : Int := fSum (mnF σ) 0 (σ 12 0).toNat
def cdMean (σ : fG2) : Int := if mnS σ = 0 then 1 else 0
def meanV (σ : fG2) : UInt64 := FP.ddiv (FP.i2d (iI (msS σ))) (FP.i2d (iI (mnS σ)))
theorem mn_b (hJ : okJ σ) : 0 ≤ mnS σ ∧ mnS σ ≤ 512 := by
  have h := fSum_bd (f := mnF σ) (c := 1) (by omega) (σ 12 0).toNat 0 (fun i _ _ => by unfold mnF; split <;> omega)
  have := hJ.1; have := hJ.2.1
  unfold mnS; omega
theorem mean_n (hJ : okJ σ) (h : cdMean σ = 0) : vf_n64 (meanV σ) := by
  have b := mn_b hJ
  have hz : mnS σ ≠ 0 := fun z => by unfold cdMean at h; rw [if_pos z] at h; exact absurd h (by decide)
  refine ddiv_n _ _ (fun z => ?_)
  rw [iI_0, iI_eq (by omega) (by omega) (by omega) (by omega)] at z
  exact hz z
theorem rf_meanStops (hi : inv σ) (hB : okB σ) (hS : okS σ) (h : RM F S m A σ) {post : UInt64 → fMS → Nat → Prop}
    (p0 : cdMean σ = 0 → ∀ (S' : fMS) (τ : fG2), RM F S' m A τ → τ 0 0 = 0 → eqC σ τ → okB τ → okS τ → post (meanV σ) S' n)
    (p1 : cdMean σ = 1 → ∀ (S' : fMS) (τ : fG2) (u : UInt64), RM F S' m A τ → τ 0 0 = 1 → eqC σ τ → okB τ → okS τ → post u S' n) : wp_X4_meanStops S n m post := by
  have q1 := hi.J.1; have q2 := hi.J.2.1
  have mb := mn_b hi.J
  have key : ∀ (d j : Nat) (x y : Int), (j + d : Int) = σ 12 0 → 0 ≤ y → y ≤ j → x + fSum (msF σ) j d = msS σ → y + fSum (mnF σ) j d = mnS σ → wB_X4_meanStops_6 post m (d + 1) S n (iI x) (iI y) (iI j) := by
    intro d; induction d with
    | zero =>
      intro j x y hj y0 y1 hx hy
      simp only [fSum, Int.add_zero] at hx hy
      simp only [wB_X4_meanStops_6]
      simp (disch := first | decide | omega) only [h.s, h.mm, iI_le, iI_0, iI_eq, true_and]
      refine ⟨fun _ => ⟨fun z => ?_, fun z => ?_⟩, fun c => absurd c (by omega)⟩
      · have e : cdMean σ = 0 := if_neg (by omega)
        unfold wB_X4_meanStops_71
        simp only [Option.some.injEq, exists_eq_left', h.mm, true_and]
        rw [hx, hy]
        exact sp_go0 h (fun S' h' => ⟨fun z => absurd z (by decide), fun _ => ⟨mean_n hi.J e, p0 e _ _ h' up_at (eqC.up0 (Or.inr rfl)) (hB.w (by omega)) (hS.u0 (by decide) (by decide) (by decide))⟩⟩)
      · have e : cdMean σ = 1 := if_pos (by omega)
        unfold wB_X4_meanStops_71
        simp only [Option.some.injEq, exists_eq_left', h.mm, true_and]
        exact sp_go1 (c := 1) h (by omega) (fun S' h' => ⟨fun _ => p1 e _ _ _ h' up_at (eqC.up0 (Or.inr rfl)) (hB.w (by omega)) (hS.u0 (by decide) (by decide) (by decide)), fun z => absurd rfl z⟩)
    | succ d ih =>
      intro j x y hj y0 y1 hx hy
      have b17 := hB 17 j
      simp only [fSum] at hx hy
      have go : ∀ u v : Int, u = msF σ j → v = mnF σ j → wB_X4_meanStops_6 post m (d + 1) S n (iI (x + u)) (iI (y + v)) (iI ((j : Int) + 1)) := by
        intro u v hu hv
        have bv : 0 ≤ v ∧ v ≤ 1 := by rw [hv]; unfold mnF; split <;> omega
        exact ih (j + 1) (x + u) (y + v) (by omega) (by omega) (by omega) (by omega) (by omega)
      rw [wB_X4_meanStops_6]
      unfold wB_X4_meanStops_35
      simp (disch := first | decide | omega) only [h.s, h.mm, h.R, h.Nj, h.kI, h.aJ, iI_le, iI_in, iI_nat, iI_2, iI_eq, true_and, Option.some.injEq, exists_eq_left', Int.toNat_natCast, iI_0, iI_1, iI_add]
      refine ⟨fun c => absurd c (by omega), fun _ => ⟨by omega, fun c => ?_, fun c => ⟨by omega, ?_⟩⟩⟩
      · rintro _ rfl
        refine ⟨by omega, fun _ => ?_, fun z => absurd z c⟩
        rintro _ rfl _ rfl
        exact go 0 0 (if_neg c).symm (if_neg c).symm
      · rintro _ rfl
        refine ⟨by omega, fun z => absurd c z, fun _ => ?_⟩
        rintro _ rfl _ rfl
        exact go _ 1 (if_pos c).symm (if_pos c).symm
  exact ⟨_, key (σ 12 0).toNat 0 0 0 (by omega) (by omega) (by omega) (by unfold msS; omega) (by unfold mnS; omega)⟩
theorem rf_thrown (h : RM F S m A σ) {post : Int32 → Prop} (hp : post (iI (σ 0 0))) : wp_X4_thrown S m post := by
  unfold wp_X4_thrown
  simp (disch := decide) only [h.mm, h.s, true_and]
  exact hp
end
