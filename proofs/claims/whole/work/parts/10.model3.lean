section
variable {F S : fMS} {m n : Nat} {A : Nat → Nat} {σ : fG2}
def dueS (σ : fG2) (t : Nat) : Int := if σ 28 t < rsvS σ t then rsvS σ t else σ 28 t
theorem sp_dueOf (h : RM F S m A σ) (hB : okB σ) (hP : okP σ) {t : Nat} (ht : t < 10) {post} (hp : post (iI (dueS σ t))) : wp_X4_dueOf S m (iI t) post := by
  have b1 := hB 28 t; have b2 := rsv_b hP t
  unfold wp_X4_dueOf
  rw [h.mm, true_and]
  refine sp_reservedFor h hB hP (by omega) ?_
  unfold dueS at hp
  simp (disch := first | decide | omega) only [h.R, h.Nt, h.kI, h.aT, iI_le, iI_in, iI_nat, Option.some.injEq, exists_eq_left', true_and, Int.toNat_natCast]
  refine ⟨by omega, fun c => ⟨by omega, ?_⟩, fun c => ?_⟩
  · rw [if_neg (by omega)] at hp; exact hp
  · rw [if_pos (by omega)] at hp; exact hp
/-- what runs: not below 0 -/
def okU (σ : fG2) : Prop := ∀ k, 0 ≤ σ 10 k ∧ σ 10 k ≤ 3000
def freF (σ : fG2) (t : Int) : Nat → Int := fun k => if (k : Int) = t ∨ kidsN σ k ≠ 0 then 0 else if 0 < rsvS σ k - σ 10 k then rsvS σ k - σ 10 k else 0
def freS (σ : fG2) (t : Int) : Int := σ 2 0 - σ 10 0 - fSum (freF σ t) 0 (σ 4 0).toNat
theorem sp_freeOf (h : RM F S m A σ) (hT : okT σ) (hB : okB σ) (hP : okP σ) (hU : okU σ) {t : Int} (ht : -1000 ≤ t ∧ t ≤ 1000) {post} (hp : post (iI (freS σ t))) : wp_X4_freeOf S m (iI t) post := by
  have q1 := hT.1; have q2 := hT.2.1; have bc := hB 2 0; have b0 := hU 0
  have key : ∀ d k : Nat, ∀ acc : Int, (k + d : Int) = σ 4 0 → -200000000 + 10000 * d ≤ acc → acc ≤ 200000000 → post (iI (acc - fSum (freF σ t) k d)) →
      wB_X4_freeOf_14 S post m (iI t) (d + 1) (iI acc) (iI k) := by
    intro d; induction d with
    | zero =>
      intro k acc hk h0 ha hp
      simp only [wB_X4_freeOf_14]
      simp (disch := first | decide | omega) only [h.s, h.mm, iI_le, true_and]
      exact ⟨fun _ => by simpa [fSum] using hp, fun c => absurd c (by omega)⟩
    | succ d ih =>
      intro k acc hk h0 ha hp
      have b1 := hU k; have b2 := rsv_b hP k
      have go : ∀ y : Int, -5000 ≤ y → y ≤ 5000 → freF σ t k = (if 0 < y then y else 0) → wB_X4_freeOf_51 S post (fun z0 z1 => wB_X4_freeOf_14 S post m (iI t) (d + 1) z0 z1) m (iI t) (iI acc) (iI k) (iI y) := by
        intro y y1 y2 hy
        unfold wB_X4_freeOf_51
        simp (disch := omega) only [iI_0, iI_1, iI_add, iI_sub, iI_le]
        refine ⟨?_, ?_⟩
        · rintro c _ rfl _ rfl
          rw [if_neg (by omega)] at hy
          refine ih (k + 1) (acc - 0) (by omega) (by omega) (by omega) ?_
          simpa [fSum, hy] using hp
        · rintro c _ rfl _ rfl
          rw [if_pos (by omega)] at hy
          refine ih (k + 1) (acc - y) (by omega) (by omega) (by omega) ?_
          simp only [fSum, hy] at hp
          rw [show acc - y - fSum (freF σ t) (k + 1) d = acc - (y + fSum (freF σ t) (k + 1) d) by omega]; exact hp
      rw [wB_X4_freeOf_14]
      simp (disch := first | decide | omega) only [h.s, h.mm, iI_le, iI_eq, true_and, wB_X4_freeOf_35]
      refine ⟨fun c => absurd c (by omega), fun c => ⟨fun c1 => ?_, fun c1 => ?_⟩⟩
      · exact go 0 (by omega) (by omega) (by unfold freF; rw [if_pos (Or.inl c1)]; rfl)
      · refine sp_isLeaf h hT (by omega) ?_
        have b := @b01_b (kidsN σ k = 0) _
        simp (disch := omega) only [iI_0, iI_eq, b01_0]
        refine ⟨fun c2 => ?_, fun c2 => ?_⟩
        · refine sp_reservedFor h hB hP (by omega) ?_
          simp (disch := first | decide | omega) only [h.R, h.Nt, h.kI, h.aT, iI_in, iI_nat, iI_sub, Option.some.injEq, exists_eq_left', true_and, Int.toNat_natCast]
          refine ⟨by omega, go _ (by omega) (by omega) ?_⟩
          unfold freF; rw [if_neg (fun z => z.elim c1 c2)]
        · exact go 0 (by omega) (by omega) (by unfold freF; rw [if_pos (Or.inr c2)]; rfl)
  unfold wp_X4_freeOf
  have bt := hU 0
  simp (disch := first | decide | omega) only [h.s, h.mm, h.R, h.Nt, h.kI, h.aT, iI_in, iI_nat, iI_sub, iI_0, Option.some.injEq, exists_eq_left', true_and, Int.toNat_natCast]
  refine ⟨by omega, ?_⟩
  rintro _ rfl
  exact ⟨_, key (σ 4 0).toNat 0 _ (by omega) (by simp; omega) (by simp; omega) (by simpa [freS] using hp)⟩
/-- jobs: how many there are; whose they are -/
def okJ (σ : fG2) : Prop := 0 ≤ σ 12 0 ∧ σ 12 0 ≤ 512 ∧ ∀ j : Nat, (j : Int) < σ 12 0 → 0 ≤ σ 13 j ∧ σ 13 j < σ 4 0 ∧ 1 ≤ σ 14 j ∧ σ 14 j ≤ 60 ∧ 1 ≤ σ 15 j ∧ σ 15 j ≤ 50
/-- the first job of a leaf that waits, from j on -/
def fstF (σ : fG2) (t : Int) : Nat → Nat → Int
  | _, 0 => -1
  | j, d + 1 => if σ 13 j = t ∧ σ 17 j = 0 then j else fstF σ t (j + 1) d
def fstS (σ : fG2) (t : Int) : Int := fstF σ t 0 (σ 12 0).toNat
theorem fstF_no (t : Int) : ∀ (d j : Nat), (∀ i, j ≤ i → i < j + d → ¬ (σ 13 i = t ∧ σ 17 i = 0)) → fstF σ t j d = -1 := by
  intro d; induction d with
  | zero => intro j _; rfl
  | succ d ih =>
    intro j hj
    simp only [fstF]
    rw [if_neg (hj j (by omega) (by omega))]
    exact ih (j + 1) (fun i h1 h2 => hj i (by omega) (by omega))
theorem sp_firstJob (h : RM F S m A σ) (hB : okB σ) (hJ : okJ σ) {t : Nat} (ht : t < 10) (hw : σ 11 t ≤ 0 → ∀ j : Nat, (j : Int) < σ 12 0 → ¬ (σ 13 j = t ∧ σ 17 j = 0)) {post} (hp : post (iI (fstS σ t))) : wp_X4_firstJob S m (iI t) post := by
  have q1 := hJ.1; have q2 := hJ.2.1; have bw := hB 11 t
  have key : ∀ d k : Nat, (k + d : Int) = σ 12 0 → post (iI (fstF σ t k d)) → wB_X4_firstJob_2 S post m (iI t) (d + 1) (iI k) := by
    intro d; induction d with
    | zero =>
      intro k hk hp
      simp only [wB_X4_firstJob_2]
      simp (disch := first | decide | omega) only [h.s, h.mm, iI_le, true_and, iI_m1]
      exact ⟨fun _ => hp, fun c => absurd c (by omega)⟩
    | succ d ih =>
      intro k hk hp
      have b1 := hB 13 k; have b2 := hB 17 k
      rw [wB_X4_firstJob_2]
      simp (disch := first | decide | omega) only [h.s, h.mm, h.R, h.Nt, h.Nj, h.kI, h.aT, h.aJ, iI_le, iI_in, iI_nat, iI_0, iI_1, iI_m1, iI_eq, iI_add, Option.some.injEq, exists_eq_left', true_and, Int.toNat_natCast]
      refine ⟨fun c => absurd c (by omega), fun c => ⟨by omega, fun c1 => ?_, fun c1 => ⟨by omega, ?_, fun c2 => ⟨by omega, ?_, ?_⟩⟩⟩⟩
      · rw [fstF_no _ _ _ (fun i h1 h2 => hw c1 i (by omega))] at hp; exact hp
      · rintro c2 _ rfl
        refine ih (k + 1) (by omega) ?_
        simp only [fstF] at hp; rw [if_neg (fun z => c2 z.1)] at hp; exact hp
      · rintro c3 _ rfl
        refine ih (k + 1) (by omega) ?_
        simp only [fstF] at hp; rw [if_neg (fun z => c3 z.2)] at hp; exact hp
      · intro c3
        simp only [fstF] at hp; rw [if_pos ⟨c2, c3⟩] at hp; exact hp
  exact ⟨_, key (σ 12 0).toNat 0 (by omega) hp⟩
end
