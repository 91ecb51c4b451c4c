/-- a job stops on trial, goes on, starts -/
def htF (σ : fG2) (j : Nat) : fG2 := let l := (σ 13 j).toNat; rmS (up (up σ 17 j 0) 11 l (σ 11 l + σ 14 j)) l (-(σ 14 j))
def bkF (σ : fG2) (j : Nat) : fG2 := let l := (σ 13 j).toNat; rmS (up (up σ 17 j 1) 11 l (σ 11 l - σ 14 j)) l (σ 14 j)
def stF (σ : fG2) (j : Nat) : fG2 := let l := (σ 13 j).toNat; rmS (up (up (up (up (up σ 17 j 1) 16 j (σ 15 j)) 19 j (σ 20 0)) 20 0 (σ 20 0 + 1)) 11 l (σ 11 l - σ 14 j)) l (σ 14 j)
section
variable {F S : fMS} {m n : Nat} {A : Nat → Nat} {σ : fG2}
theorem sp_halts (hT : okT σ) (hJ : okJ σ) (h : RM F S m A σ) {j : Nat} (hj : (j : Int) < σ 12 0) {post : fMS → Nat → Prop} (hp : ∀ S', RM F S' m A (htF σ j) → post S' n) : wp_X4_halts S n m (iI j) post := by
  have q2 := hT.2.1; have q4 := hJ.2.1
  have bj := hJ.2.2 j hj
  obtain ⟨l, hl⟩ : ∃ l : Nat, σ 13 j = l := ⟨(σ 13 j).toNat, by omega⟩
  have h1 := h.wA 17 j 0 rfl (by decide)
  have h2 := h1.wA 11 l (σ 11 l + σ 14 j) rfl (by decide)
  unfold wp_X4_halts
  simp (disch := first | decide | omega) only [h.mm, h.R, h.Nt, h.Nj, h.kI, h.aT, h.aJ, iI_0, iI_in, iI_nat, iI_add, iI_neg, Option.some.injEq, exists_eq_left', true_and, Int.toNat_natCast, h1.mm, h1.R, h1.Nt, h1.Nj, h1.kI, h1.aT, h1.aJ, up_ne, hl, h2.mm, h2.R, h2.Nt, h2.Nj, h2.kI, h2.aT, h2.aJ]
  refine ⟨by omega, by omega, by omega, by omega, by omega, by omega, by omega, ?_⟩
  refine sp_runsMore ((hT.up (by decide) (by decide)).up (by decide) (by decide)) h2 (by rw [up_ne (by decide), up_ne (by decide)]; omega) (fun S' h' => hp S' ?_)
  unfold htF
  rw [hl]
  exact h'
theorem sp_goesBack (hT : okT σ) (hJ : okJ σ) (h : RM F S m A σ) {j : Nat} (hj : (j : Int) < σ 12 0) {post : fMS → Nat → Prop} (hp : ∀ S', RM F S' m A (bkF σ j) → post S' n) : wp_X4_goesBack S n m (iI j) post := by
  have q2 := hT.2.1; have q4 := hJ.2.1
  have bj := hJ.2.2 j hj
  obtain ⟨l, hl⟩ : ∃ l : Nat, σ 13 j = l := ⟨(σ 13 j).toNat, by omega⟩
  have h1 := h.wA 17 j 1 rfl (by decide)
  have h2 := h1.wA 11 l (σ 11 l - σ 14 j) rfl (by decide)
  unfold wp_X4_goesBack
  simp (disch := first | decide | omega) only [h.mm, h.R, h.Nt, h.Nj, h.kI, h.aT, h.aJ, iI_0, iI_1, iI_in, iI_nat, iI_add, iI_sub, Option.some.injEq, exists_eq_left', true_and, Int.toNat_natCast, h1.mm, h1.R, h1.Nt, h1.Nj, h1.kI, h1.aT, h1.aJ, up_ne, hl, h2.mm, h2.R, h2.Nt, h2.Nj, h2.kI, h2.aT, h2.aJ]
  refine ⟨by omega, by omega, by omega, by omega, by omega, by omega, by omega, ?_⟩
  refine sp_runsMore ((hT.up (by decide) (by decide)).up (by decide) (by decide)) h2 (by rw [up_ne (by decide), up_ne (by decide)]; omega) (fun S' h' => hp S' ?_)
  unfold bkF
  rw [hl]
  exact h'
theorem sp_starts (hT : okT σ) (hJ : okJ σ) (h : RM F S m A σ) {j : Nat} (hj : (j : Int) < σ 12 0) {post : fMS → Nat → Prop} (hp : ∀ S', RM F S' m A (stF σ j) → post S' n) : wp_X4_starts S n m (iI j) post := by
  have q2 := hT.2.1; have q4 := hJ.2.1
  have bj := hJ.2.2 j hj
  obtain ⟨l, hl⟩ : ∃ l : Nat, σ 13 j = l := ⟨(σ 13 j).toNat, by omega⟩
  have h1 := h.wA 17 j 1 rfl (by decide)
  have h2 := h1.wA 16 j (σ 15 j) rfl (by decide)
  have h3 := h2.wA 19 j (σ 20 0) rfl (by decide)
  have h4 := h3.wS 20 (σ 20 0 + 1) rfl
  have h5 := h4.wA 11 l (σ 11 l - σ 14 j) rfl (by decide)
  unfold wp_X4_starts
  simp (disch := first | decide | omega) only [h.mm, h.R, h.Nt, h.Nj, h.kI, h.aT, h.aJ, h.s, iI_0, iI_1, iI_in, iI_nat, iI_add, iI_sub, Option.some.injEq, exists_eq_left', true_and, Int.toNat_natCast, h1.mm, h1.R, h1.Nt, h1.Nj, h1.kI, h1.aT, h1.aJ, h1.s, up_ne, hl, h2.mm, h2.R, h2.Nt, h2.Nj, h2.kI, h2.aT, h2.aJ, h2.s, h3.mm, h3.R, h3.Nt, h3.Nj, h3.kI, h3.aT, h3.aJ, h3.s, h4.mm, h4.R, h4.Nt, h4.Nj, h4.kI, h4.aT, h4.aJ, h4.s, h5.mm, h5.R, h5.Nt, h5.Nj, h5.kI, h5.aT, h5.aJ, h5.s]
  refine ⟨by omega, by omega, by omega, by omega, by omega, by omega, by omega, by omega, by omega, by omega, ?_⟩
  refine sp_runsMore (((((hT.up (by decide) (by decide)).up (by decide) (by decide)).up (by decide) (by decide)).up (by decide) (by decide)).up (by decide) (by decide)) h5 (by simp (disch := decide) only [up_ne]; omega) (fun S' h' => hp S' ?_)
  unfold stF
  rw [hl]
  exact h'
end
