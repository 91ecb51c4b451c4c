theorem fSum_mono {f g : Nat → Int} {c : Int} : ∀ (d k : Nat), (∀ i, k ≤ i → i < k + d → f i ≤ c * g i) → fSum f k d ≤ c * fSum g k d := by
  intro d; induction d with
  | zero => intro k _; simp [fSum]
  | succ d ih =>
    intro k h
    have h1 := ih (k + 1) (fun i a b => h i (by omega) (by omega)); have h2 := h k (by omega) (by omega)
    simp only [fSum]
    rw [Int.mul_add]; omega
theorem fSum_nn {f : Nat → Int} : ∀ (d k : Nat), (∀ i, k ≤ i → i < k + d → 0 ≤ f i) → 0 ≤ fSum f k d := by
  intro d; induction d with
  | zero => intro k _; simp [fSum]
  | succ d ih =>
    intro k h
    have h1 := ih (k + 1) (fun i a b => h i (by omega) (by omega)); have h2 := h k (by omega) (by omega)
    simp only [fSum]; omega
theorem fSum_ge {f : Nat → Int} : ∀ (d k j : Nat), (∀ i, k ≤ i → i < k + d → 0 ≤ f i) → k ≤ j → j < k + d → f j ≤ fSum f k d := by
  intro d; induction d with
  | zero => intro k j _ a b; omega
  | succ d ih =>
    intro k j h a b
    simp only [fSum]
    have h2 := h k (by omega) (by omega)
    have h3 := fSum_nn d (k + 1) (fun i a b => h i (by omega) (by omega))
    by_cases e : j = k
    · subst e; omega
    · have := ih (k + 1) j (fun i a b => h i (by omega) (by omega)) (by omega) (by omega); omega
theorem fSum_cong {f g : Nat → Int} : ∀ (d k : Nat), (∀ i, k ≤ i → i < k + d → f i = g i) → fSum f k d = fSum g k d := by
  intro d; induction d with
  | zero => intro k _; rfl
  | succ d ih =>
    intro k h
    simp only [fSum]
    rw [h k (by omega) (by omega), ih (k + 1) (fun i a b => h i (by omega) (by omega))]
/-- one term changed -/
theorem fSum_upd {f g : Nat → Int} : ∀ (d k j : Nat), (∀ i, i ≠ j → f i = g i) → k ≤ j → j < k + d → fSum g k d = fSum f k d + (g j - f j) := by
  intro d; induction d with
  | zero => intro k j _ a b; omega
  | succ d ih =>
    intro k j h a b
    simp only [fSum]
    by_cases e : j = k
    · subst e
      rw [fSum_cong d (j + 1) (fun i a b => h i (by omega))]; omega
    · rw [ih (k + 1) j h (by omega) (by omega), h k (by omega)]; omega
def rnF (σ : fG2) (k : Nat) : Nat → Int := fun j => if σ 17 j = 1 ∧ k ∈ chS σ (σ 13 j) then σ 14 j else 0
def wtF (σ : fG2) (k : Nat) : Nat → Int := fun j => if σ 17 j = 0 ∧ σ 13 j = k then σ 14 j else 0
def alF (σ : fG2) : Nat → Int := fun j => if σ 17 j = 0 ∨ σ 17 j = 1 then 1 else 0
def njN (σ : fG2) : Nat := (σ 12 0).toNat
/-- what runs and waits is what the jobs tell -/
def tie (σ : fG2) : Prop := (∀ k, σ 10 k = fSum (rnF σ k) 0 (njN σ)) ∧ (∀ k, σ 11 k = fSum (wtF σ k) 0 (njN σ)) ∧ σ 21 0 = fSum (alF σ) 0 (njN σ)
/-- what every state keeps -/
def inv (σ : fG2) : Prop := okT σ ∧ okJ σ ∧ okP σ ∧ okV σ ∧ (∀ k, 0 ≤ σ 7 k ∧ σ 7 k ≤ 500) ∧ (∀ k, 0 ≤ σ 6 k ∧ σ 6 k ≤ 9) ∧ (0 ≤ σ 2 0 ∧ σ 2 0 ≤ 200) ∧ tie σ ∧ σ 21 0 ≤ 40
section
variable {σ : fG2}
theorem inv.T (h : inv σ) : okT σ := h.1
theorem inv.J (h : inv σ) : okJ σ := h.2.1
theorem inv.P (h : inv σ) : okP σ := h.2.2.1
theorem inv.V (h : inv σ) : okV σ := h.2.2.2.1
theorem inv.l (h : inv σ) (k : Nat) : 0 ≤ σ 7 k ∧ σ 7 k ≤ 500 := h.2.2.2.2.1 k
theorem inv.w (h : inv σ) (k : Nat) : 0 ≤ σ 6 k ∧ σ 6 k ≤ 9 := h.2.2.2.2.2.1 k
theorem inv.c (h : inv σ) : 0 ≤ σ 2 0 ∧ σ 2 0 ≤ 200 := h.2.2.2.2.2.2.1
theorem inv.t (h : inv σ) : tie σ := h.2.2.2.2.2.2.2.1
theorem inv.a (h : inv σ) : σ 21 0 ≤ 40 := h.2.2.2.2.2.2.2.2
theorem njN_lt (hJ : okJ σ) {i : Nat} (h : i < 0 + njN σ) : (i : Int) < σ 12 0 := by unfold njN at h; have := hJ.1; omega
theorem inv.rn (h : inv σ) (k i : Nat) (hi : i < 0 + njN σ) : 0 ≤ rnF σ k i ∧ rnF σ k i ≤ 60 * alF σ i := by
  have bj := h.J.2.2 i (njN_lt h.J hi)
  unfold rnF alF
  split
  · rename_i c; rw [if_pos (Or.inr c.1)]; omega
  · split <;> omega
theorem inv.wt (h : inv σ) (k i : Nat) (hi : i < 0 + njN σ) : 0 ≤ wtF σ k i ∧ wtF σ k i ≤ 60 * alF σ i := by
  have bj := h.J.2.2 i (njN_lt h.J hi)
  unfold wtF alF
  split
  · rename_i c; rw [if_pos (Or.inl c.1)]; omega
  · split <;> omega
theorem inv.U (h : inv σ) : okU σ := by
  intro k
  have h1 := fSum_nn (njN σ) 0 (fun i _ hi => (h.rn k i hi).1)
  have h2 := fSum_mono (c := 60) (njN σ) 0 (fun i _ hi => (h.rn k i hi).2)
  have h3 := h.t.2.2; have h4 := h.a
  rw [h.t.1 k]; omega
theorem inv.L (h : inv σ) : okL σ := by
  refine ⟨h.l, fun k => ?_⟩
  have h1 := fSum_nn (njN σ) 0 (fun i _ hi => (h.wt k i hi).1)
  have h2 := fSum_mono (c := 60) (njN σ) 0 (fun i _ hi => (h.wt k i hi).2)
  have h3 := h.t.2.2; have h4 := h.a
  rw [h.t.2.1 k]; omega
theorem inv.W (h : inv σ) : okW σ := by
  rintro t ht j hj ⟨c1, c2⟩
  have bj := h.J.2.2 j hj
  have h1 := fSum_ge (njN σ) 0 j (fun i _ hi => (h.wt t i hi).1) (by omega) (by unfold njN; omega)
  rw [← h.t.2.1 t] at h1
  have : wtF σ t j = σ 14 j := if_pos ⟨c2, c1⟩
  omega
/-- one job's state, with what runs and waits changed as it asks -/
theorem tie_ch {τ : fG2} (hJ : okJ σ) (h : tie σ) {j : Nat} (hj : (j : Int) < σ 12 0) (hf : ∀ g k, g ≠ 10 → g ≠ 11 → g ≠ 17 → g ≠ 16 → g ≠ 19 → g ≠ 20 → τ g k = σ g k) (hs : ∀ i, i ≠ j → τ 17 i = σ 17 i)
    (ha : alF τ j = alF σ j) (h10 : ∀ k, τ 10 k = σ 10 k + (rnF τ k j - rnF σ k j)) (h11 : ∀ k, τ 11 k = σ 11 k + (wtF τ k j - wtF σ k j)) : tie τ := by
  have e12 : njN τ = njN σ := by unfold njN; rw [hf 12 0 (by decide) (by decide) (by decide) (by decide) (by decide) (by decide)]
  have jl : j < 0 + njN σ := by unfold njN; omega
  have ch : ∀ t, chS τ t = chS σ t := fun t => chF_cong (fun k => hf 5 k (by decide) (by decide) (by decide) (by decide) (by decide) (by decide)) 11 t
  have e13 : ∀ i, τ 13 i = σ 13 i := fun i => hf 13 i (by decide) (by decide) (by decide) (by decide) (by decide) (by decide)
  have e14 : ∀ i, τ 14 i = σ 14 i := fun i => hf 14 i (by decide) (by decide) (by decide) (by decide) (by decide) (by decide)
  refine ⟨fun k => ?_, fun k => ?_, ?_⟩
  · rw [h10, h.1, e12]
    exact (fSum_upd (njN σ) 0 j (fun i hi => by unfold rnF; rw [hs i hi, ch, e13, e14]) (by omega) jl).symm
  · rw [h11, h.2.1, e12]
    exact (fSum_upd (njN σ) 0 j (fun i hi => by unfold wtF; rw [hs i hi, e13, e14]) (by omega) jl).symm
  · rw [hf 21 0 (by decide) (by decide) (by decide) (by decide) (by decide) (by decide), h.2.2, e12]
    refine fSum_cong _ _ (fun i _ _ => ?_)
    by_cases e : i = j
    · subst e; exact ha.symm
    · unfold alF; rw [hs i e]
end
