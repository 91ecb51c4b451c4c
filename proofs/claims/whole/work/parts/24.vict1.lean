section
variable {σ τ : fG2} {j : Nat} {s w u : Int}
theorem gF_B (hB : okB σ) (hi : inv (gF σ j s w u)) (hs : s = 0 ∨ s = 1) : okB (gF σ j s w u) := by
  intro g k
  by_cases h1 : g = 10
  · subst h1; have := hi.U k; omega
  · by_cases h2 : g = 11
    · subst h2; have := hi.L.2 k; omega
    · by_cases h3 : g = 17
      · subst h3; rw [gF_17]; have := hB 17 k; split <;> omega
      · rw [gF_ne h1 h2 h3]; exact hB g k
/-- the same but for what runs, waits, the jobs' states and the rows of those gone -/
def eqX (σ τ : fG2) : Prop := ∀ g k : Nat, g ≠ 10 → g ≠ 11 → g ≠ 17 → g ≠ 31 → g ≠ 32 → τ g k = σ g k
theorem eqX.rf : eqX σ σ := fun _ _ _ _ _ _ _ => rfl
theorem eqX.tr {a b c : fG2} (h : eqX a b) (h2 : eqX b c) : eqX a c := fun g k h0 h1 h3 h4 h5 => (h2 g k h0 h1 h3 h4 h5).trans (h g k h0 h1 h3 h4 h5)
theorem eqX.g : eqX σ (gF σ j s w u) := fun g k a b c _ _ => gF_ne a b c
theorem eqX.up {f i : Nat} {v : Int} (hf : f = 31 ∨ f = 32) : eqX σ (up σ f i v) := fun g k _ _ _ a b => up_ne (by omega)
theorem eqX.ch (h : eqX σ τ) (t : Int) : chS τ t = chS σ t := chF_cong (fun k => h 5 k (by decide) (by decide) (by decide) (by decide) (by decide)) 11 t
/-- what runs and waits follows from the jobs' states -/
theorem eqX.tie (h : eqX σ τ) (h1 : tie σ) (h2 : tie τ) (h17 : ∀ i : Nat, τ 17 i = σ 17 i) : (∀ k, τ 10 k = σ 10 k) ∧ ∀ k, τ 11 k = σ 11 k := by
  have e12 : njN τ = njN σ := by unfold njN; rw [h 12 0 (by decide) (by decide) (by decide) (by decide) (by decide)]
  have e13 : ∀ i, τ 13 i = σ 13 i := fun i => h 13 i (by decide) (by decide) (by decide) (by decide) (by decide)
  have e14 : ∀ i, τ 14 i = σ 14 i := fun i => h 14 i (by decide) (by decide) (by decide) (by decide) (by decide)
  refine ⟨fun k => ?_, fun k => ?_⟩
  · rw [h1.1, h2.1, e12]
    exact fSum_cong _ _ (fun i _ _ => by unfold rnF; rw [h17, h.ch, e13, e14])
  · rw [h1.2.1, h2.2.1, e12]
    exact fSum_cong _ _ (fun i _ _ => by unfold wtF; rw [h17, e13, e14])
theorem eqX.S (h : eqX σ τ) (hS : okS σ) : okS τ := by
  unfold okS; simp only [h 27 _ (by decide) (by decide) (by decide) (by decide) (by decide), h 28 _ (by decide) (by decide) (by decide) (by decide) (by decide), h 6 _ (by decide) (by decide) (by decide) (by decide) (by decide)]; exact hS
theorem due_cong (h : eqK σ τ) (h28 : ∀ k, τ 28 k = σ 28 k) (t : Nat) : dueS τ t = dueS σ t := by
  unfold dueS; rw [h.rsv, h28]
theorem ov_cong (h : eqK σ τ) (h28 : ∀ k, τ 28 k = σ 28 k) (t : Int) (i : Nat) : ovP τ t i ↔ ovP σ t i := by
  unfold ovP; rw [due_cong h h28, h 17 _ (by omega) (by omega), h 13 _ (by omega) (by omega), h 10 _ (by omega) (by omega)]
theorem lo_cong (h : eqK σ τ) (h28 : ∀ k, τ 28 k = σ 28 k) (t : Int) : loS τ t = loS σ t := by
  have : ∀ d i b, loF τ t i d b = loF σ t i d b := by
    intro d; induction d with
    | zero => intro i b; rfl
    | succ d ih =>
      intro i b
      have hc : (ovP τ t i ∧ (b = -1 ∨ τ 19 b.toNat < τ 19 i)) ↔ (ovP σ t i ∧ (b = -1 ∨ σ 19 b.toNat < σ 19 i)) := by
        rw [ov_cong h h28, h 19 _ (by omega) (by omega), h 19 i (by omega) (by omega)]
      simp only [loF, ih]
      by_cases c : ovP σ t i ∧ (b = -1 ∨ σ 19 b.toNat < σ 19 i)
      · rw [if_pos c, if_pos (hc.mpr c)]
      · rw [if_neg c, if_neg (fun z => c (hc.mp z))]
  unfold loS; rw [this, h 12 _ (by omega) (by omega)]
theorem htF_cong (h : eqK σ τ) : eqK (htF σ j) (htF τ j) := by
  intro g k g0 g1
  rw [htF_g, htF_g]
  by_cases c1 : g = 10
  · subst c1
    unfold gF rmS adL
    rw [gF_ch, gF_ch]
    have hc : ∀ t, chS τ t = chS σ t := fun t => chF_cong (fun k => h 5 k (by omega) (by omega)) 11 t
    simp only [hc, h 13 _ (by omega) (by omega), h 14 _ (by omega) (by omega), up_ne (show (10 : Nat) ≠ 11 by decide), up_ne (show (10 : Nat) ≠ 17 by decide), h 10 _ (by omega) (by omega)]
  · by_cases c2 : g = 11
    · subst c2; rw [gF_11, gF_11, h 13 _ (by omega) (by omega), h 14 _ (by omega) (by omega), h 11 _ (by omega) (by omega)]
    · by_cases c3 : g = 17
      · subst c3; rw [gF_17, gF_17, h 17 _ (by omega) (by omega)]
      · rw [gF_ne c1 c2 c3, gF_ne c1 c2 c3]; exact h g k g0 g1
/-- how many run -/
def rcF (σ : fG2) : Nat → Int := fun i => if σ 17 i = 1 then 1 else 0
def rcS (σ : fG2) : Int := fSum (rcF σ) 0 (njN σ)
theorem rc_b (h : inv σ) : 0 ≤ rcS σ ∧ rcS σ ≤ 40 := by
  have h1 := fSum_nn (f := rcF σ) (njN σ) 0 (fun i _ _ => by unfold rcF; split <;> omega)
  have h2 := fSum_mono (f := rcF σ) (g := alF σ) (c := 1) (njN σ) 0 (fun i _ _ => by unfold rcF alF; split <;> split <;> omega)
  have h3 := h.t.2.2; have h4 := h.a
  unfold rcS; omega
theorem rc_ht (h : okJ σ) (hj : (j : Int) < σ 12 0) (hs : σ 17 j = 1) : rcS (htF σ j) = rcS σ - 1 := by
  rw [htF_g]
  have e12 : njN (gF σ j 0 (σ 14 j) (-(σ 14 j))) = njN σ := by unfold njN; rw [gF_ne (by decide) (by decide) (by decide)]
  unfold rcS
  rw [e12, fSum_upd (f := rcF σ) (g := rcF (gF σ j 0 (σ 14 j) (-(σ 14 j)))) (njN σ) 0 j (fun i hi => by unfold rcF; rw [gF_17, if_neg hi]) (by omega) (by unfold njN; omega)]
  unfold rcF
  rw [gF_17, if_pos rfl, hs]; rfl
/-- whom to stop for sz units of leaf t, and whether that is enough -/
noncomputable def vcF (t sz : Int) : Nat → fG2 → List Nat × Bool
  | 0, σ => ([], decide (sz ≤ freS σ t))
  | f + 1, σ => if sz ≤ freS σ t then ([], true) else if loS σ t = -1 then ([], false) else
    ((loS σ t).toNat :: (vcF t sz f (htF σ (loS σ t).toNat)).1, (vcF t sz f (htF σ (loS σ t).toNat)).2)
end
