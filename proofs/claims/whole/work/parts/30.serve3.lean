/-- the same but for the line and the rows of those gone -/
def eqM (σ τ : fG2) : Prop := ∀ g k : Nat, g ≠ 29 → g ≠ 30 → g ≠ 31 → g ≠ 32 → τ g k = σ g k
section
variable {σ τ : fG2}
theorem eqM.rf : eqM σ σ := fun _ _ _ _ _ _ => rfl
theorem eqM.tr {a b c : fG2} (h : eqM a b) (h2 : eqM b c) : eqM a c := fun g k h0 h1 h3 h4 => (h2 g k h0 h1 h3 h4).trans (h g k h0 h1 h3 h4)
theorem eqM.sy (h : eqM σ τ) : eqM τ σ := fun g k h0 h1 h3 h4 => (h g k h0 h1 h3 h4).symm
theorem eqM.K (h : eqM σ τ) : eqK σ τ := fun g k _ b => h g k (by omega) (by omega) (by omega) (by omega)
theorem eqM.of (h : eqL σ τ) : eqM σ τ := fun g k a b _ _ => h g k a b
theorem eqM.og (h : ∀ g k : Nat, g ≠ 31 → g ≠ 32 → τ g k = σ g k) : eqM σ τ := fun g k _ _ a b => h g k a b
theorem eqM.up (h : eqM σ τ) {f j : Nat} {v : Int} : eqM (up σ f j v) (up τ f j v) := by
  intro g k a b c d
  by_cases e : g = f ∧ k = j
  · obtain ⟨rfl, rfl⟩ := e; rw [up_at, up_at]
  · show (if g = f ∧ k = j then v else τ g k) = if g = f ∧ k = j then v else σ g k
    rw [if_neg e, if_neg e]; exact h g k a b c d
theorem eqM.ch (h : eqM σ τ) (t : Int) : chS τ t = chS σ t := chF_cong (fun k => h 5 k (by decide) (by decide) (by decide) (by decide)) 11 t
theorem eqM.rm (h : eqM σ τ) (t : Nat) (u : Int) : eqM (rmS σ t u) (rmS τ t u) := by
  intro g k a b c d
  unfold rmS adL
  rw [h.ch, h g k a b c d]
theorem eqM.g (h : eqM σ τ) (j : Nat) (s w u : Int) : eqM (gF σ j s w u) (gF τ j s w u) := by
  unfold gF
  have e13 := h 13 j (by decide) (by decide) (by decide) (by decide)
  have e11 := h 11 (σ 13 j).toNat (by decide) (by decide) (by decide) (by decide)
  rw [e13]
  dsimp only
  rw [e11]
  exact (h.up.up).rm _ _
theorem eqM.ht (h : eqM σ τ) (j : Nat) : eqM (htF σ j) (htF τ j) := by
  rw [htF_g, htF_g, h 14 j (by decide) (by decide) (by decide) (by decide)]; exact h.g _ _ _ _
theorem eqM.hts (h : eqM σ τ) : ∀ G : List Nat, eqM (hts σ G) (hts τ G) := by
  intro G
  induction G generalizing σ τ with
  | nil => exact h
  | cons j G ih => exact ih (h.ht j)
theorem eqM.stp (h : eqM σ τ) (G : List Nat) : eqM (stpF σ G) (stpF τ G) := by
  intro g k a b c d
  unfold stpF
  rw [h g k a b c d]
theorem eqM.st (h : eqM σ τ) (j : Nat) : eqM (stF σ j) (stF τ j) := by
  rw [stF_g, stF_g, h 14 j (by decide) (by decide) (by decide) (by decide)]
  refine eqM.g ?_ _ _ _ _
  unfold stB
  rw [h 15 j (by decide) (by decide) (by decide) (by decide), h 20 0 (by decide) (by decide) (by decide) (by decide)]
  exact ((h.up).up).up
end
