/-- a job's state changed: w more waits, u more runs -/
def gF (σ : fG2) (j : Nat) (s w u : Int) : fG2 := let l := (σ 13 j).toNat; rmS (up (up σ 17 j s) 11 l (σ 11 l + w)) l u
theorem htF_g (σ : fG2) (j : Nat) : htF σ j = gF σ j 0 (σ 14 j) (-(σ 14 j)) := rfl
theorem bkF_g (σ : fG2) (j : Nat) : bkF σ j = gF σ j 1 (-(σ 14 j)) (σ 14 j) := by unfold bkF gF; simp only [Int.sub_eq_add_neg]
section
variable {σ : fG2} {j : Nat} {s w u : Int}
theorem gF_ch (t : Int) : chS (up (up σ 17 j s) 11 (σ 13 j).toNat (σ 11 (σ 13 j).toNat + w)) t = chS σ t :=
  chF_cong (fun k => by rw [up_ne (by decide), up_ne (by decide)]) 11 t
theorem gF_ne {g k : Nat} (h1 : g ≠ 10) (h2 : g ≠ 11) (h3 : g ≠ 17) : gF σ j s w u g k = σ g k := by
  unfold gF rmS; rw [adL_ne h1, up_ne h2, up_ne h3]
theorem gF_17 (i : Nat) : gF σ j s w u 17 i = if i = j then s else σ 17 i := by
  unfold gF rmS; rw [adL_ne (by decide), up_ne (by decide)]
  by_cases e : i = j
  · subst e; rw [up_at, if_pos rfl]
  · rw [up_nj e, if_neg e]
theorem gF_11 (k : Nat) : gF σ j s w u 11 k = if k = (σ 13 j).toNat then σ 11 k + w else σ 11 k := by
  unfold gF rmS; rw [adL_ne (by decide)]
  by_cases e : k = (σ 13 j).toNat
  · subst e; rw [up_at, if_pos rfl]
  · rw [up_nj e, if_neg e, up_ne (by decide)]
theorem gF_10 (k : Nat) (hl : 0 ≤ σ 13 j) : gF σ j s w u 10 k = if k ∈ chS σ (σ 13 j) then σ 10 k + u else σ 10 k := by
  unfold gF rmS adL
  rw [gF_ch, show (((σ 13 j).toNat : Nat) : Int) = σ 13 j by omega]
  simp only [true_and, up_ne (show (10 : Nat) ≠ 11 by decide), up_ne (show (10 : Nat) ≠ 17 by decide)]
/-- the job waits or runs, before and behind; what waits and runs is changed as it must -/
theorem gF_inv (h : inv σ) (hj : (j : Int) < σ 12 0) (hs : (σ 17 j = 1 ∧ s = 0 ∧ w = σ 14 j ∧ u = -(σ 14 j)) ∨ (σ 17 j = 0 ∧ s = 1 ∧ w = -(σ 14 j) ∧ u = σ 14 j)) : inv (gF σ j s w u) := by
  have bj := h.J.2.2 j hj
  have ne : ∀ g k : Nat, g ≠ 10 → g ≠ 11 → g ≠ 17 → gF σ j s w u g k = σ g k := fun g k a b c => gF_ne a b c
  have e13 := ne 13 j (by decide) (by decide) (by decide)
  have ch : ∀ t, chS (gF σ j s w u) t = chS σ t := fun t => chF_cong (fun k => ne 5 k (by decide) (by decide) (by decide)) 11 t
  have e17 : gF σ j s w u 17 j = s := by rw [gF_17, if_pos rfl]
  have e14 := ne 14 j (by decide) (by decide) (by decide)
  refine ⟨?_, ?_, ?_, ?_, ?_, ?_, ?_, ?_, ?_⟩
  · unfold okT; simp only [ne 4 _ (by decide) (by decide) (by decide), ne 5 _ (by decide) (by decide) (by decide)]; exact h.T
  · unfold okJ; simp only [ne 12 _ (by decide) (by decide) (by decide), ne 13 _ (by decide) (by decide) (by decide), ne 4 _ (by decide) (by decide) (by decide), ne 14 _ (by decide) (by decide) (by decide), ne 15 _ (by decide) (by decide) (by decide)]; exact h.J
  · unfold okP; simp only [ne 22 _ (by decide) (by decide) (by decide), ne 24 _ (by decide) (by decide) (by decide)]; exact h.P
  · unfold okV; simp only [ne 8 _ (by decide) (by decide) (by decide)]; exact h.V
  · simp only [ne 7 _ (by decide) (by decide) (by decide)]; exact h.l
  · simp only [ne 6 _ (by decide) (by decide) (by decide)]; exact h.w
  · rw [ne 2 0 (by decide) (by decide) (by decide)]; exact h.c
  · refine tie_ch h.J h.t hj (fun g k a b c _ _ _ => ne g k a b c) (fun i hi => by rw [gF_17, if_neg hi]) ?_ (fun k => ?_) (fun k => ?_)
    · unfold alF; rw [e17]
      rcases hs with ⟨a, b, -, -⟩ | ⟨a, b, -, -⟩ <;> rw [a, b] <;> rfl
    · rw [gF_10 k (by omega)]
      unfold rnF; rw [ch, e17, e13, e14]
      rcases hs with ⟨a, b, -, d⟩ | ⟨a, b, -, d⟩ <;> rw [a, b, d] <;> by_cases c : k ∈ chS σ (σ 13 j) <;> simp [c] <;> omega
    · rw [gF_11]
      unfold wtF; rw [e17, e13, e14]
      by_cases c : k = (σ 13 j).toNat
      · have c2 : σ 13 j = k := by omega
        rw [if_pos c]
        rcases hs with ⟨a, b, d, -⟩ | ⟨a, b, d, -⟩ <;> rw [a, b, d] <;> simp [c2] <;> omega
      · have c2 : ¬ σ 13 j = k := by omega
        rw [if_neg c]
        rcases hs with ⟨a, b, d, -⟩ | ⟨a, b, d, -⟩ <;> rw [a, b] <;> simp [c2]
  · rw [ne 21 0 (by decide) (by decide) (by decide)]; exact h.a
theorem htF_inv (h : inv σ) (hj : (j : Int) < σ 12 0) (hs : σ 17 j = 1) : inv (htF σ j) := by
  rw [htF_g]; exact gF_inv h hj (Or.inl ⟨hs, rfl, rfl, rfl⟩)
theorem bkF_inv (h : inv σ) (hj : (j : Int) < σ 12 0) (hs : σ 17 j = 0) : inv (bkF σ j) := by
  rw [bkF_g]; exact gF_inv h hj (Or.inr ⟨hs, rfl, rfl, rfl⟩)
/-- what a start writes beside -/
def stB (σ : fG2) (j : Nat) : fG2 := up (up (up σ 16 j (σ 15 j)) 19 j (σ 20 0)) 20 0 (σ 20 0 + 1)
theorem stF_g (σ : fG2) (j : Nat) : stF σ j = gF (stB σ j) j 1 (-(σ 14 j)) (σ 14 j) := by
  have e : ∀ g k : Nat, g ≠ 16 → g ≠ 19 → g ≠ 20 → stB σ j g k = σ g k := fun g k a b c => by unfold stB; rw [up_ne c, up_ne b, up_ne a]
  unfold stF gF
  rw [e 13 j (by decide) (by decide) (by decide)]
  simp only [e 11 _ (by decide) (by decide) (by decide)]
  congr 2
  · unfold stB
    funext g k
    unfold up
    by_cases h1 : g = 17
    · subst h1; simp
    · by_cases h2 : g = 16
      · subst h2; simp
      · by_cases h3 : g = 19
        · subst h3; simp
        · by_cases h4 : g = 20
          · subst h4; simp
          · simp [h1, h2, h3, h4]
theorem stB_inv (h : inv σ) : inv (stB σ j) := by
  have e : ∀ g k : Nat, g ≠ 16 → g ≠ 19 → g ≠ 20 → stB σ j g k = σ g k := fun g k a b c => by unfold stB; rw [up_ne c, up_ne b, up_ne a]
  have ch : ∀ t, chS (stB σ j) t = chS σ t := fun t => chF_cong (fun k => e 5 k (by decide) (by decide) (by decide)) 11 t
  refine ⟨?_, ?_, ?_, ?_, ?_, ?_, ?_, ?_, ?_⟩
  · unfold okT; simp only [e 4 _ (by decide) (by decide) (by decide), e 5 _ (by decide) (by decide) (by decide)]; exact h.T
  · unfold okJ; simp only [e 12 _ (by decide) (by decide) (by decide), e 13 _ (by decide) (by decide) (by decide), e 4 _ (by decide) (by decide) (by decide), e 14 _ (by decide) (by decide) (by decide), e 15 _ (by decide) (by decide) (by decide)]; exact h.J
  · unfold okP; simp only [e 22 _ (by decide) (by decide) (by decide), e 24 _ (by decide) (by decide) (by decide)]; exact h.P
  · unfold okV; simp only [e 8 _ (by decide) (by decide) (by decide)]; exact h.V
  · simp only [e 7 _ (by decide) (by decide) (by decide)]; exact h.l
  · simp only [e 6 _ (by decide) (by decide) (by decide)]; exact h.w
  · rw [e 2 0 (by decide) (by decide) (by decide)]; exact h.c
  · unfold tie njN rnF wtF alF
    simp only [ch, e 10 _ (by decide) (by decide) (by decide), e 11 _ (by decide) (by decide) (by decide), e 12 _ (by decide) (by decide) (by decide), e 13 _ (by decide) (by decide) (by decide), e 14 _ (by decide) (by decide) (by decide), e 17 _ (by decide) (by decide) (by decide), e 21 _ (by decide) (by decide) (by decide)]
    exact h.t
  · rw [e 21 0 (by decide) (by decide) (by decide)]; exact h.a
theorem stF_inv (h : inv σ) (hj : (j : Int) < σ 12 0) (hs : σ 17 j = 0) : inv (stF σ j) := by
  have e : ∀ g k : Nat, g ≠ 16 → g ≠ 19 → g ≠ 20 → stB σ j g k = σ g k := fun g k a b c => by unfold stB; rw [up_ne c, up_ne b, up_ne a]
  rw [stF_g, ← e 14 j (by decide) (by decide) (by decide)]
  exact gF_inv (stB_inv h) (by rw [e 12 0 (by decide) (by decide) (by decide)]; exact hj) (Or.inr ⟨by rw [e 17 j (by decide) (by decide) (by decide)]; exact hs, rfl, rfl, rfl⟩)
end
