section
variable {σ τ : fG2}
theorem eqK.ch (h : eqK σ τ) (t : Int) : chS τ t = chS σ t := chF_cong (fun k => h 5 k (by omega) (by omega)) 11 t
theorem eqK.lim (h : eqK σ τ) (l : List Nat) (u : Int) : limP τ l u ↔ limP σ l u := by
  unfold limP; simp only [h 10 _ (by omega) (by omega), h 7 _ (by omega) (by omega)]
theorem eqK.can (h : eqK σ τ) (j : Nat) : canP τ j ↔ canP σ j := by
  unfold canP; rw [h.ch, h.lim, h.fre, h 13 j (by omega) (by omega), h 14 j (by omega) (by omega)]
theorem mkQ_cong (h : eqK σ τ) (h28 : ∀ k, τ 28 k = σ 28 k) (j : Nat) : mkQ τ j ↔ mkQ σ j := by
  unfold mkQ; rw [h.ch, h.lim, h.fre, due_cong h h28, h 13 j (by omega) (by omega), h 14 j (by omega) (by omega), h 10 _ (by omega) (by omega)]
theorem vcF_cong (t sz : Int) : ∀ (f : Nat) (σ τ : fG2), eqK σ τ → (∀ k, τ 28 k = σ 28 k) → vcF t sz f τ = vcF t sz f σ := by
  intro f; induction f with
  | zero => intro σ τ h h28; simp only [vcF, h.fre]
  | succ f ih =>
    intro σ τ h h28
    simp only [vcF, h.fre, lo_cong h h28]
    rw [ih (htF σ (loS σ t).toNat) (htF τ (loS σ t).toNat) (htF_cong h) (fun k => by rw [htF_g, htF_g, gF_ne (by decide) (by decide) (by decide), gF_ne (by decide) (by decide) (by decide)]; exact h28 k)]
theorem vcS_cong (h : eqK σ τ) (h28 : ∀ k, τ 28 k = σ 28 k) (j : Nat) : vcS τ j = vcS σ j := by
  unfold vcS; rw [h 13 j (by omega) (by omega), h 14 j (by omega) (by omega)]; exact vcF_cong _ _ _ _ _ h h28
theorem eqM.e28 (h : eqM σ τ) (k : Nat) : τ 28 k = σ 28 k := h 28 k (by decide) (by decide) (by decide) (by decide)
/-- a first job that starts or reclaims -/
def canX (σ : fG2) (j : Nat) : Prop := canP σ j ∨ (mkQ σ j ∧ (vcS σ j).2 = true)
theorem canX_cong (h : eqK σ τ) (h28 : ∀ k, τ 28 k = σ 28 k) (j : Nat) : canX τ j ↔ canX σ j := by
  unfold canX; rw [h.can, mkQ_cong h h28, vcS_cong h h28]
noncomputable def gnS (σ : fG2) (j : Nat) : List Nat := haveI := Classical.propDecidable; if canP σ j then [] else (vcS σ j).1
noncomputable def stpS (σ : fG2) (j : Nat) : fG2 := stF (stpF (hts σ (gnS σ j)) (gnS σ j)) j
noncomputable def nxL (σ : fG2) : List Nat → Option Nat
  | [] => none
  | t :: l => haveI := Classical.propDecidable; if canX σ (fstS σ t).toNat then some (fstS σ t).toNat else nxL σ l
noncomputable def nxS (σ : fG2) : Option Nat := nxL σ (lnS σ)
theorem fstF_ok (t : Int) : ∀ (d k : Nat), fstF σ t k d = -1 ∨ ∃ j : Nat, fstF σ t k d = j ∧ k ≤ j ∧ j < k + d ∧ σ 13 j = t ∧ σ 17 j = 0 := by
  intro d; induction d with
  | zero => intro k; exact Or.inl rfl
  | succ d ih =>
    intro k
    simp only [fstF]
    split
    · rename_i c; exact Or.inr ⟨k, rfl, by omega, by omega, c.1, c.2⟩
    · rcases ih (k + 1) with z | ⟨j, z1, z2, z3, z4⟩
      · exact Or.inl z
      · exact Or.inr ⟨j, z1, by omega, by omega, z4⟩
theorem fstS_ok (hJ : okJ σ) (t : Int) (h : fstS σ t ≠ -1) : ∃ j : Nat, fstS σ t = j ∧ (j : Int) < σ 12 0 ∧ σ 13 j = t ∧ σ 17 j = 0 := by
  rcases fstF_ok (σ := σ) t (σ 12 0).toNat 0 with z | ⟨j, z1, z2, z3, z4⟩
  · exact absurd z h
  · exact ⟨j, z1, by have := hJ.1; omega, z4⟩
theorem mem_insAt {l : List Nat} {a t x : Nat} (h : x ∈ insAt l a t) : x = t ∨ x ∈ l := by
  unfold insAt at h
  rcases List.mem_append.mp h with z | z
  · exact Or.inr (List.mem_of_mem_take z)
  · rcases List.mem_cons.mp z with z | z
    · exact Or.inl z
    · exact Or.inr (List.mem_of_mem_drop z)
theorem lnF_mem : ∀ (d t : Nat) (l : List Nat) (x : Nat), x ∈ lnF σ t d l → x ∈ l ∨ (t ≤ x ∧ x < t + d ∧ kidsN σ x = 0 ∧ fstS σ x ≠ -1) := by
  intro d; induction d with
  | zero => intro t l x h; exact Or.inl h
  | succ d ih =>
    intro t l x h
    simp only [lnF] at h
    rcases ih _ _ _ h with z | z
    · split at z
      · rename_i c
        rcases mem_insAt z with z | z
        · subst z; exact Or.inr ⟨by omega, by omega, c.1, c.2⟩
        · exact Or.inl z
      · exact Or.inl z
    · exact Or.inr ⟨by omega, by omega, z.2.2.1, z.2.2.2⟩
theorem lnS_mem (hT : okT σ) {x : Nat} (h : x ∈ lnS σ) : (x : Int) < σ 4 0 ∧ kidsN σ x = 0 ∧ fstS σ x ≠ -1 := by
  rcases lnF_mem _ _ _ _ h with z | z
  · simp at z
  · exact ⟨by have := hT.1; omega, z.2.2⟩
/-- what is counted is not above c -/
def okC (c : Int) (σ : fG2) : Prop := (0 ≤ σ 20 0 ∧ σ 20 0 ≤ c) ∧ ∀ j, 0 ≤ σ 18 j ∧ σ 18 j ≤ c
theorem eqM.C {c : Int} (h : eqM σ τ) (hC : okC c σ) : okC c τ := by
  unfold okC; simp only [h 20 _ (by decide) (by decide) (by decide) (by decide), h 18 _ (by decide) (by decide) (by decide) (by decide)]; exact hC
theorem eqM.S (h : eqM σ τ) (hS : okS σ) : okS τ := by
  unfold okS; simp only [h 27 _ (by decide) (by decide) (by decide) (by decide), h 28 _ (by decide) (by decide) (by decide) (by decide), h 6 _ (by decide) (by decide) (by decide) (by decide)]; exact hS
theorem eqM.I (h : eqM σ τ) (hi : inv σ) : inv τ := inv_eq hi (fun g k _ _ _ _ _ _ hg => h g k (by omega) (by omega) (by omega) (by omega))
theorem stp_B {c : Int} {j : Nat} {G : List Nat} (hi : inv τ) (hB : okB τ) (hC : okC c τ) (hc : c < 100000000) (hj : (j : Int) < τ 12 0) (hs : τ 17 j = 0) : okB (stF (stpF τ G) j) := by
  have h1 : okB (stpF τ G) := by
    intro g k
    unfold stpF
    split
    · rename_i z; have := (hC.2 k); rw [z.1]; omega
    · exact hB g k
  have e : ∀ g k : Nat, g ≠ 18 → stpF τ G g k = τ g k := fun g k a => stpF_ne a
  have h2 : okB (stB (stpF τ G) j) := by
    unfold stB
    refine ((h1.w (h1 15 j)).w (h1 20 0)).w ?_
    rw [e 20 0 (by decide)]; have := hC.1; omega
  have h3 := stF_inv (stp_inv (G := G) hi) (by rw [e 12 0 (by decide)]; exact hj) (by rw [e 17 j (by decide)]; exact hs)
  rw [stF_g] at h3 ⊢
  exact gF_B h2 h3 (Or.inr rfl)
theorem hts_ne {g k : Nat} (h1 : g ≠ 10) (h2 : g ≠ 11) (h3 : g ≠ 17) : ∀ (G : List Nat) (σ : fG2), hts σ G g k = σ g k := by
  intro G; induction G with
  | nil => intro σ; rfl
  | cons j G ih => intro σ; exact (ih (htF σ j)).trans (by rw [htF_g]; exact gF_ne h1 h2 h3)
theorem stpS_C {c : Int} {j : Nat} (hC : okC c σ) : okC (c + 1) (stpS σ j) := by
  have e20 : stpS σ j 20 0 = σ 20 0 + 1 := by
    unfold stpS
    rw [stF_g, gF_ne (by decide) (by decide) (by decide)]
    unfold stB
    rw [up_at, stpF_ne (by decide), hts_ne (by decide) (by decide) (by decide)]
  refine ⟨by rw [e20]; have := hC.1; omega, fun i => ?_⟩
  unfold stpS
  rw [stF_g, gF_ne (by decide) (by decide) (by decide)]
  unfold stB
  rw [up_ne (by decide), up_ne (by decide), up_ne (by decide)]
  unfold stpF
  have := hC.2 i
  rw [hts_ne (by decide) (by decide) (by decide)]
  split <;> omega
end
