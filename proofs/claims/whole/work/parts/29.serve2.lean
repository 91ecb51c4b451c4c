section
variable {σ τ : fG2} {G : List Nat}
/-- nobody stopped: the same state but for the rows of those gone -/
theorem gon_nil (hi : inv σ) (h : gon σ τ []) : ∀ g k : Nat, g ≠ 31 → g ≠ 32 → τ g k = σ g k := by
  obtain ⟨g1, g2, -, -, -, g6⟩ := h
  have h17 : ∀ i : Nat, τ 17 i = σ 17 i := fun i => by rw [g6]; simp
  have ht := g1.tie hi.t g2.t h17
  intro g k a b
  by_cases c1 : g = 10
  · subst c1; exact ht.1 k
  · by_cases c2 : g = 11
    · subst c2; exact ht.2 k
    · by_cases c3 : g = 17
      · subst c3; exact h17 k
      · exact g1 g k c1 c2 c3 a b
/-- two states with the same jobs stopped are the same -/
theorem gon_eq {τ' : fG2} (h : gon σ τ G) (h' : gon σ τ' G) : ∀ g k : Nat, g ≠ 31 → g ≠ 32 → τ' g k = τ g k := by
  obtain ⟨g1, g2, -, -, -, g6⟩ := h
  obtain ⟨f1, f2, -, -, -, f6⟩ := h'
  have hx : eqX τ τ' := fun g k a b c d e => (f1 g k a b c d e).trans (g1 g k a b c d e).symm
  have h17 : ∀ i : Nat, τ' 17 i = τ 17 i := fun i => by rw [f6, g6]
  have ht := hx.tie g2.t f2.t h17
  intro g k a b
  by_cases c1 : g = 10
  · subst c1; exact ht.1 k
  · by_cases c2 : g = 11
    · subst c2; exact ht.2 k
    · by_cases c3 : g = 17
      · subst c3; exact h17 k
      · exact hx g k c1 c2 c3 a b
/-- all of G stopped -/
def hts (σ : fG2) (G : List Nat) : fG2 := G.foldl htF σ
theorem gon_hts (hi : inv σ) (hB : okB σ) : ∀ (G H : List Nat) (τ : fG2), gon σ τ H → (H ++ G).Nodup → (∀ g ∈ G, (g : Int) < σ 12 0 ∧ σ 17 g = 1) → gon σ (hts τ G) (H ++ G) := by
  intro G
  induction G with
  | nil => intro H τ h _ _; simpa [hts] using h
  | cons j G ih =>
    intro H τ h hn hG
    obtain ⟨g1, g2, g3, g4, g5, g6⟩ := h
    have hj := hG j List.mem_cons_self
    have hjH : j ∉ H := fun z => (List.nodup_append.mp hn).2.2 j z j List.mem_cons_self rfl
    have e12 : τ 12 0 = σ 12 0 := g1 12 0 (by decide) (by decide) (by decide) (by decide) (by decide)
    have e17 : τ 17 j = 1 := by rw [g6, if_neg hjH]; exact hj.2
    have hin := htF_inv g2 (by omega) e17
    have hg : gon σ (htF τ j) (H ++ [j]) := by
      have hB' : okB (htF τ j) := by rw [htF_g] at hin ⊢; exact gF_B g3 hin (Or.inl rfl)
      refine ⟨g1.tr (by rw [htF_g]; exact eqX.g), hin, hB', ?_, fun g hg => ?_, fun i => ?_⟩
      · rw [show H ++ j :: G = (H ++ [j]) ++ G by simp] at hn
        exact (List.nodup_append.mp hn).1
      · rcases List.mem_append.mp hg with z | z
        · exact g5 g z
        · simp at z; subst z; exact hj
      · rw [htF_g, gF_17]
        by_cases z : i = j
        · subst z; rw [if_pos rfl, if_pos (by simp)]
        · rw [if_neg z, g6]
          by_cases y : i ∈ H
          · rw [if_pos y, if_pos (by simp [y])]
          · rw [if_neg y, if_neg (by simp [y, z])]
    have := ih (H ++ [j]) (htF τ j) hg (by simpa using hn) (fun g hg => hG g (List.mem_cons_of_mem _ hg))
    simpa [hts] using this
end
