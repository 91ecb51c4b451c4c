/-- one stop more for each of G -/
def stpF (σ : fG2) (G : List Nat) : fG2 := fun g k => if g = 18 ∧ k ∈ G then σ g k + 1 else σ g k
theorem stpF_ne {σ : fG2} {G : List Nat} {g k : Nat} (h : g ≠ 18) : stpF σ G g k = σ g k := if_neg (fun z => h z.1)
theorem stpF_s {σ : fG2} {G : List Nat} {k : Nat} (hk : k < G.length) (hn : G.Nodup) : up (stpF σ (G.take k)) 18 G[k] (σ 18 G[k] + 1) = stpF σ (G.take (k + 1)) := by
  have ht : G.take (k + 1) = G.take k ++ [G[k]] := by rw [List.take_add_one, List.getElem?_eq_getElem hk]; rfl
  have hm : ∀ i, i ∈ G.take (k + 1) ↔ i ∈ G.take k ∨ i = G[k] := by
    intro i
    rw [ht]
    exact List.mem_append.trans (or_congr Iff.rfl List.mem_singleton)
  funext g i
  unfold up stpF
  by_cases c : g = 18
  · subst c
    by_cases e : i = G[k]
    · rw [if_pos ⟨rfl, e⟩, if_pos ⟨rfl, (hm i).mpr (Or.inr e)⟩, e]
    · rw [if_neg (fun z => e z.2)]
      by_cases y : i ∈ G.take k
      · rw [if_pos ⟨rfl, y⟩, if_pos ⟨rfl, (hm i).mpr (Or.inl y)⟩]
      · rw [if_neg (fun z => y z.2), if_neg (fun z => ((hm i).mp z.2).elim y e)]
  · rw [if_neg (fun z => c z.1), if_neg (fun z => c z.1), if_neg (fun z => c z.1)]
theorem inv_eq {σ τ : fG2} (hi : inv σ) (e : ∀ g k : Nat, g ≠ 0 → g ≠ 1 → g ≠ 16 → g ≠ 18 → g ≠ 19 → g ≠ 20 → g < 27 → τ g k = σ g k) : inv τ := by
  have ch : ∀ t, chS τ t = chS σ t := fun t => chF_cong (fun k => e 5 k (by decide) (by decide) (by decide) (by decide) (by decide) (by decide) (by decide)) 11 t
  unfold inv okT okJ okP okV tie njN rnF wtF alF
  simp only [ch]
  simp (disch := decide) only [e]
  exact hi
theorem stp_inv {σ : fG2} {G : List Nat} (hi : inv σ) : inv (stpF σ G) := inv_eq hi (fun g k _ _ _ h _ _ _ => stpF_ne h)
section
variable {F S : fMS} {m n : Nat} {A : Nat → Nat}
theorem sp_stop {τ : fG2} {G : List Nat} {j : Nat} (hi : inv τ) (hB : okB τ) (h : RM F S m A τ) (hr : gnR τ G) (hn : G.Nodup) (hG : ∀ g ∈ G, (g : Int) < τ 12 0) (hj : (j : Int) < τ 12 0) {post : Int32 → fMS → Nat → Prop} (hp : ∀ S', RM F S' m A (stF (stpF τ G) j) → post (iI 1) S' n) : ∃ g48, wB_X4_servesOne_48 post m g48 S n (iI j) (0 : Int32) := by
  have q40 := hr.2.1; have q4 := hi.J.2.1
  have key : ∀ (d k : Nat) (S : fMS), k + d = G.length → RM F S m A (stpF τ (G.take k)) → wB_X4_servesOne_48 post m (d + 1) S n (iI j) (iI k) := by
    intro d; induction d with
    | zero =>
      intro k S hk h
      have e32 : stpF τ (G.take k) 32 0 = G.length := by rw [stpF_ne (by decide)]; exact hr.1
      have ek : G.take k = G := List.take_of_length_le (by omega)
      simp only [wB_X4_servesOne_48]
      simp (disch := first | decide | omega) only [h.s, h.mm, iI_le, true_and, e32]
      refine ⟨fun _ => sp_starts (stp_inv hi).T (stp_inv hi).J h (by rw [stpF_ne (by decide)]; exact hj) (fun S' h' => ?_), fun c => absurd c (by omega)⟩
      rw [ek] at h'
      exact hp S' h'
    | succ d ih =>
      intro k S hk h
      have e32 : stpF τ (G.take k) 32 0 = G.length := by rw [stpF_ne (by decide)]; exact hr.1
      have e31 : stpF τ (G.take k) 31 k = (G[k]'(by omega) : Nat) := by
        rw [stpF_ne (by decide), hr.2.2 k (by omega), List.getD_eq_getElem?_getD, List.getElem?_eq_getElem (by omega)]; rfl
      have gl := hG (G[k]'(by omega)) (List.getElem_mem _)
      obtain ⟨g, hg⟩ : ∃ g, g = G[k]'(by omega) := ⟨_, rfl⟩
      rw [← hg] at e31 gl
      have e18 : stpF τ (G.take k) 18 g = τ 18 g := by
        unfold stpF
        rw [if_neg]
        rintro ⟨-, z⟩
        rw [hg] at z
        obtain ⟨i, hi, e⟩ := List.getElem_of_mem z
        rw [List.getElem_take] at e
        have hik : i < k := by simp at hi; omega
        exact (List.pairwise_iff_getElem.mp hn) i k (by omega) (by omega) hik e
      have hw := h.wA 18 g (τ 18 g + 1) rfl (by decide)
      have hst : up (stpF τ (G.take k)) 18 g (τ 18 g + 1) = stpF τ (G.take (k + 1)) := by rw [hg]; exact stpF_s (by omega) hn
      rw [hst] at hw
      rw [wB_X4_servesOne_48]
      simp (disch := first | decide | omega) only [h.s, h.mm, h.R, h.Nj, h.N31, h.kI, h.aJ, h.a31, iI_le, iI_in, iI_nat, iI_1, iI_add, true_and, Option.some.injEq, exists_eq_left', Int.toNat_natCast, e32, e31, e18]
      refine ⟨fun c => absurd c (by omega), fun _ => ⟨by omega, by omega, by omega, ?_⟩⟩
      rintro _ rfl
      exact ih (k + 1) _ (by omega) hw
  exact ⟨_, key G.length 0 S (by omega) (by
    have : stpF τ (G.take 0) = τ := by funext g k; simp [stpF]
    rw [this]; exact h)⟩
end
