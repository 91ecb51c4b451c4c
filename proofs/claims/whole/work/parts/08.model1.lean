/-- what every state of the reference keeps of its teams -/
def okT (σ : fG2) : Prop := 1 ≤ σ 4 0 ∧ σ 4 0 ≤ 10 ∧ σ 5 0 = -1 ∧ ∀ k : Nat, 1 ≤ k → (k : Int) < σ 4 0 → 0 ≤ σ 5 k ∧ σ 5 k < k
theorem okT.p {σ : fG2} (h : okT σ) (k : Nat) (hk : (k : Int) < σ 4 0) : -1 ≤ σ 5 k ∧ σ 5 k < 10 := by
  by_cases e : k = 0
  · subst e; rw [h.2.2.1]; omega
  · have := h.2.2.2 k (by omega) hk; have := h.2.1; omega
def kidsF (σ : fG2) (t : Int) : Nat → Int := fun k => if σ 5 k = t then 1 else 0
def nt1 (σ : fG2) : Nat := (σ 4 0).toNat - 1
def kidsN (σ : fG2) (t : Int) : Int := fSum (kidsF σ t) 1 (nt1 σ)
theorem fSum_le {f : Nat → Int} {c : Int} (h0 : ∀ k, 0 ≤ f k ∧ f k ≤ c) : ∀ d k, 0 ≤ fSum f k d ∧ fSum f k d ≤ c * d := by
  intro d; induction d with
  | zero => intro k; simp [fSum]
  | succ d ih =>
    intro k
    have h1 := ih (k + 1); have h2 := h0 k
    simp only [fSum]
    have h3 : c * ((d + 1 : Nat) : Int) = c * d + c := by push_cast; rw [Int.mul_add]; omega
    rw [h3]; omega
theorem sp_childrenOf {F S : fMS} {m : Nat} {A : Nat → Nat} {σ : fG2} (h : RM F S m A σ) (hT : okT σ) {t : Int} (ht : -1000 ≤ t ∧ t ≤ 1000) {post} (hp : post (iI (kidsN σ t))) :
    wp_X4_childrenOf S m (iI t) post := by
  have key : ∀ d k : Nat, ∀ acc : Int, (k + d : Int) = σ 4 0 → 0 ≤ acc → acc + d ≤ 100 → post (iI (acc + fSum (kidsF σ t) k d)) →
      wB_X4_childrenOf_4 S post m (iI t) (d + 1) (iI acc) (iI k) := by
    have hn := hT.2.1
    intro d; induction d with
    | zero =>
      intro k acc hk h0 ha hp
      simp only [wB_X4_childrenOf_4]
      simp (disch := first | decide | omega) only [h.s, h.mm, iI_le, true_and]
      exact ⟨fun _ => by simpa [fSum] using hp, fun c => absurd c (by omega)⟩
    | succ d ih =>
      intro k acc hk h0 ha hp
      have hb := hT.p k (by omega)
      rw [wB_X4_childrenOf_4]
      simp (disch := first | decide | omega) only [h.s, h.mm, h.R, h.Nt, h.kI, h.aT, iI_le, iI_in, iI_nat, iI_0, iI_1, iI_eq, iI_add, Option.some.injEq, exists_eq_left', true_and, Int.toNat_natCast]
      refine ⟨fun c => absurd c (by omega), fun c => ⟨by omega, ?_, ?_⟩⟩
      · rintro hc _ rfl _ rfl
        refine ih (k+1) (acc + 0) (by omega) (by omega) (by omega) ?_
        have : kidsF σ t k = 0 := by unfold kidsF; rw [if_neg hc]
        simpa [fSum, this] using hp
      · rintro hc _ rfl _ rfl
        refine ih (k+1) (acc + 1) (by omega) (by omega) (by omega) ?_
        have : kidsF σ t k = 1 := by unfold kidsF; rw [if_pos hc]
        simpa [fSum, this, Int.add_assoc] using hp
  exact ⟨nt1 σ + 1, key (nt1 σ) 1 0 (by unfold nt1; have := hT.1; omega) (by omega) (by unfold nt1; have := hT.2.1; omega) (by simpa [kidsN] using hp)⟩
