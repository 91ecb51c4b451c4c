section
variable {F S : fMS} {m n : Nat} {A : Nat → Nat} {σ : fG2}
/-- limits, what waits -/
def okL (σ : fG2) : Prop := (∀ k, 0 ≤ σ 7 k ∧ σ 7 k ≤ 500) ∧ ∀ k, 0 ≤ σ 11 k ∧ σ 11 k ≤ 3000
def dmF (σ : fG2) : Nat → Nat → Int
  | 0, _ => 0
  | d + 1, t =>
    if 0 < t ∧ σ 7 t < (if kidsN σ t = 0 then σ 11 t + σ 10 t else 0) + fSum (fun k => if σ 5 k = t then dmF σ d k else 0) 1 (nt1 σ) then σ 7 t
    else (if kidsN σ t = 0 then σ 11 t + σ 10 t else 0) + fSum (fun k => if σ 5 k = t then dmF σ d k else 0) 1 (nt1 σ)
def dmS (σ : fG2) (t : Nat) : Int := dmF σ 11 t
theorem fSum_bd {f : Nat → Int} {c : Int} (hc : 0 ≤ c) : ∀ d k, (∀ i, k ≤ i → i < k + d → 0 ≤ f i ∧ f i ≤ c) → 0 ≤ fSum f k d ∧ fSum f k d ≤ c * d := by
  intro d; induction d with
  | zero => intro k _; simp [fSum]
  | succ d ih =>
    intro k h0
    have h1 := ih (k + 1) (fun i h1 h2 => h0 i (by omega) (by omega)); have h2 := h0 k (by omega) (by omega)
    simp only [fSum]
    have h3 : c * ((d + 1 : Nat) : Int) = c * d + c := by push_cast; rw [Int.mul_add]; omega
    rw [h3]; omega
theorem dm_b (hT : okT σ) (hU : okU σ) (hL : okL σ) : ∀ d t, 0 ≤ dmF σ d t ∧ dmF σ d t ≤ 20000 ∧ (1 ≤ t → dmF σ d t ≤ 500) := by
  have q1 := hT.1; have q2 := hT.2.1
  intro d; induction d with
  | zero => intro t; simp [dmF]
  | succ d ih =>
    intro t
    have b1 := hL.1 t; have b2 := hL.2 t; have b3 := hU t
    have hs := fSum_bd (f := fun k => if σ 5 k = t then dmF σ d k else 0) (c := 500) (by omega) (nt1 σ) 1 (fun i h1 h2 => by
      have := ih i
      have h3 := this.2.2 (by omega)
      show 0 ≤ (if σ 5 i = t then dmF σ d i else 0) ∧ (if σ 5 i = t then dmF σ d i else 0) ≤ 500
      split <;> omega)
    have h3 : nt1 σ ≤ 9 := by unfold nt1; omega
    simp only [dmF]
    split
    · omega
    · rename_i hc
      have : 0 ≤ (if kidsN σ t = 0 then σ 11 t + σ 10 t else 0) ∧ (if kidsN σ t = 0 then σ 11 t + σ 10 t else 0) ≤ 6000 := by split <;> omega
      refine ⟨by omega, by omega, fun h1 => by omega⟩
end
