def insAt (l : List Nat) (a t : Nat) : List Nat := l.take a ++ t :: l.drop a
theorem insAt_len {l : List Nat} {a t : Nat} (ha : a ≤ l.length) : (insAt l a t).length = l.length + 1 := by
  unfold insAt; simp; omega
theorem insAt_get {l : List Nat} {a t i : Nat} (ha : a ≤ l.length) : (insAt l a t).getD i 0 = if i < a then l.getD i 0 else if i = a then t else l.getD (i - 1) 0 := by
  unfold insAt
  have hl : (l.take a).length = a := by simp; omega
  simp only [List.getD_eq_getElem?_getD]
  rw [List.getElem?_append, hl]
  by_cases h1 : i < a
  · rw [if_pos h1, if_pos h1, List.getElem?_take, if_pos h1]
  · rw [if_neg h1, if_neg h1]
    by_cases h2 : i = a
    · subst h2; simp
    · rw [if_neg h2]
      obtain ⟨k, hk⟩ : ∃ k, i - a = k + 1 := ⟨i - a - 1, by omega⟩
      rw [hk, List.getElem?_cons_succ, List.getElem?_drop, show a + k = i - 1 by omega]
/-- from the end: past all that t is ahead of -/
noncomputable def atB (σ : fG2) (l : List Nat) (t : Nat) : Nat → Nat
  | 0 => 0
  | a + 1 => haveI := Classical.propDecidable; if ahd σ t (l.getD a 0) then atB σ l t a else a + 1
noncomputable def lnF (σ : fG2) : Nat → Nat → List Nat → List Nat
  | _, 0, l => l
  | t, d + 1, l => haveI := Classical.propDecidable; lnF σ (t + 1) d (if kidsN σ t = 0 ∧ fstS σ t ≠ -1 then insAt l (atB σ l t l.length) t else l)
noncomputable def lnS (σ : fG2) : List Nat := lnF σ 0 (σ 4 0).toNat []
theorem atB_le (σ : fG2) (l : List Nat) (t : Nat) : ∀ a, atB σ l t a ≤ a := by
  intro a; induction a with
  | zero => exact Nat.le_refl _
  | succ a ih => unfold atB; split; omega; exact Nat.le_refl _
def eqL (σ σ' : fG2) : Prop := ∀ g k : Nat, g ≠ 29 → g ≠ 30 → σ' g k = σ g k
theorem eqL.rf {σ : fG2} : eqL σ σ := fun _ _ _ _ => rfl
theorem eqL.tr {a b c : fG2} (h : eqL a b) (h2 : eqL b c) : eqL a c := fun g k h0 hg => (h2 g k h0 hg).trans (h g k h0 hg)
theorem eqL.K {a b : fG2} (h : eqL a b) : eqK a b := fun g k _ hg => h g k (by omega) (by omega)
theorem eqL.up {σ : fG2} {f j : Nat} {v : Int} (hf : f = 29 ∨ f = 30) : eqL σ (up σ f j v) := fun g k _ hg => up_ne (by omega)
def lnR (σ : fG2) (l : List Nat) : Prop := σ 30 0 = l.length ∧ l.length ≤ 10 ∧ (∀ i, i < l.length → σ 29 i = l.getD i 0) ∧ ∀ t ∈ l, t < 10

section
variable {F S : fMS} {m n : Nat} {A : Nat → Nat} {σ : fG2}
def okW (σ : fG2) : Prop := ∀ t : Nat, σ 11 t ≤ 0 → ∀ j : Nat, (j : Int) < σ 12 0 → ¬ (σ 13 j = t ∧ σ 17 j = 0)
theorem eqK.W {a b : fG2} (h : eqK a b) (hT : okW a) : okW b := by
  unfold okW; simp only [h 11 _ (by omega) (by omega), h 12 _ (by omega) (by omega), h 13 _ (by omega) (by omega), h 17 _ (by omega) (by omega)]; exact hT
theorem eqK.V {a b : fG2} (h : eqK a b) (hT : okV a) : okV b := by
  unfold okV; simp only [h 8 _ (by omega) (by omega)]; exact hT
theorem eqL.s {a b : fG2} (h : eqL a b) (hS : okS a) : okS b := by
  unfold okS; simp only [h 27 _ (by omega) (by omega), h 28 _ (by omega) (by omega), h 6 _ (by omega) (by omega)]; exact hS
theorem okB.w (hB : okB σ) {f j : Nat} {v : Int} (hv : -100000000 ≤ v ∧ v ≤ 100000000) : okB (up σ f j v) := by
  intro g k; unfold up; split; exact hv; exact hB g k
theorem eqK.ah {a b : fG2} (h : eqK a b) (t x : Nat) : ahd b t x ↔ ahd a t x := by
  unfold ahd; simp only [h 8 _ (by omega) (by omega), h 6 _ (by omega) (by omega)]
theorem fst_b (hJ : okJ σ) (t : Int) : ∀ d j : Nat, (j + d : Int) ≤ 512 → -1 ≤ fstF σ t j d ∧ fstF σ t j d < 512 := by
  intro d; induction d with
  | zero => intro j hj; simp [fstF]
  | succ d ih =>
    intro j hj
    simp only [fstF]
    split
    · omega
    · exact ih (j + 1) (by omega)
end
