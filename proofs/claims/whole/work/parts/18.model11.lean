/-- t and all above it -/
def chF (σ : fG2) : Nat → Int → List Nat
  | 0, _ => []
  | f + 1, t => if t = -1 then [] else t.toNat :: chF σ f (σ 5 t.toNat)
def chS (σ : fG2) (t : Int) : List Nat := chF σ 11 t
theorem chF_cong {a b : fG2} (h : ∀ k, b 5 k = a 5 k) : ∀ f t, chF b f t = chF a f t := by
  intro f; induction f with
  | zero => intro t; rfl
  | succ f ih => intro t; simp only [chF, h, ih]
theorem chF_le {σ : fG2} (hT : okT σ) : ∀ (f : Nat) (t : Int), -1 ≤ t → t < σ 4 0 → ∀ k ∈ chF σ f t, (k : Int) ≤ t := by
  intro f; induction f with
  | zero => intro t _ _ k hk; simp [chF] at hk
  | succ f ih =>
    intro t h1 h2 k hk
    simp only [chF] at hk
    split at hk
    · simp at hk
    · rename_i c
      rcases List.mem_cons.mp hk with z | z
      · omega
      · have hb := hT.p t.toNat (by omega)
        have hlt : σ 5 t.toNat < t := by
          by_cases e : t.toNat = 0
          · rw [e, hT.2.2.1]; omega
          · have := hT.2.2.2 t.toNat (by omega) (by omega); omega
        have := ih _ hb.1 (by omega) k z
        omega
/-- what runs, changed in a list of teams -/
def adL (σ : fG2) (l : List Nat) (u : Int) : fG2 := fun g k => if g = 10 ∧ k ∈ l then σ g k + u else σ g k
def rmS (σ : fG2) (t : Nat) (u : Int) : fG2 := adL σ (chS σ t) u
theorem adL_ne {σ : fG2} {l : List Nat} {u : Int} {g k : Nat} (h : g ≠ 10) : adL σ l u g k = σ g k := if_neg (fun z => h z.1)
theorem adL_cons {σ : fG2} {t : Nat} {l : List Nat} {u : Int} (h : t ∉ l) : adL (up σ 10 t (σ 10 t + u)) l u = adL σ (t :: l) u := by
  funext g k
  unfold adL up
  by_cases c : g = 10
  · subst c
    by_cases e : k = t
    · subst e; simp [h]
    · simp [e]
  · simp [c]
section
variable {F S : fMS} {m n : Nat} {A : Nat → Nat} {σ : fG2}
theorem sp_runsMore (hT : okT σ) (h : RM F S m A σ) {t : Nat} (ht : (t : Int) < σ 4 0) {u : Int} {post : fMS → Nat → Prop} (hp : ∀ S', RM F S' m A (rmS σ t u) → post S' n) : wp_X4_runsMore S n m (iI t) (iI u) post := by
  have key : ∀ (p0 : Int) (f : Nat) (t : Int) (τ : fG2) (S : fMS), RM F S m A τ → okT τ → -1 ≤ t → t < τ 4 0 → t < f → (∀ S', RM F S' m A (adL τ (chF τ f t) u) → post S' n) → wB_X4_runsMore_2 post m (iI p0) (iI u) (f + 1) S n (iI t) := by
    intro p0 f; induction f with
    | zero =>
      intro t τ S h hT h1 h2 h3 hp
      have q2 := hT.2.1
      have e : t = -1 := by omega
      subst e
      simp only [wB_X4_runsMore_2]
      simp (disch := first | decide | omega) only [iI_1, iI_neg, iI_eq, not_true_eq_false, false_implies, and_true, true_implies]
      refine hp S ?_
      have : adL τ (chF τ 0 (-1)) u = τ := by funext g k; simp [adL, chF]
      rw [this]; exact h
    | succ f ih =>
      intro t τ S h hT h1 h2 h3 hp
      have q2 := hT.2.1
      rw [wB_X4_runsMore_2]
      by_cases c : t = -1
      · subst c
        simp (disch := first | decide | omega) only [iI_1, iI_neg, iI_eq, not_true_eq_false, false_implies, and_true, true_implies]
        refine hp S ?_
        have : adL τ (chF τ (f + 1) (-1)) u = τ := by funext g k; simp [adL, chF]
        rw [this]; exact h
      · obtain ⟨k, rfl⟩ : ∃ k : Nat, t = k := ⟨t.toNat, by omega⟩
        have hb := hT.p k (by omega)
        have hw := h.wA 10 k (τ 10 k + u) rfl (by decide)
        have e5 : up τ 10 k (τ 10 k + u) 5 k = τ 5 k := up_ne (by decide)
        simp (disch := first | decide | omega) only [h.mm, h.R, h.Nt, h.kI, h.aT, iI_1, iI_neg, iI_eq, iI_in, iI_nat, iI_add, Option.some.injEq, exists_eq_left', true_and, Int.toNat_natCast, hw.R, hw.Nt, hw.kI, hw.aT, e5]
        refine ⟨fun z => absurd z c, fun _ => ⟨by omega, by omega, by omega, ?_⟩⟩
        rintro _ rfl
        have hT2 : okT (up τ 10 k (τ 10 k + u)) := hT.up (by decide) (by decide)
        have e4 : up τ 10 k (τ 10 k + u) 4 0 = τ 4 0 := up_ne (by decide)
        have hlt : τ 5 k < k := by
          by_cases e : k = 0
          · subst e; rw [hT.2.2.1]; omega
          · have := hT.2.2.2 k (by omega) (by omega); omega
        refine ih (τ 5 k) _ _ hw hT2 hb.1 (by rw [e4]; omega) (by omega) (fun S' h' => hp S' ?_)
        rw [chF_cong (a := τ) (fun i => up_ne (by decide))] at h'
        rw [adL_cons (fun z => by have := chF_le hT f (τ 5 k) hb.1 (by omega) k z; omega)] at h'
        simp only [chF]
        rw [if_neg c]
        exact h'
  have q2 := hT.2.1
  exact ⟨_, key t 11 t σ S h hT (by omega) ht (by omega) hp⟩
end
