section
variable {F S : fMS} {m n : Nat} {A : Nat → Nat} {σ τ : fG2}
/-- any int -/
def i32 (a : Int) : Prop := -2147483648 ≤ a ∧ a ≤ 2147483647
/-- how a call of the reference ends: in a state like σ', with the code cd and the answer v -/
def rP (F : fMS) (m n : Nat) (A : Nat → Nat) (σ' : fG2) (cd v : Int) (post : Int32 → fMS → Nat → Prop) : Prop :=
  ∀ (S' : fMS) (τ : fG2), RM F S' m A τ → τ 0 0 = cd → eqC σ' τ → okB τ → okS τ → post (iI v) S' n
theorem sp_isTeam2 (h : RM F S m A σ) (hT : okT σ) {t : Int} (ht : i32 t) {post : Int32 → Prop} (h1 : 0 ≤ t ∧ t < σ 4 0 → post (iI 1)) (h0 : ¬ (0 ≤ t ∧ t < σ 4 0) → post (iI 0)) : wp_X4_isTeam S m (iI t) post := by
  refine sp_isTeam h hT ht ?_
  by_cases c : 0 ≤ t ∧ t < σ 4 0
  · rw [b01_t c]; exact h1 c
  · rw [b01_f c]; exact h0 c
theorem sp_in2 {a b c : Int} (ha : i32 a) (hb : -1000000000 ≤ b ∧ b ≤ 1000000000) (hc : -1000000000 ≤ c ∧ c ≤ 1000000000) {post : Int32 → Prop} (h1 : b ≤ a ∧ a ≤ c → post (iI 1)) (h0 : ¬ (b ≤ a ∧ a ≤ c) → post (iI 0)) : wp_X4_in S (iI a) (iI b) (iI c) post := by
  refine sp_in' ha hb hc ?_
  by_cases z : b ≤ a ∧ a ≤ c
  · rw [b01_t z]; exact h1 z
  · rw [b01_f z]; exact h0 z
theorem sp_isLeaf2 (h : RM F S m A σ) (hT : okT σ) {t : Int} (ht : -1000 ≤ t ∧ t ≤ 1000) {post : Int32 → Prop} (h1 : kidsN σ t = 0 → post (iI 1)) (h0 : ¬ kidsN σ t = 0 → post (iI 0)) : wp_X4_isLeaf S m (iI t) post := by
  refine sp_isLeaf h hT ht ?_
  by_cases c : kidsN σ t = 0
  · rw [b01_t c]; exact h1 c
  · rw [b01_f c]; exact h0 c
theorem sp_go0 (h : RM F S m A σ) {post : Int32 → fMS → Nat → Prop} (hp : ∀ S', RM F S' m A (up σ 0 0 0) → post (iI 1) S' n) : wp_X4_goesOn S n m (iI 0) post :=
  sp_goesOn h (by omega) (fun S' h' => by rw [b01_t rfl]; exact hp S' h') trivial
theorem sp_go1 (h : RM F S m A σ) {c : Int} (hc : 0 < c ∧ c ≤ 100) {post : Int32 → fMS → Nat → Prop} (hp : ∀ S', RM F S' m A (up σ 0 0 c) → post (iI 0) S' n) : wp_X4_goesOn S n m (iI c) post :=
  sp_goesOn h (by omega) (fun S' h' => by rw [b01_f (by omega)]; exact hp S' h') trivial
theorem okS.u0 (hS : okS σ) {f j : Nat} {v : Int} (h1 : f ≠ 27) (h2 : f ≠ 28) (h3 : f ≠ 6) : okS (up σ f j v) := by
  unfold okS; simp only [up_ne (Ne.symm h1), up_ne (Ne.symm h2), up_ne (Ne.symm h3)]; exact hS
theorem rP.no (hB : okB σ) (hS : okS σ) {c v : Int} (hc : 0 < c ∧ c ≤ 100) {post : Int32 → fMS → Nat → Prop} (hp : rP F m n A σ c v post) (h : RM F S m A (up σ 0 0 c)) : post (iI v) S n :=
  hp S _ h up_at (eqC.up0 (Or.inr rfl)) (hB.w (by omega)) (hS.u0 (by decide) (by decide) (by decide))
theorem rP.yes (hB : okB σ) (hS : okS σ) {v : Int} {post : Int32 → fMS → Nat → Prop} (hp : rP F m n A σ 0 v post) (h : RM F S m A (up σ 0 0 0)) : post (iI v) S n :=
  hp S _ h up_at (eqC.up0 (Or.inr rfl)) (hB.w (by omega)) (hS.u0 (by decide) (by decide) (by decide))
theorem eqC.okS (h : eqC σ τ) (hS : okS σ) : okS τ := by
  unfold _root_.Jvm.Pilot.CFairquotaBrokerLaw_law_r8435_3f40a5.okS; simp only [h 27 _ (by decide) (by decide), h 28 _ (by decide) (by decide), h 6 _ (by decide) (by decide)]; exact hS
theorem svS_okS (hi : inv σ) (hS : okS σ) : okS (svS σ) := by
  have e : ∀ g k : Nat, g ≠ 10 → g ≠ 11 → g ≠ 17 → g ≠ 16 → g ≠ 18 → g ≠ 19 → g ≠ 20 → svS σ g k = lyS σ g k := fun g k a b c d e f i => srvN_ne a b c d e f i _ _
  have := lyS_okS hi hS
  unfold okS; simp only [e 27 _ (by decide) (by decide) (by decide) (by decide) (by decide) (by decide) (by decide), e 28 _ (by decide) (by decide) (by decide) (by decide) (by decide) (by decide) (by decide), e 6 _ (by decide) (by decide) (by decide) (by decide) (by decide) (by decide) (by decide)]; exact this
/-- laying shares looks at nothing but what it doesn't write -/
theorem gv1_cong {t : Int} (h : eqC σ τ) : eqC (gv1 σ t) (gv1 τ t) := by
  have : ∀ (d k : Nat) (b : Int), bsF τ t k d b = bsF σ t k d b := by
    intro d; induction d with
    | zero => intro k b; rfl
    | succ d ih =>
      intro k b
      simp only [bsF, ih, h 5 _ (by decide) (by decide), h 28 _ (by decide) (by decide), h 27 _ (by decide) (by decide), h 6 _ (by decide) (by decide)]
  have e : bsS τ t = bsS σ t := by unfold bsS; rw [this, h.K.n1]
  unfold gv1
  rw [e]
  split
  · exact h
  · rw [h 28 _ (by decide) (by decide)]; exact h.up
theorem gvN_cong {t : Int} : ∀ (u : Nat) (σ τ : fG2), eqC σ τ → eqC (gvN t u σ) (gvN t u τ) := by
  intro u; induction u with
  | zero => intro σ τ h; exact h
  | succ u ih => intro σ τ h; exact ih _ _ (gv1_cong h)
theorem ly2_cong : ∀ (d t : Nat) (σ τ : fG2), eqC σ τ → eqC (ly2 t d σ) (ly2 t d τ) := by
  intro d; induction d with
  | zero => intro t σ τ h; exact h
  | succ d ih =>
    intro t σ τ h
    unfold ly2
    rw [h 28 _ (by decide) (by decide)]
    exact ih _ _ _ (gvN_cong _ _ _ h)
/-- bsF takes the teams' wants and shares alone: of teams there are -/
theorem ly1_cong (h : eqK σ τ) : ∀ g k : Nat, 1 ≤ g → g ≤ 26 ∨ ((g = 27 ∨ g = 28) ∧ (k : Int) < σ 4 0) → ly1 τ (τ 4 0).toNat g k = ly1 σ (σ 4 0).toNat g k := by
  intro g k a b
  unfold ly1 dmS
  rw [h 4 0 (by omega) (by omega), h.dm]
  by_cases c1 : g = 27 ∧ k < (σ 4 0).toNat
  · rw [if_pos c1, if_pos c1]
  · rw [if_neg c1, if_neg c1]
    by_cases c2 : g = 28 ∧ k < (σ 4 0).toNat
    · rw [if_pos c2, if_pos c2]
    · rw [if_neg c2, if_neg c2]; exact h g k a (by omega)
end
