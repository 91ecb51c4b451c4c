/-- the same but for what is reckoned anew (27 wants, 28 shares, 29, 30 line, 31, 32 gone) -/
def eqK (σ σ' : fG2) : Prop := ∀ g k : Nat, 1 ≤ g → g < 27 → σ' g k = σ g k
theorem eqK.rf {σ : fG2} : eqK σ σ := fun _ _ _ _ => rfl
theorem eqK.tr {a b c : fG2} (h : eqK a b) (h2 : eqK b c) : eqK a c := fun g k h0 hg => (h2 g k h0 hg).trans (h g k h0 hg)
theorem eqK.sy {a b : fG2} (h : eqK a b) : eqK b a := fun g k h0 hg => (h g k h0 hg).symm
theorem eqK.up {σ : fG2} {f j : Nat} {v : Int} (hf : 27 ≤ f ∨ f = 0) : eqK σ (up σ f j v) := fun g k _ hg => up_ne (by omega)
theorem eqK.T {a b : fG2} (h : eqK a b) (hT : okT a) : okT b := by
  unfold okT; simp only [h 4 _ (by omega) (by omega), h 5 _ (by omega) (by omega)]; exact hT
theorem eqK.U {a b : fG2} (h : eqK a b) (hT : okU a) : okU b := by
  unfold okU; simp only [h 10 _ (by omega) (by omega)]; exact hT
theorem eqK.L {a b : fG2} (h : eqK a b) (hT : okL a) : okL b := by
  unfold okL; simp only [h 7 _ (by omega) (by omega), h 11 _ (by omega) (by omega)]; exact hT
theorem eqK.P {a b : fG2} (h : eqK a b) (hT : okP a) : okP b := by
  unfold okP; simp only [h 22 _ (by omega) (by omega), h 24 _ (by omega) (by omega)]; exact hT
theorem eqK.J {a b : fG2} (h : eqK a b) (hT : okJ a) : okJ b := by
  unfold okJ; simp only [h 12 _ (by omega) (by omega), h 13 _ (by omega) (by omega), h 4 _ (by omega) (by omega), h 14 _ (by omega) (by omega), h 15 _ (by omega) (by omega)]; exact hT
theorem eqK.kids {a b : fG2} (h : eqK a b) : kidsN b = kidsN a := by
  funext t; unfold kidsN nt1 kidsF; simp only [h 4 _ (by omega) (by omega), h 5 _ (by omega) (by omega)]
theorem eqK.n1 {a b : fG2} (h : eqK a b) : nt1 b = nt1 a := by unfold nt1; rw [h 4 _ (by omega) (by omega)]
theorem eqK.dm {a b : fG2} (h : eqK a b) : ∀ d t, dmF b d t = dmF a d t := by
  intro d; induction d with
  | zero => intro t; rfl
  | succ d ih =>
    intro t
    simp only [dmF, h.kids, h.n1, h 5 _ (by omega) (by omega), h 7 _ (by omega) (by omega), h 10 _ (by omega) (by omega), h 11 _ (by omega) (by omega), ih]
theorem eqK.rsv {a b : fG2} (h : eqK a b) (t : Int) : rsvS b t = rsvS a t := by
  unfold rsvS rsvF; simp only [h 22 _ (by omega) (by omega), h 23 _ (by omega) (by omega), h 24 _ (by omega) (by omega), h 25 _ (by omega) (by omega), h 26 _ (by omega) (by omega), h 1 _ (by omega) (by omega)]
theorem eqK.fre {a b : fG2} (h : eqK a b) (t : Int) : freS b t = freS a t := by
  unfold freS freF; simp only [h.kids, h.rsv, h 2 _ (by omega) (by omega), h 10 _ (by omega) (by omega), h 4 _ (by omega) (by omega)]
theorem eqK.fst {a b : fG2} (h : eqK a b) (t : Int) : fstS b t = fstS a t := by
  have : ∀ d j, fstF b t j d = fstF a t j d := by
    intro d; induction d with
    | zero => intro j; rfl
    | succ d ih => intro j; simp only [fstF, h 13 _ (by omega) (by omega), h 17 _ (by omega) (by omega), ih]
  unfold fstS; rw [this, h 12 _ (by omega) (by omega)]
theorem gv1_K {σ : fG2} (t : Int) : eqK σ (gv1 σ t) := fun g k _ hg => gv1_ne t (by omega)
theorem gvN_K (t : Int) : ∀ (u : Nat) (σ : fG2), eqK σ (gvN t u σ) := by
  intro u; induction u with
  | zero => intro σ; exact eqK.rf
  | succ u ih => intro σ; exact (gv1_K t).tr (ih _)
theorem gvN_okS (t : Int) : ∀ (u : Nat) (σ : fG2), okT σ → okS σ → okS (gvN t u σ) := by
  intro u; induction u with
  | zero => intro σ _ h; exact h
  | succ u ih => intro σ hT h; exact ih _ (gv1_okT hT t) (gv1_okS hT h t)
/-- shares: dealt from t on, d teams -/
def ly2 : Nat → Nat → fG2 → fG2
  | _, 0, σ => σ
  | t, d + 1, σ => ly2 (t + 1) d (gvN t (σ 28 t).toNat σ)
def ly1 (σ : fG2) (k : Nat) : fG2 := fun g i => if g = 27 ∧ i < k then dmS σ i else if g = 28 ∧ i < k then 0 else σ g i
theorem ly1_K {σ : fG2} (k : Nat) : eqK σ (ly1 σ k) := by
  intro g i h0 hg; unfold ly1; rw [if_neg (by omega), if_neg (by omega)]
theorem ly1_0 {σ : fG2} : ly1 σ 0 = σ := by funext g i; unfold ly1; rw [if_neg (by omega), if_neg (by omega)]
theorem ly1_s {σ : fG2} (k : Nat) : up (up (ly1 σ k) 27 k (dmS σ k)) 28 k 0 = ly1 σ (k + 1) := by
  funext g i
  unfold up ly1
  by_cases h1 : g = 28
  · subst h1
    by_cases h2 : i = k
    · subst h2; simp
    · by_cases h3 : i < k
      · have h4 : i < k + 1 := by omega
        simp [h2, h3, h4]
      · have h4 : ¬ i < k + 1 := by omega
        simp [h2, h3, h4]
  · by_cases h0 : g = 27
    · subst h0
      by_cases h2 : i = k
      · subst h2; simp
      · by_cases h3 : i < k
        · have h4 : i < k + 1 := by omega
          simp [h2, h3, h4]
        · have h4 : ¬ i < k + 1 := by omega
          simp [h2, h3, h4]
    · simp [h0, h1]
def lyS (σ : fG2) : fG2 := let τ := ly1 σ (σ 4 0).toNat; ly2 0 (σ 4 0).toNat (up τ 28 0 (if σ 2 0 ≤ dmS σ 0 then σ 2 0 else dmS σ 0))
section
variable {F S : fMS} {m n : Nat} {A : Nat → Nat} {σ : fG2}
theorem sp_laysShares (hT : okT σ) (hU : okU σ) (hL : okL σ) (hc : 0 ≤ σ 2 0 ∧ σ 2 0 ≤ 200) (h : RM F S m A σ) (hS : okS σ) {post : fMS → Nat → Prop} (hp : ∀ S', RM F S' m A (lyS σ) → post S' n) : wp_X4_laysShares S n m post := by
  have q1 := hT.1; have q2 := hT.2.1
  have deal : ∀ (d : Nat) (t : Nat) (τ : fG2) (S : fMS), okT τ → RM F S m A τ → okS τ → (t + d : Int) = τ 4 0 → (∀ S', RM F S' m A (ly2 t d τ) → post S' n) → wB_X4_laysShares_68 post m (d + 1) S n (iI t) := by
    intro d; induction d with
    | zero =>
      intro t τ S hT h hS ht hp
      have q2 := hT.2.1
      simp only [wB_X4_laysShares_68]
      simp (disch := first | decide | omega) only [h.s, h.mm, iI_le, true_and]
      exact ⟨fun _ => hp S h, fun c => absurd c (by omega)⟩
    | succ d ih =>
      intro t τ S hT h hS ht hp
      have q2 := hT.2.1
      rw [wB_X4_laysShares_68]
      simp (disch := first | decide | omega) only [h.s, h.mm, iI_le, true_and, iI_1, iI_add]
      refine ⟨fun c => absurd c (by omega), fun c => sp_gives hT h hS (by omega) (fun S' h' => ?_)⟩
      rintro _ rfl
      have hk := gvN_K t (τ 28 t).toNat τ
      exact ih (t + 1) _ S' (hk.T hT) h' (gvN_okS t _ τ hT hS) (by rw [hk 4 0 (by omega) (by omega)]; omega) hp
  have wb : ∀ t, 0 ≤ dmS σ t ∧ dmS σ t ≤ 20000 := fun t => ⟨(dm_b hT hU hL 11 t).1, (dm_b hT hU hL 11 t).2.1⟩
  have lS : ∀ k, okS (ly1 σ k) := by
    intro k i
    have b := hS i; have w := wb i
    unfold ly1
    simp only [show ¬ ((27 : Nat) = 28) by decide, show ¬ ((28 : Nat) = 27) by decide, show ¬ ((6 : Nat) = 27) by decide, show ¬ ((6 : Nat) = 28) by decide, true_and, false_and, if_false]
    split <;> omega
  have lay : ∀ (d k : Nat) (S : fMS), RM F S m A (ly1 σ k) → (k + d : Int) = σ 4 0 → wB_X4_laysShares_2 post m (d + 1) S n (iI k) := by
    intro d; induction d with
    | zero =>
      intro k S h hk
      have hK := ly1_K (σ := σ) k
      have e4 : ly1 σ k 4 0 = σ 4 0 := hK 4 0 (by omega) (by omega)
      have e2 : ly1 σ k 2 0 = σ 2 0 := hK 2 0 (by omega) (by omega)
      have e27 : ly1 σ k 27 0 = dmS σ 0 := if_pos ⟨rfl, by omega⟩
      have w := wb 0
      have hk2 : (σ 4 0).toNat = k := by omega
      have fin : ∀ v, v = (if σ 2 0 ≤ dmS σ 0 then σ 2 0 else dmS σ 0) → ∃ g68, wB_X4_laysShares_68 post m g68 (wI S (A 28) 0 (iI v)) n (iI 0) := by
        intro v hv
        have hw := h.wA 28 0 v rfl (by decide)
        have hK2 : eqK (ly1 σ k) (up (ly1 σ k) 28 0 v) := eqK.up (by omega)
        have bv : 0 ≤ v ∧ v ≤ 20000 := by rw [hv]; split <;> omega
        refine ⟨_, deal k 0 _ _ (hK2.T (hK.T hT)) hw ?_ (by rw [hK2 4 0 (by omega) (by omega), e4]; omega) (fun S' h' => hp S' ?_)⟩
        · intro i
          have b := lS k i
          rw [up_ne (g := 27) (by decide), up_ne (g := 6) (by decide)]
          by_cases e : i = 0
          · subst e; rw [up_at]; omega
          · rw [up_nj e]; exact b
        · unfold lyS; rw [hk2, ← hv]; exact h'
      simp only [wB_X4_laysShares_2]
      simp (disch := first | decide | omega) only [h.s, h.mm, h.R, h.Nt, h.kI, h.aT, iI_le, iI_in, iI_nat, iI_0, Option.some.injEq, exists_eq_left', true_and, e4, e2, e27, Int.toNat_zero]
      refine ⟨fun _ => ⟨by omega, fun c => ⟨by omega, ?_⟩, fun c => ⟨by omega, by omega, ?_⟩⟩, fun c => absurd c (by omega)⟩
      · exact fin _ (by rw [if_pos c])
      · exact fin _ (by rw [if_neg c])
    | succ d ih =>
      intro k S h hk
      have hK := ly1_K (σ := σ) k
      have e4 : ly1 σ k 4 0 = σ 4 0 := hK 4 0 (by omega) (by omega)
      have w := wb k
      rw [wB_X4_laysShares_2]
      simp (disch := first | decide | omega) only [h.s, h.mm, iI_le, true_and, e4]
      refine ⟨fun c => absurd c (by omega), fun c => sp_demandOf h (hK.T hT) (hK.U hU) (hK.L hL) 11 k _ (by rw [e4]; omega) (by rw [e4]; omega) ?_⟩
      rw [hK.dm]
      have h1 := h.wA 27 k (dmS σ k) rfl (by decide)
      have h2 := h1.wA 28 k 0 rfl (by decide)
      rw [ly1_s] at h2
      show ∃ a18 : Nat, _
      simp (disch := first | decide | omega) only [h.R, h.Nt, h.kI, iI_in, iI_nat, Option.some.injEq, exists_eq_left', true_and, Int.toNat_natCast]
      refine ⟨by omega, ?_⟩
      have h1 : RM F (wI S (A 27) k (iI (dmF σ 11 k))) m A _ := h1
      simp (disch := first | decide | omega) only [h1.R, h1.Nt, h1.kI, iI_in, iI_nat, iI_0, iI_1, iI_add, Option.some.injEq, exists_eq_left', true_and, Int.toNat_natCast]
      refine ⟨by omega, ?_⟩
      rintro _ rfl
      exact ih (k + 1) _ h2 (by omega)
  exact ⟨_, lay (σ 4 0).toNat 0 S (by rw [ly1_0]; exact h) (by omega)⟩
end
