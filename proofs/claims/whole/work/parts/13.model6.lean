theorem up_ne {σ : fG2} {f j : Nat} {v : Int} {g k : Nat} (h : g ≠ f) : up σ f j v g k = σ g k := if_neg (fun z => h z.1)
theorem up_at {σ : fG2} {f j : Nat} {v : Int} : up σ f j v f j = v := if_pos ⟨rfl, rfl⟩
theorem up_nj {σ : fG2} {f j : Nat} {v : Int} {k : Nat} (h : k ≠ j) : up σ f j v f k = σ f k := if_neg (fun z => h z.2)
theorem okT.up {σ : fG2} (h : okT σ) {f j : Nat} {v : Int} (h4 : f ≠ 4) (h5 : f ≠ 5) : okT (up σ f j v) := by
  unfold okT
  simp only [up_ne (Ne.symm h4), up_ne (Ne.symm h5)]
  exact h
theorem kidsN_up {σ : fG2} {f j : Nat} {v : Int} (h4 : f ≠ 4) (h5 : f ≠ 5) (t : Int) : kidsN (up σ f j v) t = kidsN σ t := by
  unfold kidsN nt1 kidsF
  simp only [up_ne (Ne.symm h4), up_ne (Ne.symm h5)]
section
variable {F S : fMS} {m n : Nat} {A : Nat → Nat} {σ : fG2}
/-- the neediest child of t, from k on; b: the best so far -/
def bsF (σ : fG2) (t : Int) : Nat → Nat → Int → Int
  | _, 0, b => b
  | k, d + 1, b => bsF σ t (k + 1) d (if σ 5 k = t ∧ σ 28 k < σ 27 k ∧ (b = -1 ∨ σ 28 k * σ 6 b.toNat < σ 28 b.toNat * σ 6 k) then (k : Int) else b)
def bsS (σ : fG2) (t : Int) : Int := bsF σ t 1 (nt1 σ) (-1)
def bsOk (σ : fG2) (t b : Int) : Prop := b = -1 ∨ (1 ≤ b ∧ b < σ 4 0 ∧ σ 5 b.toNat = t ∧ σ 28 b.toNat < σ 27 b.toNat)
theorem bsF_ok {t : Int} : ∀ (d k : Nat) (b : Int), 1 ≤ k → (k + d : Int) ≤ σ 4 0 → bsOk σ t b → bsOk σ t (bsF σ t k d b) := by
  intro d; induction d with
  | zero => intro k b _ _ h; exact h
  | succ d ih =>
    intro k b hk hn h
    simp only [bsF]
    refine ih (k + 1) _ (by omega) (by omega) ?_
    split
    · rename_i c
      exact Or.inr ⟨by omega, by omega, by simpa using c.1, by simpa using c.2.1⟩
    · exact h
theorem bsS_ok (hT : okT σ) (t : Int) : bsOk σ t (bsS σ t) := bsF_ok _ _ _ (by omega) (by unfold nt1; have := hT.1; omega) (Or.inl rfl)
def gv1 (σ : fG2) (t : Int) : fG2 := if bsS σ t = -1 then σ else up σ 28 (bsS σ t).toNat (σ 28 (bsS σ t).toNat + 1)
def gvN (t : Int) : Nat → fG2 → fG2
  | 0, σ => σ
  | u + 1, σ => gvN t u (gv1 σ t)
/-- wants, shares, weights -/
def okS (σ : fG2) : Prop := ∀ k, 0 ≤ σ 27 k ∧ σ 27 k ≤ 20000 ∧ 0 ≤ σ 28 k ∧ σ 28 k ≤ 20000 ∧ 0 ≤ σ 6 k ∧ σ 6 k ≤ 9
theorem gv1_okS (hT : okT σ) (h : okS σ) (t : Int) : okS (gv1 σ t) := by
  unfold gv1
  split
  · exact h
  · rename_i c
    rcases bsS_ok hT t with hb | hb
    · exact absurd hb c
    · intro k
      have h1 := h k; have h2 := h (bsS σ t).toNat
      rw [up_ne (g := 27) (by decide), up_ne (g := 6) (by decide)]
      by_cases e : k = (bsS σ t).toNat
      · subst e; rw [up_at]; omega
      · rw [up_nj e]; exact h1
theorem gv1_ne (t : Int) {g k : Nat} (hg : g ≠ 28) : gv1 σ t g k = σ g k := by unfold gv1; split; rfl; exact up_ne hg
theorem gv1_okT (hT : okT σ) (t : Int) : okT (gv1 σ t) := by unfold gv1; split; exact hT; exact hT.up (by decide) (by decide)
theorem mul_bd {a b c d : Int} (ha : 0 ≤ a) (ha2 : a ≤ c) (hb : 0 ≤ b) (hb2 : b ≤ d) : 0 ≤ a * b ∧ a * b ≤ c * d := ⟨Int.mul_nonneg ha hb, Int.mul_le_mul ha2 hb2 hb (by omega)⟩
theorem sp_gives (hT : okT σ) (h : RM F S m A σ) (hS : okS σ) {t : Nat} (ht : (t : Int) < σ 4 0) {post : fMS → Nat → Prop} (hp : ∀ S', RM F S' m A (gvN t (σ 28 t).toNat σ) → post S' n) : wp_X4_gives S n m (iI t) post := by
  have q2 := hT.2.1
  -- one unit
  have inner : ∀ (σ : fG2) (S : fMS), okT σ → RM F S m A σ → okS σ → ∀ (u : Int) (K2 : fMS → Nat → Int32 → Prop), 0 ≤ u → u ≤ 100000 → (∀ S', RM F S' m A (gv1 σ t) → K2 S' n (iI (u + 1))) →
      ∀ d k : Nat, ∀ b : Int, (k + d : Int) = σ 4 0 → 1 ≤ k → bsOk σ t b → bsF σ t k d b = bsS σ t → wB_X4_gives_17 post K2 m (iI t) (d + 1) S n (iI u) (iI b) (iI k) := by
    intro σ S hT h hS u K2 u0 u1 hK d
    have q1 := hT.1; have q2 := hT.2.1
    induction d with
    | zero =>
      intro k b hk hk1 hb hx
      simp only [bsF] at hx
      subst hx
      simp only [wB_X4_gives_17]
      rcases hb with hb | hb
      · simp (disch := first | decide | omega) only [h.s, h.mm, iI_le, true_and, iI_neg, iI_1, iI_add]
        refine ⟨fun _ => ⟨fun _ => ?_, fun c => absurd (by rw [hb]) c⟩, fun c => absurd c (by omega)⟩
        rintro _ rfl
        exact hK S (by rw [gv1, if_pos hb]; exact h)
      · obtain ⟨bn, hbn⟩ : ∃ bn : Nat, bsS σ t = bn := ⟨(bsS σ t).toNat, by omega⟩
        have b1 := hS bn
        have hw := h.wA 28 bn (σ 28 bn + 1) rfl (by decide)
        have hg : gv1 σ t = up σ 28 bn (σ 28 bn + 1) := by rw [gv1, if_neg (by omega), hbn]; rfl
        rw [hbn] at hb ⊢
        simp only [Int.toNat_natCast] at hb
        simp (disch := first | decide | omega) only [h.s, h.mm, h.R, h.Nt, h.kI, h.aT, iI_le, iI_in, iI_nat, iI_1, iI_neg, iI_eq, iI_add, Option.some.injEq, exists_eq_left', true_and, Int.toNat_natCast]
        refine ⟨fun _ => ⟨fun c => absurd c (by omega), fun c => ⟨by omega, by omega, ?_⟩⟩, fun c => absurd c (by omega)⟩
        rintro _ rfl
        exact hK _ (by rw [hg]; exact hw)
    | succ d ih =>
      intro k b hk hk1 hb hx
      simp only [bsF] at hx
      have b1 := hT.p k (by omega); have b2 := hS k
      have hbn : b = -1 ∨ ∃ bn : Nat, b = bn ∧ bn < 10 := hb.imp id (fun z => ⟨b.toNat, by omega, by omega⟩)
      rw [wB_X4_gives_17]
      simp (disch := first | decide | omega) only [h.s, h.mm, h.R, h.Nt, h.kI, h.aT, iI_le, iI_in, iI_nat, iI_1, iI_neg, iI_eq, iI_add, Option.some.injEq, exists_eq_left', true_and, Int.toNat_natCast]
      refine ⟨fun c => absurd c (by omega), fun c => ⟨by omega, ?_, fun c1 => ⟨by omega, by omega, ?_, fun c2 => ?_⟩⟩⟩
      · rintro c1 _ rfl
        rw [if_neg (fun z => c1 z.1)] at hx
        exact ih (k + 1) b (by omega) (by omega) hb hx
      · rintro c2 _ rfl
        rw [if_neg (fun z => absurd z.2.1 (by omega))] at hx
        exact ih (k + 1) b (by omega) (by omega) hb hx
      · have hk' : bsOk σ t k := Or.inr ⟨by omega, by omega, by simpa using c1, by simp; omega⟩
        rcases hbn with rfl | ⟨bn, rfl, hbn⟩
        · refine ⟨fun _ => ?_, fun c3 => absurd rfl c3⟩
          rintro _ rfl
          rw [if_pos ⟨c1, by omega, Or.inl rfl⟩] at hx
          exact ih (k + 1) k (by omega) (by omega) hk' hx
        · have b3 := hS bn
          have m1 := mul_bd b3.2.2.1 b3.2.2.2.1 b2.2.2.2.2.1 b2.2.2.2.2.2
          have m2 := mul_bd b2.2.2.1 b2.2.2.2.1 b3.2.2.2.2.1 b3.2.2.2.2.2
          simp (disch := first | decide | omega) only [h.R, h.Nt, h.kI, h.aT, iI_le, iI_in, iI_nat, iI_mul, Option.some.injEq, exists_eq_left', true_and, Int.toNat_natCast]
          simp only [Int.toNat_natCast] at hx
          refine ⟨fun c3 => absurd c3 (by omega), fun _ => ⟨by omega, by omega, by omega, by omega, ?_, ?_⟩⟩
          · rintro c4 _ rfl
            rw [if_neg (by rintro ⟨_, _, y | y⟩ <;> omega)] at hx
            exact ih (k + 1) bn (by omega) (by omega) hb hx
          · rintro c4 _ rfl
            rw [if_pos ⟨c1, by omega, Or.inr (by omega)⟩] at hx
            exact ih (k + 1) k (by omega) (by omega) hk' hx
  have key : ∀ (d : Nat) (σ : fG2) (S : fMS) (u : Nat), okT σ → RM F S m A σ → okS σ → (t : Int) < σ 4 0 → (u + d : Int) = σ 28 t → (∀ S', RM F S' m A (gvN t d σ) → post S' n) → wB_X4_gives_2 post m (iI t) (d + 1) S n (iI u) := by
    intro d; induction d with
    | zero =>
      intro σ S u hT h hS ht hu hp
      have q2 := hT.2.1; have b := hS t
      simp only [wB_X4_gives_2]
      simp (disch := first | decide | omega) only [h.s, h.mm, h.R, h.Nt, h.kI, h.aT, iI_le, iI_in, iI_nat, iI_1, iI_neg, iI_eq, iI_add, Option.some.injEq, exists_eq_left', true_and, Int.toNat_natCast]
      exact ⟨by omega, fun _ => hp S h, fun c => absurd c (by omega)⟩
    | succ d ih =>
      intro σ S u hT h hS ht hu hp
      have q1 := hT.1; have q2 := hT.2.1; have b := hS t
      rw [wB_X4_gives_2]
      simp (disch := first | decide | omega) only [h.s, h.mm, h.R, h.Nt, h.kI, h.aT, iI_le, iI_in, iI_nat, iI_1, iI_neg, iI_eq, iI_add, Option.some.injEq, exists_eq_left', true_and, Int.toNat_natCast]
      refine ⟨by omega, fun c => absurd c (by omega), fun c => ⟨_, inner σ S hT h hS u _ (by omega) (by omega) (fun S' h' => ?_) (nt1 σ) 1 (-1) (by unfold nt1; omega) (by omega) (Or.inl rfl) rfl⟩⟩
      have e28 : gv1 σ t 28 t = σ 28 t := by
        unfold gv1
        split
        · rfl
        · rename_i c
          refine up_nj (fun z => ?_)
          rcases bsS_ok hT (t : Int) with hb | hb
          · exact c hb
          · have := hT.2.2.2 (bsS σ t).toNat (by omega) (by omega)
            omega
      exact ih (gv1 σ t) S' (u + 1) (gv1_okT hT t) h' (gv1_okS hT hS t) (by rw [gv1_ne t (by decide)]; exact ht) (by rw [e28]; omega) hp
  have b := hS t
  exact ⟨_, key (σ 28 t).toNat σ S 0 hT h hS ht (by omega) hp⟩
end
