section
variable {F S : fMS} {m n : Nat} {A : Nat → Nat} {σ : fG2}
theorem sp_laysLine (hT : okT σ) (hJ : okJ σ) (hB : okB σ) (hS : okS σ) (hV : okV σ) (hW : okW σ) (h : RM F S m A σ) {post : fMS → Nat → Prop} (hp : ∀ (S' : fMS) (τ : fG2), RM F S' m A τ → eqL σ τ → okB τ → lnR τ (lnS σ) → post S' n) : wp_X4_laysLine S n m post := by
  have q1 := hT.1; have q2 := hT.2.1
  -- one team put into its place
  have place : ∀ (t : Nat) (l : List Nat) (K7 : fMS → Nat → Int32 → Prop), t < 10 → l.length ≤ 9 → (∀ x ∈ l, x < 10) →
      (∀ (S' : fMS) (τ : fG2), RM F S' m A τ → eqL σ τ → okB τ → lnR τ (insAt l (atB σ l t l.length) t) → K7 S' n (iI (t + 1))) →
      ∀ (a : Nat) (S : fMS) (τ : fG2), RM F S m A τ → eqL σ τ → okB τ → τ 30 0 = l.length → (∀ i, i < a → τ 29 i = l.getD i 0) → (∀ i, a ≤ i → i < l.length → τ 29 (i + 1) = l.getD i 0) → a ≤ l.length → atB σ l t a = atB σ l t l.length →
        wB_X4_laysLine_40 post K7 m (a + 1) S n (iI t) (iI a) := by
    intro t l K7 ht hl hl2 hK
    have put : ∀ (a : Nat) (S : fMS) (τ : fG2), RM F S m A τ → eqL σ τ → okB τ → τ 30 0 = l.length → (∀ i, i < a → τ 29 i = l.getD i 0) → (∀ i, a ≤ i → i < l.length → τ 29 (i + 1) = l.getD i 0) → a ≤ l.length → a = atB σ l t l.length →
        wB_X4_laysLine_80 post K7 m S n (iI t) (iI a) := by
      intro a S τ h he hB h30 hlo hhi ha hx
      have b30 := hB 30 0
      have h1 := h.wA 29 a t rfl (by decide)
      have h2 := h1.wS 30 (up τ 29 a t 30 0 + 1) rfl
      have e30 : up τ 29 a t 30 0 = τ 30 0 := up_ne (by decide)
      rw [e30] at h2
      unfold wB_X4_laysLine_80
      simp (disch := first | decide | omega) only [h.s, h.mm, h.R, h.Nt, h.kI, iI_in, iI_nat, iI_1, iI_add, Option.some.injEq, exists_eq_left', true_and, Int.toNat_natCast, h1.s, e30]
      refine ⟨by omega, ?_⟩
      rintro _ rfl
      refine hK _ _ h2 ((he.tr (eqL.up (Or.inl rfl))).tr (eqL.up (Or.inr rfl))) ((hB.w (by omega)).w (by omega)) ⟨?_, ?_, ?_, ?_⟩
      · rw [up_at, insAt_len (by omega), h30]; omega
      · rw [insAt_len (by omega)]; omega
      · intro i hi
        rw [insAt_len (by omega)] at hi
        rw [← hx, insAt_get ha, up_ne (by decide)]
        by_cases c1 : i = a
        · subst c1; rw [up_at, if_neg (by omega), if_pos rfl]
        · rw [up_nj c1]
          by_cases c2 : i < a
          · rw [if_pos c2]; exact hlo i c2
          · rw [if_neg c2, if_neg c1]
            have := hhi (i - 1) (by omega) (by omega)
            rw [show i - 1 + 1 = i by omega] at this
            exact this
      · intro x hx'
        unfold insAt at hx'
        rcases List.mem_append.mp hx' with z | z
        · exact hl2 x (List.mem_of_mem_take z)
        · rcases List.mem_cons.mp z with z | z
          · rw [z]; exact ht
          · exact hl2 x (List.mem_of_mem_drop z)
    intro a
    induction a with
    | zero =>
      intro S τ h he hB h30 hlo hhi ha hx
      simp only [wB_X4_laysLine_40]
      simp (disch := first | decide | omega) only [iI_0, iI_le]
      exact ⟨fun _ => put 0 S τ h he hB h30 hlo hhi ha hx, fun c => absurd c (by decide)⟩
    | succ a ih =>
      intro S τ h he hB h30 hlo hhi ha hx
      have ex : (((a + 1 : Nat) : Int)) - 1 = (a : Int) := by omega
      have la := hlo a (by omega)
      have lx : l.getD a 0 < 10 := by
        rw [List.getD_eq_getElem?_getD, List.getElem?_eq_getElem (by omega)]
        exact hl2 _ (List.getElem_mem _)
      rw [wB_X4_laysLine_40]
      simp (disch := first | decide | omega) only [h.mm, h.R, h.Nt, h.kI, h.aT, iI_0, iI_1, iI_le, iI_sub, ex, iI_in, iI_nat, Option.some.injEq, exists_eq_left', true_and, Int.toNat_natCast, la]
      refine ⟨fun c => absurd c (by omega), fun _ => ⟨by omega, ?_⟩⟩
      refine sp_isAhead h hB (he.s hS) (he.K.V hV) ht lx (fun c => ?_) (fun c => ?_)
      · have c := (he.K.ah _ _).mp c
        simp only [atB] at hx
        rw [if_pos c] at hx
        refine ⟨fun z => absurd z (by decide), fun _ => ⟨by omega, by omega, ?_⟩⟩
        have h1 := h.wA 29 (a + 1) (l.getD a 0 : Nat) rfl (by decide)
        have en : iI ((a + 1 : Nat) : Int) + -iI 1 = iI a := by rw [iI_neg, iI_add, show ((a + 1 : Nat) : Int) + -1 = a by omega]
        rw [en]
        rintro _ rfl
        refine ih _ _ h1 (he.tr (eqL.up (Or.inl rfl))) (hB.w (by omega)) (by rw [up_ne (by decide)]; exact h30) (fun i hi => ?_) (fun i h1 h2 => ?_) (by omega) hx
        · rw [up_nj (by omega)]; exact hlo i (by omega)
        · by_cases e : i = a
          · subst e; rw [up_at]
          · rw [up_nj (by omega)]; exact hhi i (by omega) h2
      · have c := fun z => c ((he.K.ah _ _).mpr z)
        simp only [atB] at hx
        rw [if_neg c] at hx
        exact ⟨fun _ => put (a + 1) S τ h he hB h30 hlo hhi ha hx, fun z => absurd rfl z⟩
  have key : ∀ (d t : Nat) (l : List Nat) (S : fMS) (τ : fG2), RM F S m A τ → eqL σ τ → okB τ → lnR τ l → l.length ≤ t → (t + d : Int) = σ 4 0 → lnF σ t d l = lnS σ → wB_X4_laysLine_7 post m (d + 1) S n (iI t) := by
    intro d; induction d with
    | zero =>
      intro t l S τ h he hB hl hlt ht hx
      have e4 : τ 4 0 = σ 4 0 := he 4 0 (by decide) (by decide)
      simp only [lnF] at hx
      simp only [wB_X4_laysLine_7]
      simp (disch := first | decide | omega) only [h.s, h.mm, iI_le, true_and, e4]
      exact ⟨fun _ => hp S τ h he hB (hx ▸ hl), fun c => absurd c (by omega)⟩
    | succ d ih =>
      intro t l S τ h he hB hl hlt ht hx
      have e4 : τ 4 0 = σ 4 0 := he 4 0 (by decide) (by decide)
      simp only [lnF] at hx
      rw [wB_X4_laysLine_7]
      simp (disch := first | decide | omega) only [h.s, h.mm, iI_le, true_and, e4, iI_1, iI_add]
      refine ⟨fun c => absurd c (by omega), fun c => sp_isLeaf h (he.K.T hT) (by omega) ?_⟩
      rw [he.K.kids]
      have b := @b01_b (kidsN σ t = 0) _
      simp (disch := omega) only [iI_0, iI_eq, b01_0]
      refine ⟨?_, fun c1 => ?_⟩
      · rintro c1 _ rfl
        rw [if_neg (fun z => c1 z.1)] at hx
        exact ih (t + 1) l S τ h he hB hl (by omega) (by omega) hx
      · have c1 := Classical.not_not.mp c1
        refine sp_firstJob h hB (he.K.J hJ) (by omega) (he.K.W hW t) ?_
        rw [he.K.fst]
        have bf := fst_b hJ t (σ 12 0).toNat 0 (by have := hJ.1; have := hJ.2.1; omega)
        have bf : -1 ≤ fstS σ t ∧ fstS σ t < 512 := bf
        simp (disch := omega) only [iI_neg, iI_eq]
        refine ⟨fun c2 => ?_, ?_⟩
        · rintro _ rfl
          rw [if_pos ⟨c1, c2⟩] at hx
          have hl30 := hl.1
          rw [hl30]
          refine ⟨_, place t l _ (by omega) (by omega) hl.2.2.2 (fun S' τ' h' he' hB' hl' => ?_) l.length S τ h he hB hl.1 hl.2.2.1 (fun i z1 z2 => absurd z1 (by omega)) (Nat.le_refl _) rfl⟩
          refine ih (t + 1) _ S' τ' h' he' hB' hl' ?_ (by omega) hx
          rw [insAt_len (atB_le σ l t _)]; omega
        · rintro c2 _ rfl
          rw [if_neg (fun z => z.2 c2)] at hx
          exact ih (t + 1) l S τ h he hB hl (by omega) (by omega) hx
  unfold wp_X4_laysLine
  rw [h.mm, true_and]
  have h1 := h.wS 30 0 rfl
  exact ⟨_, key (σ 4 0).toNat 0 [] _ _ h1 (eqL.up (Or.inr rfl)) (hB.w (by omega)) ⟨by rw [up_at]; rfl, by simp, by intro i hi; simp at hi, by intro x hx; simp at hx⟩ (by simp) (by omega) rfl⟩
end
