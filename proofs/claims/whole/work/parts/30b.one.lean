section
variable {F S : fMS} {m n : Nat} {A : Nat → Nat} {σ τ : fG2}
theorem nxL_y {t j : Nat} {l : List Nat} (e : fstS σ t = j) (h : canX σ j) : nxL σ (t :: l) = some j := by
  have e2 : (fstS σ t).toNat = j := by omega
  unfold nxL; rw [if_pos (by rw [e2]; exact h), e2]
theorem nxL_n {t j : Nat} {l : List Nat} (e : fstS σ t = j) (h : ¬ canX σ j) : nxL σ (t :: l) = nxL σ l := by
  have e2 : (fstS σ t).toNat = j := by omega
  rw [nxL, if_neg (by rw [e2]; exact h)]
theorem gon_rf (hi : inv σ) (hB : okB σ) : gon σ σ [] := ⟨eqX.rf, hi, hB, List.nodup_nil, fun g hg => by simp at hg, fun i => by simp⟩
theorem stp_e1 {j : Nat} (c : canP σ j) (h : eqM σ τ) : eqM (stpS σ j) (stF (stpF τ []) j) := by
  unfold stpS gnS; rw [if_pos c]; exact ((h.hts []).stp []).st j
theorem stp_e2 {ρ : fG2} {j : Nat} {G : List Nat} (c : ¬ canP σ j) (h : eqM σ τ) (hi : inv τ) (hB : okB τ) (hg : gon τ ρ G) (e : (vcS σ j).1 = G) : eqM (stpS σ j) (stF (stpF ρ G) j) := by
  unfold stpS gnS; rw [if_neg c, e]
  have h1 : gon τ (hts τ G) G := by
    have := gon_hts hi hB G [] τ (gon_rf hi hB) (by simpa using hg.2.2.2.1) hg.2.2.2.2.1
    simpa using this
  exact (((h.hts G).tr (eqM.og (gon_eq h1 hg))).stp G).st j
theorem sp_servesOne {c : Int} (hi : inv σ) (hB : okB σ) (hS : okS σ) (hC : okC c σ) (hc : c < 100000000) (h : RM F S m A σ) {post : Int32 → fMS → Nat → Prop}
    (p0 : nxS σ = none → ∀ (S' : fMS) (τ : fG2), RM F S' m A τ → eqM σ τ → okB τ → post (iI 0) S' n)
    (p1 : ∀ j, nxS σ = some j → ∀ (S' : fMS) (τ : fG2), RM F S' m A τ → eqM (stpS σ j) τ → okB τ → post (iI 1) S' n) : wp_X4_servesOne S n m post := by
  obtain ⟨l, hl⟩ : ∃ l, l = lnS σ := ⟨_, rfl⟩
  have key : ∀ (d k : Nat) (S : fMS) (τ : fG2), k + d = l.length → RM F S m A τ → eqM σ τ → okB τ → lnR τ l → nxL σ (l.drop k) = nxS σ → wB_X4_servesOne_6 post m (d + 1) S n (iI k) := by
    intro d; induction d with
    | zero =>
      intro k S τ hk h he hB hr hx
      have l10 := hr.2.1
      have e30 := hr.1
      rw [List.drop_eq_nil_of_le (by omega)] at hx
      simp only [wB_X4_servesOne_6]
      simp (disch := first | decide | omega) only [h.s, h.mm, iI_le, true_and, e30]
      exact ⟨fun _ => p0 hx.symm S τ h he hB, fun c => absurd c (by omega)⟩
    | succ d ih =>
      intro k S τ hk h he hB hr hx
      have l10 := hr.2.1
      have e30 := hr.1
      have e29 := hr.2.2.1 k (by omega)
      have hd : l.drop k = l[k] :: l.drop (k + 1) := List.drop_eq_getElem_cons (by omega)
      have hgd : l.getD k 0 = l[k] := by rw [List.getD_eq_getElem?_getD, List.getElem?_eq_getElem (by omega)]; rfl
      rw [hgd] at e29
      obtain ⟨t, ht⟩ : ∃ t, t = l[k] := ⟨_, rfl⟩
      rw [← ht] at hd e29
      have htm : t ∈ lnS σ := by rw [← hl, ht]; exact List.getElem_mem _
      have ht3 := lnS_mem hi.T htm
      have hq := hi.T.2.1
      obtain ⟨j, j1, j2, j3, j4⟩ := fstS_ok hi.J t ht3.2.2
      have hj12 := hi.J.2.1
      have hiτ := he.I hi
      rw [hd] at hx
      rw [wB_X4_servesOne_6]
      simp (disch := first | decide | omega) only [h.s, h.mm, h.R, h.Nt, h.kI, h.aT, iI_le, iI_in, iI_nat, true_and, Option.some.injEq, exists_eq_left', Int.toNat_natCast, e30, e29]
      refine ⟨fun c => absurd c (by omega), fun _ => ⟨by omega, sp_firstJob h hB hiτ.J (by omega) (hiτ.W t) ?_⟩⟩
      rw [he.K.fst, j1]
      have hw := h.wS 32 0 rfl
      have hew : eqM σ (up τ 32 0 0) := he.tr (eqM.og (fun g k _ b => up_ne b))
      have hBw : okB (up τ 32 0 0) := hB.w (by omega)
      have hiw := hew.I hi
      have ej : (j : Int) < up τ 32 0 0 12 0 := by rw [hew 12 0 (by decide) (by decide) (by decide) (by decide)]; exact j2
      have es : up τ 32 0 0 17 j = 0 := by rw [hew 17 j (by decide) (by decide) (by decide) (by decide)]; exact j4
      refine sp_canStart hiw.T hiw.J hBw hiw.P hiw.U hiw.c hw ej (fun c1 => ?_) (fun c1 => ?_)
      · have c1 := (hew.K.can j).mp c1
        rw [nxL_y j1 (Or.inl c1)] at hx
        refine ⟨fun _ => ?_, fun z => absurd z (by decide)⟩
        refine sp_stop (G := []) hiw hBw hw ⟨up_at, by simp, fun i hi => by simp at hi⟩ List.nodup_nil (fun g hg => by simp at hg) ej (fun S' h' => ?_)
        exact p1 j hx.symm S' _ h' (stp_e1 c1 hew) (stp_B hiw hBw (hew.C hC) hc ej es)
      · have c1 := fun z => c1 ((hew.K.can j).mpr z)
        refine ⟨fun z => absurd rfl z, fun _ => ?_⟩
        have hmk := mkQ_cong hew.K hew.e28 j
        have hvc := vcS_cong hew.K hew.e28 j
        refine sp_makesRoom hiw hBw hw ej (fun q1 q2 S' ρ h' hg hr' => ?_) (fun q S' ρ h' hg _ => ?_)
        · rw [hvc] at q2 hg hr'
          rw [nxL_y j1 (Or.inr ⟨hmk.mp q1, q2⟩)] at hx
          refine ⟨fun z => absurd z (by decide), fun _ => ?_⟩
          have e12 : ρ 12 0 = up τ 32 0 0 12 0 := hg.1 12 0 (by decide) (by decide) (by decide) (by decide) (by decide)
          have e17 : ρ 17 j = 0 := by rw [hg.2.2.2.2.2, es]; split <;> rfl
          refine sp_stop hg.2.1 hg.2.2.1 h' hr' hg.2.2.2.1 (fun g hgm => by rw [e12]; exact (hg.2.2.2.2.1 g hgm).1) (by rw [e12]; exact ej) (fun S' h' => ?_)
          have hCρ : okC c ρ := by
            have := hew.C hC
            unfold okC; simp only [hg.1 20 _ (by decide) (by decide) (by decide) (by decide) (by decide), hg.1 18 _ (by decide) (by decide) (by decide) (by decide) (by decide)]; exact this
          exact p1 j hx.symm S' _ h' (stp_e2 c1 hew hiw hBw hg rfl) (stp_B hg.2.1 hg.2.2.1 hCρ hc (by rw [e12]; exact ej) e17)
        · rw [hmk, hvc] at q
          rw [nxL_n j1 (fun z => z.elim c1 q)] at hx
          refine ⟨fun _ => ?_, fun z => absurd rfl z⟩
          simp only [iI_1, iI_add]
          rintro _ rfl
          have hn := gon_nil hiw hg
          have heρ : eqM σ ρ := hew.tr (eqM.og hn)
          have er : ∀ g k : Nat, g ≠ 31 → g ≠ 32 → ρ g k = τ g k := fun g k a b => (hn g k a b).trans (up_ne b)
          refine ih (k + 1) S' ρ (by omega) h' heρ hg.2.2.1 ⟨by rw [er 30 0 (by decide) (by decide)]; exact hr.1, hr.2.1, fun i hi => by rw [er 29 i (by decide) (by decide)]; exact hr.2.2.1 i hi, hr.2.2.2⟩ hx
  unfold wp_X4_servesOne
  rw [h.mm, true_and]
  exact sp_laysLine hi.T hi.J hB hS hi.V hi.W h (fun S' τ h' he' hB' hr' => ⟨_, key l.length 0 S' τ (by omega) h' (eqM.of he') hB' (by rw [hl]; exact hr') (by rw [hl]; rfl)⟩)
end
