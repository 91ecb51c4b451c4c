section
variable {σ ρ : fG2} {j : Nat} {G : List Nat}
theorem stp_ne {g k : Nat} (h1 : g ≠ 10) (h2 : g ≠ 11) (h3 : g ≠ 17) (h4 : g ≠ 16) (h5 : g ≠ 18) (h6 : g ≠ 19) (h7 : g ≠ 20) : stF (stpF ρ G) j g k = ρ g k := by
  rw [stF_g, gF_ne h1 h2 h3]; unfold stB; rw [up_ne h7, up_ne h6, up_ne h4, stpF_ne h5]
theorem stp_17 (i : Nat) : stF (stpF ρ G) j 17 i = if i = j then 1 else ρ 17 i := by
  rw [stF_g, gF_17]; unfold stB; rw [up_ne (by decide), up_ne (by decide), up_ne (by decide), stpF_ne (by decide)]
theorem stp_19 (i : Nat) : stF (stpF ρ G) j 19 i = if i = j then ρ 20 0 else ρ 19 i := by
  rw [stF_g, gF_ne (by decide) (by decide) (by decide)]; unfold stB; rw [up_ne (by decide)]
  by_cases c : i = j
  · subst c; rw [up_at, if_pos rfl, stpF_ne (by decide)]
  · rw [up_nj c, if_neg c, up_ne (by decide), stpF_ne (by decide)]
theorem stp_20 : stF (stpF ρ G) j 20 0 = ρ 20 0 + 1 := by
  rw [stF_g, gF_ne (by decide) (by decide) (by decide)]; unfold stB; rw [up_at, stpF_ne (by decide)]
theorem stp_due (t : Nat) : dueS (stF (stpF ρ G) j) t = dueS ρ t :=
  due_c (stp_ne (by decide) (by decide) (by decide) (by decide) (by decide) (by decide) (by decide)) (stp_ne (by decide) (by decide) (by decide) (by decide) (by decide) (by decide) (by decide)) (fun k => stp_ne (by decide) (by decide) (by decide) (by decide) (by decide) (by decide) (by decide)) (fun k => stp_ne (by decide) (by decide) (by decide) (by decide) (by decide) (by decide) (by decide)) (fun k => stp_ne (by decide) (by decide) (by decide) (by decide) (by decide) (by decide) (by decide)) (fun k => stp_ne (by decide) (by decide) (by decide) (by decide) (by decide) (by decide) (by decide)) (fun k => stp_ne (by decide) (by decide) (by decide) (by decide) (by decide) (by decide) (by decide)) t
theorem stp_n : njN (stF (stpF ρ G) j) = njN ρ := by unfold njN; rw [stp_ne (by decide) (by decide) (by decide) (by decide) (by decide) (by decide) (by decide)]
theorem stp_D (hD : okD ρ) : okD (stF (stpF ρ G) j) := by
  unfold okD
  rw [stp_ne (g := 12) (by decide) (by decide) (by decide) (by decide) (by decide) (by decide) (by decide), stp_20]
  simp only [stp_17, stp_19]
  refine ⟨fun a b ha hb h1 h2 e => ?_, fun a ha h1 => ?_⟩
  · by_cases c1 : a = j
    · by_cases c2 : b = j
      · rw [c1, c2]
      · rw [if_pos c1, if_neg c2] at e
        rw [if_neg c2] at h2
        have := hD.2 b hb h2; omega
    · by_cases c2 : b = j
      · rw [if_neg c1, if_pos c2] at e
        rw [if_neg c1] at h1
        have := hD.2 a ha h1; omega
      · rw [if_neg c1, if_neg c2] at e
        rw [if_neg c1] at h1
        rw [if_neg c2] at h2
        exact hD.1 a b ha hb h1 h2 e
  · by_cases c1 : a = j
    · rw [if_pos c1]; omega
    · rw [if_neg c1]; rw [if_neg c1] at h1
      have := hD.2 a ha h1; omega
theorem stp_E (hE : okE ρ) : okE (stF (stpF ρ G) j) := by
  unfold okE
  rw [kids_c (σ := ρ) (fun k => stp_ne (by decide) (by decide) (by decide) (by decide) (by decide) (by decide) (by decide)) (fun k => stp_ne (by decide) (by decide) (by decide) (by decide) (by decide) (by decide) (by decide))]
  simp only [stp_ne (ρ := ρ) (G := G) (j := j) (g := 12) (by decide) (by decide) (by decide) (by decide) (by decide) (by decide) (by decide), stp_ne (ρ := ρ) (G := G) (j := j) (g := 13) (by decide) (by decide) (by decide) (by decide) (by decide) (by decide) (by decide)]
  exact hE
theorem stp_I (hi : inv ρ) (hj : (j : Int) < ρ 12 0) (hs : ρ 17 j = 0) : inv (stF (stpF ρ G) j) :=
  stF_inv (stp_inv hi) (by rw [stpF_ne (by decide)]; exact hj) (by rw [stpF_ne (by decide)]; exact hs)
theorem st_sec (hi : inv ρ) (hD : okD ρ) (hs : ρ 17 j = 0) {i : Nat} (hin : (i : Int) < ρ 12 0) (h : secP ρ i) : secP (stF (stpF ρ G) j) i := by
  have hne : i ≠ j := fun e => by have := h.1; rw [e, hs] at this; omega
  refine ⟨by rw [stp_17, if_neg hne]; exact h.1, ?_⟩
  have e13 : ∀ k, stF (stpF ρ G) j 13 k = ρ 13 k := fun k => stp_ne (by decide) (by decide) (by decide) (by decide) (by decide) (by decide) (by decide)
  have e14 : ∀ k, stF (stpF ρ G) j 14 k = ρ 14 k := fun k => stp_ne (by decide) (by decide) (by decide) (by decide) (by decide) (by decide) (by decide)
  rw [e13, stp_due, stp_n]
  refine Int.le_trans (Int.le_of_eq (fSum_cong _ _ (fun k _ hk => ?_))) h.2
  unfold secF
  rw [e13, e13, e14, stp_17, stp_19, stp_19, if_neg hne]
  by_cases c : k = j
  · subst c
    have := hD.2 i hin h.1
    rw [if_pos rfl, if_pos rfl, if_neg (fun z => by have := z.2.2; omega), if_neg (fun z => by have := z.1; omega)]
  · rw [if_neg c, if_neg c]
/-- how many are secure -/
noncomputable def secG (σ : fG2) : Nat → Int := fun i => haveI := Classical.propDecidable; if secP σ i then 1 else 0
noncomputable def secN (σ : fG2) : Int := fSum (secG σ) 0 (njN σ)
theorem secG_b (σ : fG2) (i : Nat) : 0 ≤ secG σ i ∧ secG σ i ≤ rcF σ i := by
  unfold secG rcF
  by_cases c : secP σ i
  · rw [if_pos c, if_pos c.1]; omega
  · rw [if_neg c]; split <;> omega
theorem secN_b (σ : fG2) : 0 ≤ secN σ ∧ secN σ ≤ rcS σ := by
  have h1 := fSum_nn (f := secG σ) (njN σ) 0 (fun i _ _ => (secG_b σ i).1)
  have h2 := fSum_mono (f := secG σ) (g := rcF σ) (c := 1) (njN σ) 0 (fun i _ _ => by have := (secG_b σ i).2; omega)
  unfold secN rcS; omega
noncomputable def mes (σ : fG2) : Int := (40 - secN σ) * 41 + (40 - rcS σ)
theorem mes_b (hi : inv σ) : 0 ≤ mes σ ∧ mes σ ≤ 1680 := by
  have h1 := secN_b σ; have h2 := rc_b hi
  unfold mes; omega
theorem secN_le (e : njN ρ = njN σ) (h : ∀ i, i < 0 + njN σ → secP σ i → secP ρ i) : secN σ ≤ secN ρ := by
  unfold secN
  rw [e]
  have := fSum_mono (f := secG σ) (g := secG ρ) (c := 1) (njN σ) 0 (fun i _ hi => by
    unfold secG
    by_cases c : secP σ i
    · rw [if_pos c, if_pos (h i hi c)]; omega
    · rw [if_neg c]; split <;> omega)
  omega
theorem secN_lt {j : Nat} (e : njN ρ = njN σ) (h : ∀ i, i < 0 + njN σ → secP σ i → secP ρ i) (hj : j < 0 + njN σ) (h0 : ¬ secP σ j) (h1 : secP ρ j) : secN σ + 1 ≤ secN ρ := by
  unfold secN
  rw [e]
  have h2 := fSum_ge (f := fun i => secG ρ i - secG σ i) (njN σ) 0 j (fun i _ hi => by
    show 0 ≤ secG ρ i - secG σ i
    unfold secG
    by_cases c : secP σ i
    · rw [if_pos c, if_pos (h i hi c)]; omega
    · rw [if_neg c]; split <;> omega) (by omega) hj
  have h3 : secG ρ j - secG σ j = 1 := by unfold secG; rw [if_pos h1, if_neg h0]; rfl
  have h4 : ∀ d k, fSum (fun i => secG ρ i - secG σ i) k d = fSum (secG ρ) k d - fSum (secG σ) k d := by
    intro d; induction d with
    | zero => intro k; rfl
    | succ d ih => intro k; simp only [fSum]; rw [ih]; omega
  rw [h4] at h2
  omega
theorem nxL_ok : ∀ (l : List Nat), nxL σ l = some j → ∃ t ∈ l, (fstS σ t).toNat = j ∧ canX σ j := by
  intro l; induction l with
  | nil => intro h; simp [nxL] at h
  | cons t l ih =>
    intro h
    unfold nxL at h
    split at h
    · rename_i c
      injection h with h
      exact ⟨t, List.mem_cons_self, h, by rw [← h]; exact c⟩
    · obtain ⟨x, h1, h2⟩ := ih h
      exact ⟨x, List.mem_cons_of_mem _ h1, h2⟩
theorem nxS_ok (hi : inv σ) (h : nxS σ = some j) : (j : Int) < σ 12 0 ∧ σ 17 j = 0 ∧ canX σ j ∧ kidsN σ (σ 13 j) = 0 := by
  obtain ⟨t, h1, h2, h3⟩ := nxL_ok _ h
  have ht := lnS_mem hi.T h1
  obtain ⟨i, i1, i2, i3, i4⟩ := fstS_ok hi.J t ht.2.2
  have e : i = j := by omega
  subst e
  exact ⟨i2, i4, h3, by rw [i3]; exact ht.2.1⟩
end
