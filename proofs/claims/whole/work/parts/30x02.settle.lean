-- ===== what serving leaves as it is; settled =====
section
variable {σ τ ρ ψ : fG2} {j : Nat}
theorem dlS_42w (hT : okT σ) (h4 : ρ 4 0 = σ 4 0) (h5 : ∀ k, ρ 5 k = σ 5 k) (h6 : ∀ k, ρ 6 k = σ 6 k) (h2 : ρ 2 0 = σ 2 0) (h41 : ∀ k : Nat, (k : Int) < σ 4 0 → ρ 41 k = dmS σ k) {k : Nat} (hk : (k : Int) < σ 4 0) : dlS ρ 42 k = lyS σ 28 k := by
  have q := hT.1
  have e4 : ρ 4 0 = σ 4 0 := h4
  have hs : simD 0 (up ρ 42 0 (if ρ 41 0 < ρ 2 0 then ρ 41 0 else ρ 2 0)) (lyB σ) := by
    refine ⟨lyB_T hT, ?_, fun k => ?_, fun k => ?_, fun k hk => ?_, fun k hk hc => ?_, fun k hk k1 hc => ?_⟩
    · rw [lyB_ne (by decide) (by decide), up_ne (by decide), e4]
    · rw [lyB_ne (by decide) (by decide), up_ne (by decide), h5 k]
    · rw [lyB_ne (by decide) (by decide), up_ne (by decide), h6 k]
    · rw [up_ne (by decide), e4] at hk
      rw [up_ne (by decide), lyB_27 hk]; exact h41 k hk
    · rw [up_ne (by decide), e4] at hk
      rw [up_ne (by decide), h5 k] at hc
      have k0 : k = 0 := by
        rcases hc with z | z
        · exact z
        · rcases Nat.eq_zero_or_pos k with y | y
          · exact y
          · have := hT.2.2.2 k y hk; omega
      subst k0
      rw [up_at, lyB_0, h41 0 hk, h2]
      by_cases c : σ 2 0 ≤ dmS σ 0
      · rw [if_pos c]; split <;> omega
      · rw [if_neg c, if_pos (by omega)]
    · rw [up_ne (by decide), e4] at hk
      exact lyB_28 hk k1
  have e4' : up ρ 42 0 (if ρ 41 0 < ρ 2 0 then ρ 41 0 else ρ 2 0) 4 0 = ρ 4 0 := up_ne (by decide)
  have hn := simD_n (ρ 4 0).toNat 0 _ _ (by rw [e4']; omega) hs
  obtain ⟨-, -, -, -, -, a, -⟩ := hn
  have := a k (by rw [dsN_ne (by decide) (by decide), e4', e4]; exact hk) (by
    right
    rw [dsN_ne (by decide) (by decide), up_ne (by decide), h5 k]
    have := hT.p k hk
    by_cases e : k = 0
    · subst e; rw [hT.2.2.1]; omega
    · have := hT.2.2.2 k (by omega) hk; omega)
  unfold dlS
  rw [this, lyS_B', e4]

theorem ly2_out {k : Nat} : ∀ (d t : Nat) (σ : fG2), okT σ → σ 4 0 ≤ k → ly2 t d σ 28 k = σ 28 k := by
  intro d; induction d with
  | zero => intro t σ _ _; rfl
  | succ d ih =>
    intro t σ hT hk
    have eg := gvN_g (t := (t : Int)) (by omega) (σ 28 t).toNat σ hT
    have h1 := ih (t + 1) (gvN t (σ 28 t).toNat σ) ((gvN_K t _ σ).T hT) (by rw [gvN_ne t (by decide)]; exact hk)
    have h2 : ly2 t (d + 1) σ 28 k = ly2 (t + 1) d (gvN t (σ 28 t).toNat σ) 28 k := rfl
    rw [h2, h1, eg, sF_at, gN_out (fun z => by have := (kdl_mem.mp z).1; omega)]
theorem lyS_out (hT : okT σ) {k : Nat} (hk : σ 4 0 ≤ k) : lyS σ 28 k = σ 28 k := by
  have n0 := hT.1
  have e : lyB σ 28 k = σ 28 k := by
    unfold lyB; rw [up_nj (by omega)]; unfold ly1; rw [if_neg (by omega), if_neg (by omega)]
  rw [lyS_B', ly2_out _ _ _ (lyB_T hT) (by rw [lyB_ne (by decide) (by decide)]; exact hk), e]
theorem lyS28_c (hT : okT σ) (hT2 : okT τ) (h4 : τ 4 0 = σ 4 0) (h5 : ∀ k, τ 5 k = σ 5 k) (h6 : ∀ k, τ 6 k = σ 6 k) (h2 : τ 2 0 = σ 2 0) (hd : ∀ k : Nat, (k : Int) < σ 4 0 → dmS τ k = dmS σ k) (h28 : ∀ k : Nat, σ 4 0 ≤ k → τ 28 k = σ 28 k) (k : Nat) : lyS τ 28 k = lyS σ 28 k := by
  by_cases c : (k : Int) < σ 4 0
  · obtain ⟨ρ, hρ⟩ : ∃ ρ : fG2, ρ = fun g k => if g = 41 then dmS σ k else σ g k := ⟨_, rfl⟩
    have r : ∀ g k, g ≠ 41 → ρ g k = σ g k := fun g k hg => by rw [hρ]; exact if_neg hg
    have r41 : ∀ k, ρ 41 k = dmS σ k := fun k => by rw [hρ]; exact if_pos rfl
    have a := dlS_42w (σ := σ) (ρ := ρ) hT (r 4 0 (by decide)) (fun k => r 5 k (by decide)) (fun k => r 6 k (by decide)) (r 2 0 (by decide)) (fun k _ => r41 k) c
    have b := dlS_42w (σ := τ) (ρ := ρ) hT2 (by rw [r 4 0 (by decide), h4]) (fun k => by rw [r 5 k (by decide), h5]) (fun k => by rw [r 6 k (by decide), h6]) (by rw [r 2 0 (by decide), h2]) (fun k hk => by rw [r41, hd k (by omega)]) (k := k) (by omega)
    rw [← a, ← b]
  · rw [lyS_out hT (by omega), lyS_out hT2 (by omega)]; exact h28 k (by omega)
/-- what leaves run and wait for in sum -/
def lfE (σ τ : fG2) : Prop := ∀ k : Nat, kidsN σ k = 0 → τ 11 k + τ 10 k = σ 11 k + σ 10 k
theorem dm_lf (h4 : ∀ k, τ 4 k = σ 4 k) (h5 : ∀ k, τ 5 k = σ 5 k) (h7 : ∀ k, τ 7 k = σ 7 k) (hl : lfE σ τ) (k : Nat) : dmS τ k = dmS σ k := by
  have hk := kids_c h4 h5
  have hn : nt1 τ = nt1 σ := by unfold nt1; rw [h4]
  have key : ∀ d t : Nat, dmF τ d t = dmF σ d t := by
    intro d; induction d with
    | zero => intro t; rfl
    | succ d ih =>
      intro t
      have e : (if kidsN τ t = 0 then τ 11 t + τ 10 t else 0) = (if kidsN σ t = 0 then σ 11 t + σ 10 t else 0) := by
        rw [hk]
        by_cases c : kidsN σ t = 0
        · rw [if_pos c, if_pos c]; exact hl t c
        · rw [if_neg c, if_neg c]
      simp only [dmF, e, hn, h5, h7, ih]
  exact key 11 k
theorem gF_lf {s w u : Int} (hT : okT σ) (hJ : okJ σ) (hj : (j : Int) < σ 12 0) (hw : w + u = 0) : lfE σ (gF σ j s w u) := by
  intro k hk
  have bj := hJ.2.2 j hj
  have hl := chS_leaf hT (t := σ 13 j) (by omega) (by omega) (k := k) hk
  rw [gF_11, gF_10 k (by omega)]
  by_cases c : (k : Int) = σ 13 j
  · rw [if_pos (by omega), if_pos (hl.mpr c)]; omega
  · rw [if_neg (by omega), if_neg (fun z => c (hl.mp z))]
theorem hts_lf : ∀ (G : List Nat) (σ : fG2), okT σ → okJ σ → (∀ g ∈ G, (g : Int) < σ 12 0) → lfE σ (hts σ G) := by
  intro G; induction G with
  | nil => intro σ _ _ _ k _; rfl
  | cons g G ih =>
    intro σ hT hJ hG
    have ne : ∀ f i, f ≠ 10 → f ≠ 11 → f ≠ 17 → htF σ g f i = σ f i := fun f i a b c => by rw [htF_g]; exact gF_ne a b c
    have hT' : okT (htF σ g) := by unfold okT; simp only [ne 4 _ (by decide) (by decide) (by decide), ne 5 _ (by decide) (by decide) (by decide)]; exact hT
    have hJ' : okJ (htF σ g) := by unfold okJ; simp only [ne 12 _ (by decide) (by decide) (by decide), ne 13 _ (by decide) (by decide) (by decide), ne 4 _ (by decide) (by decide) (by decide), ne 14 _ (by decide) (by decide) (by decide), ne 15 _ (by decide) (by decide) (by decide)]; exact hJ
    have h1 := ih (htF σ g) hT' hJ' (fun x hx => by rw [ne 12 0 (by decide) (by decide) (by decide)]; exact hG x (List.mem_cons_of_mem _ hx))
    have h2 : lfE σ (htF σ g) := by rw [htF_g]; exact gF_lf hT hJ (hG g List.mem_cons_self) (by omega)
    intro k hk
    have ek : kidsN (htF σ g) = kidsN σ := kids_c (fun k => ne 4 k (by decide) (by decide) (by decide)) (fun k => ne 5 k (by decide) (by decide) (by decide))
    exact (h1 k (by rw [ek]; exact hk)).trans (h2 k hk)
theorem vcF_lt (t sz : Int) : ∀ (f : Nat) (σ : fG2), inv σ → ∀ g ∈ (vcF t sz f σ).1, (g : Int) < σ 12 0 := by
  intro f; induction f with
  | zero => intro σ _ g hg; exact absurd hg List.not_mem_nil
  | succ f ih =>
    intro σ hi g hg
    simp only [vcF] at hg
    split at hg
    · exact absurd hg List.not_mem_nil
    · split at hg
      · exact absurd hg List.not_mem_nil
      · rename_i c2
        have lo := (loS_ok hi.J t).resolve_left c2
        obtain ⟨i, hj⟩ : ∃ i : Nat, loS σ t = i := ⟨(loS σ t).toNat, by omega⟩
        rw [hj] at lo hg
        simp only [Int.toNat_natCast] at lo hg
        rcases List.mem_cons.mp hg with z | z
        · rw [z]; exact lo.2.1
        · have := ih (htF σ i) (htF_inv hi lo.2.1 lo.2.2.1) g z
          rw [htF_g, gF_ne (by decide) (by decide) (by decide)] at this; exact this
theorem gn_lt (hi : inv σ) {g : Nat} (hg : g ∈ gnS σ j) : (g : Int) < σ 12 0 := by
  unfold gnS at hg
  by_cases c : canP σ j
  · rw [if_pos c] at hg; exact absurd hg List.not_mem_nil
  · rw [if_neg c] at hg; exact vcF_lt _ _ _ _ hi g hg
theorem stpS_lf (hi : inv σ) (hj : (j : Int) < σ 12 0) : lfE σ (stpS σ j) := by
  have h1 := hts_lf (gnS σ j) σ hi.T hi.J (fun g hg => gn_lt hi hg)
  obtain ⟨τ, hτ⟩ : ∃ τ, τ = stB (stpF (hts σ (gnS σ j)) (gnS σ j)) j := ⟨_, rfl⟩
  have ne : ∀ f i, f ≠ 10 → f ≠ 11 → f ≠ 17 → f ≠ 18 → f ≠ 16 → f ≠ 19 → f ≠ 20 → τ f i = σ f i := fun f i a b c d e g h => by
    rw [hτ]; unfold stB; rw [up_ne h, up_ne g, up_ne e, stpF_ne d, hts_ne a b c]
  have e14 : (stpF (hts σ (gnS σ j)) (gnS σ j)) 14 j = σ 14 j := by rw [stpF_ne (by decide), hts_ne (by decide) (by decide) (by decide)]
  have es : stpS σ j = gF τ j 1 (-(σ 14 j)) (σ 14 j) := by unfold stpS; rw [stF_g, hτ, e14]
  have hT' : okT τ := by unfold okT; simp only [ne 4 _ (by decide) (by decide) (by decide) (by decide) (by decide) (by decide) (by decide), ne 5 _ (by decide) (by decide) (by decide) (by decide) (by decide) (by decide) (by decide)]; exact hi.T
  have hJ' : okJ τ := by unfold okJ; simp only [ne 12 _ (by decide) (by decide) (by decide) (by decide) (by decide) (by decide) (by decide), ne 13 _ (by decide) (by decide) (by decide) (by decide) (by decide) (by decide) (by decide), ne 4 _ (by decide) (by decide) (by decide) (by decide) (by decide) (by decide) (by decide), ne 14 _ (by decide) (by decide) (by decide) (by decide) (by decide) (by decide) (by decide), ne 15 _ (by decide) (by decide) (by decide) (by decide) (by decide) (by decide) (by decide)]; exact hi.J
  have h2 : lfE τ (stpS σ j) := by rw [es]; exact gF_lf hT' hJ' (by rw [ne 12 0 (by decide) (by decide) (by decide) (by decide) (by decide) (by decide) (by decide)]; exact hj) (by omega)
  have ek : kidsN τ = kidsN σ := kids_c (fun k => ne 4 k (by decide) (by decide) (by decide) (by decide) (by decide) (by decide) (by decide)) (fun k => ne 5 k (by decide) (by decide) (by decide) (by decide) (by decide) (by decide) (by decide))
  intro k hk
  have e10 : τ 10 k = hts σ (gnS σ j) 10 k := by rw [hτ]; unfold stB; rw [up_ne (by decide), up_ne (by decide), up_ne (by decide), stpF_ne (by decide)]
  have e11 : τ 11 k = hts σ (gnS σ j) 11 k := by rw [hτ]; unfold stB; rw [up_ne (by decide), up_ne (by decide), up_ne (by decide), stpF_ne (by decide)]
  have := h2 k (by rw [ek]; exact hk)
  rw [this, e10, e11]; exact h1 k hk
/-- jobs to come -/
def frs (σ : fG2) : Prop := ∀ j : Nat, σ 12 0 ≤ j → σ 16 j = 0 ∧ σ 18 j = 0
theorem stpS_f (hi : inv σ) (hj : (j : Int) < σ 12 0) (hf : frs σ) : frs (stpS σ j) := by
  intro i h12
  rw [stpS_ne (by decide) (by decide) (by decide) (by decide) (by decide) (by decide) (by decide)] at h12
  have hij : i ≠ j := by omega
  have hG : i ∉ gnS σ j := fun z => by have := gn_lt hi z; omega
  refine ⟨?_, ?_⟩
  · unfold stpS; rw [stp_16, if_neg hij, hts_ne (by decide) (by decide) (by decide)]; exact (hf i h12).1
  · unfold stpS; rw [stF_g, gF_ne (by decide) (by decide) (by decide)]; unfold stB; rw [up_ne (by decide), up_ne (by decide), up_ne (by decide)]
    unfold stpF; rw [if_neg (fun z => hG z.2), hts_ne (by decide) (by decide) (by decide)]; exact (hf i h12).2
theorem srvN_k : ∀ (d : Nat) (σ : fG2), iS σ → lfE σ (srvN d σ) ∧ (frs σ → frs (srvN d σ)) := by
  intro d; induction d with
  | zero => intro σ _; exact ⟨fun k _ => rfl, id⟩
  | succ d ih =>
    intro σ h
    cases hx : nxS σ with
    | none => rw [srvN_none _ hx]; exact ⟨fun k _ => rfl, id⟩
    | some i =>
      rw [srvN_some _ hx]
      have j1 := (nxS_ok h.1 hx).1
      have h1 := ih (stpS σ i) (step_ok h hx).1
      have h2 := stpS_lf h.1 j1
      have ek : kidsN (stpS σ i) = kidsN σ := kids_c (fun k => stpS_ne (by decide) (by decide) (by decide) (by decide) (by decide) (by decide) (by decide)) (fun k => stpS_ne (by decide) (by decide) (by decide) (by decide) (by decide) (by decide) (by decide))
      exact ⟨fun k hk => (h1.1 k (by rw [ek]; exact hk)).trans (h2 k hk), fun hf => h1.2 (stpS_f h.1 j1 hf)⟩
theorem svS_frs (hi : iS σ) (hf : frs σ) : frs (svS σ) := by
  refine (srvN_k 1681 (lyS σ) (lyS_iS hi)).2 ?_
  intro j hj
  rw [lyS_ne (by decide) (by decide)] at hj
  rw [lyS_ne (by decide) (by decide), lyS_ne (by decide) (by decide)]; exact hf j hj
/-- nothing can be served -/
def setl (σ : fG2) : Prop := nxS (lyS σ) = none
theorem setl_c (hT : okT σ) (h : eqH σ τ) (h28 : ∀ k : Nat, σ 4 0 ≤ k → τ 28 k = σ 28 k) (hs : setl σ) : setl τ := by
  have h4 : ∀ k, τ 4 k = σ 4 k := fun k => h 4 k (by decide) (by decide)
  have h5 : ∀ k, τ 5 k = σ 5 k := fun k => h 5 k (by decide) (by decide)
  have hT2 : okT τ := by unfold okT; simp only [h4, h5]; exact hT
  have e28 := lyS28_c hT hT2 (h4 0) h5 (fun k => h 6 k (by decide) (by decide)) (h 2 0 (by decide) (by decide)) (fun k _ => dm_lf h4 h5 (fun k => h 7 k (by decide) (by decide)) (fun k _ => by rw [h 11 k (by decide) (by decide), h 10 k (by decide) (by decide)]) k) h28
  have hH : eqH (lyS σ) (lyS τ) := fun g k a b => by rw [lyS_ne (by omega) (by omega), lyS_ne (by omega) (by omega)]; exact h g k a b
  unfold setl nxS at hs ⊢
  rw [hH.ln, nxL_cngH hH e28]; exact hs
theorem svS_28 (k : Nat) : svS σ 28 k = lyS σ 28 k := by
  unfold svS srvS; exact srvN_ne (by decide) (by decide) (by decide) (by decide) (by decide) (by decide) (by decide) _ _
theorem setl_sv (hi : iS σ) : setl (svS σ) := by
  have hl := lyS_iS hi
  have lf := (srvN_k 1681 (lyS σ) hl).1
  have n4 : ∀ k, svS σ 4 k = σ 4 k := fun k => sv_n (by decide)
  have n5 : ∀ k, svS σ 5 k = σ 5 k := fun k => sv_n (by decide)
  have hT2 : okT (svS σ) := by unfold okT; simp only [n4, n5]; exact hi.1.T
  have ek : kidsN (lyS σ) = kidsN σ := lyS_K.kids
  have e28 : ∀ k, lyS (svS σ) 28 k = svS σ 28 k := by
    intro k
    rw [svS_28]
    refine lyS28_c hi.1.T hT2 (n4 0) n5 (fun k => sv_n (by decide)) (sv_n (by decide)) (fun k _ => dm_lf n4 n5 (fun k => sv_n (by decide)) (fun k hk => ?_) k) (fun k hk => by rw [svS_28, lyS_out hi.1.T hk]) k
    have := lf k (by rw [ek]; exact hk)
    rw [lyS_ne (by decide) (by decide), lyS_ne (by decide) (by decide)] at this
    exact this
  unfold setl
  have hK : eqK (svS σ) (lyS (svS σ)) := lyS_K
  have hn := svS_none hi
  unfold nxS at hn ⊢
  rw [hK.ln, nxL_cong hK e28]; exact hn
end
