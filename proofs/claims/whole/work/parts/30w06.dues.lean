section
variable {ρ σ ψ : fG2}
theorem dcS_ne {t g k : Nat} (h1 : g ≠ 46) (h2 : g ≠ 42) : dcS ρ t g k = ρ g k := by
  unfold dcS cpK; rw [sF_ne h2, sF_ne h1]
theorem dcS_42 (t k : Nat) : dcS ρ t 42 k = if k ∈ kdl ρ t then dcG ρ t k else ρ 42 k := by
  unfold dcS cpK; rw [sF_at, sF_ne (by decide)]
theorem flS_ne {t g k : Nat} (h1 : g ≠ 46) (h2 : g ≠ 43) : flS ρ t g k = ρ g k := by
  unfold flS cpK; rw [sF_ne h2, sF_ne h1]
theorem flS_43 (t k : Nat) : flS ρ t 43 k = if k ∈ kdl ρ t then flG ρ t k else ρ 43 k := by
  unfold flS cpK; rw [sF_at, sF_ne (by decide)]
def dsN : Nat → Nat → fG2 → fG2
  | _, 0, ρ => ρ
  | t, d + 1, ρ => dsN (t + 1) d (dcS ρ t)
def fsN : Nat → Nat → fG2 → fG2
  | _, 0, ρ => ρ
  | t, d + 1, ρ => fsN (t + 1) d (flS ρ t)
theorem dsN_ne {g k : Nat} (h1 : g ≠ 46) (h2 : g ≠ 42) : ∀ (d t : Nat) (ρ : fG2), dsN t d ρ g k = ρ g k := by
  intro d; induction d with
  | zero => intro t ρ; rfl
  | succ d ih => intro t ρ; exact (ih _ _).trans (dcS_ne h1 h2)
theorem fsN_ne {g k : Nat} (h1 : g ≠ 46) (h2 : g ≠ 43) : ∀ (d t : Nat) (ρ : fG2), fsN t d ρ g k = ρ g k := by
  intro d; induction d with
  | zero => intro t ρ; rfl
  | succ d ih => intro t ρ; exact (ih _ _).trans (flS_ne h1 h2)
theorem dcS_B (hB : okB ρ) (t : Nat) : okB (dcS ρ t) := by
  have hG : ∀ k, -100000000 ≤ dcG ρ t k ∧ dcG ρ t k ≤ 100000000 := gN_B hB (fun k => by have := hB 46 k; split <;> omega)
  unfold dcS cpK
  refine sF_B (sF_B hB hG) (fun k => ?_)
  have := hB 42 k; have := hG k
  rw [sF_ne (by decide)]; split <;> omega
theorem kdl_c (h4 : σ 4 0 = ρ 4 0) (h5 : ∀ k, σ 5 k = ρ 5 k) (t : Int) : kdl σ t = kdl ρ t := by
  unfold kdl; simp only [h4, h5]
/-- the broker's shares and the reference's, while they are dealt: behind the teams below t -/
def simD (t : Nat) (ρ ψ : fG2) : Prop :=
  okT ψ ∧ ψ 4 0 = ρ 4 0 ∧ (∀ k, ψ 5 k = ρ 5 k) ∧ (∀ k, ψ 6 k = ρ 6 k) ∧ (∀ k : Nat, (k : Int) < ρ 4 0 → ρ 41 k = ψ 27 k) ∧
  (∀ k : Nat, (k : Int) < ρ 4 0 → (k = 0 ∨ ρ 5 k < t) → ρ 42 k = ψ 28 k) ∧ ∀ k : Nat, (k : Int) < ρ 4 0 → 1 ≤ k → (t : Int) ≤ ρ 5 k → ψ 28 k = 0
theorem simD_s {t : Nat} (ht : (t : Int) < ρ 4 0) (h : simD t ρ ψ) : simD (t + 1) (dcS ρ t) (gvN t (ψ 28 t).toNat ψ) := by
  obtain ⟨hT, h4, h5, h6, h41, h42, h0⟩ := h
  have eg := gvN_g (t := (t : Int)) (by omega) (ψ 28 t).toNat ψ hT
  have ne : ∀ g k, g ≠ 28 → gvN t (ψ 28 t).toNat ψ g k = ψ g k := fun g k hg => gvN_ne t hg _ _
  have hu : ρ 42 t = ψ 28 t := by
    refine h42 t ht ?_
    by_cases e : t = 0
    · exact Or.inl e
    · right; have := hT.2.2.2 t (by omega) (by omega); rw [h5] at this; omega
  have eK : kdl ψ t = kdl ρ t := kdl_c h4 h5 _
  have hG : ∀ k ∈ kdl ρ t, dcG ρ t k = gN (kdl ψ t) (ψ 27) (ψ 6) (ψ 28 t).toNat (ψ 28) k := by
    intro k hk
    rw [eK]
    unfold dcG
    rw [hu]
    refine gN_cong (fun i hi => ⟨h41 i (kdl_mem.mp hi).1, (h6 i).symm⟩) _ _ _ (fun i hi => ?_) k hk
    have him := kdl_mem.mp hi
    rw [if_pos hi]
    have i1 : 1 ≤ i := by
      rcases Nat.eq_zero_or_pos i with z | z
      · have := him.2; rw [z, ← h5, hT.2.2.1] at this; omega
      · exact z
    exact (h0 i him.1 i1 (by rw [him.2]; exact Int.le_refl _)).symm
  refine ⟨(gvN_K t _ ψ).T hT, ?_, fun k => ?_, fun k => ?_, fun k hk => ?_, fun k hk hc => ?_, fun k hk k1 hc => ?_⟩
  · rw [ne 4 0 (by decide), dcS_ne (by decide) (by decide)]; exact h4
  · rw [ne 5 k (by decide), dcS_ne (by decide) (by decide)]; exact h5 k
  · rw [ne 6 k (by decide), dcS_ne (by decide) (by decide)]; exact h6 k
  · rw [ne 27 k (by decide), dcS_ne (by decide) (by decide)]; rw [dcS_ne (by decide) (by decide)] at hk; exact h41 k hk
  · rw [dcS_ne (by decide) (by decide)] at hk hc
    rw [dcS_42, eg, sF_at]
    by_cases c : k ∈ kdl ρ t
    · rw [if_pos c]; exact hG k c
    · rw [if_neg c, gN_out (by rw [eK]; exact c)]
      refine h42 k hk (hc.imp id (fun z => ?_))
      have : ¬ ρ 5 k = t := fun e => c (kdl_mem.mpr ⟨hk, e⟩)
      omega
  · rw [dcS_ne (by decide) (by decide)] at hk hc
    rw [eg, sF_at, gN_out (by rw [eK]; exact fun z => by have := (kdl_mem.mp z).2; omega)]
    exact h0 k hk k1 (by omega)
theorem simD_n : ∀ (d t : Nat) (ρ ψ : fG2), ((t + d : Nat) : Int) ≤ ρ 4 0 → simD t ρ ψ → simD (t + d) (dsN t d ρ) (ly2 t d ψ) := by
  intro d; induction d with
  | zero => intro t ρ ψ _ h; exact h
  | succ d ih =>
    intro t ρ ψ ht h
    have := ih (t + 1) (dcS ρ t) (gvN t (ψ 28 t).toNat ψ) (by rw [dcS_ne (by decide) (by decide)]; omega) (simD_s (by omega) h)
    rw [show t + 1 + d = t + (d + 1) by omega] at this
    exact this
/-- levels: the same with 43 in place of 42, where weights are above 0 and wants are not below 0 -/
def simL (t : Nat) (ρ ψ : fG2) : Prop :=
  okT ψ ∧ ψ 4 0 = ρ 4 0 ∧ (∀ k, ψ 5 k = ρ 5 k) ∧ (∀ k, ψ 6 k = ρ 6 k) ∧ (∀ k : Nat, (k : Int) < ρ 4 0 → ρ 41 k = ψ 27 k) ∧
  (∀ k : Nat, (k : Int) < ρ 4 0 → (k = 0 ∨ ρ 5 k < t) → ρ 43 k = ψ 28 k) ∧ ∀ k : Nat, (k : Int) < ρ 4 0 → 1 ≤ k → (t : Int) ≤ ρ 5 k → ψ 28 k = 0
theorem ulS_0 (K : List Nat) (hd : ∀ k ∈ K, 0 ≤ ρ 41 k) : ulS ρ K 0 = 0 := by
  unfold ulS
  have : ∀ k ∈ K, ulL ρ 0 k = 0 := fun k hk => by unfold ulL; rw [Int.zero_mul]; have := hd k hk; split <;> omega
  rw [lsm_cong (g := fun _ => 0) K this]
  induction K with
  | nil => rfl
  | cons k K ih => simp only [lsm]; rw [ih (fun i hi => hd i (List.mem_cons_of_mem _ hi)) (fun i hi => this i (List.mem_cons_of_mem _ hi))]; omega
theorem flG_eq (hw : ∀ k : Nat, (k : Int) < ρ 4 0 → 1 ≤ ρ 6 k ∧ ρ 6 k ≤ 9) (hd : ∀ k : Nat, (k : Int) < ρ 4 0 → 0 ≤ ρ 41 k) {t : Nat} (hu : 0 ≤ ρ 43 t) : ∀ k ∈ kdl ρ t, flG ρ t k = gN (kdl ρ t) (ρ 41) (ρ 6) (ρ 43 t).toNat (fun _ => 0) k := by
  intro k hk
  obtain ⟨K, hK⟩ : ∃ K, K = kdl ρ t := ⟨_, rfl⟩
  have hKm : ∀ k ∈ K, (k : Int) < ρ 4 0 := fun k hk => by rw [hK] at hk; exact (kdl_mem.mp hk).1
  have hdK : ∀ k ∈ K, 0 ≤ ρ 41 k := fun k hk => hd k (hKm k hk)
  obtain ⟨lv, hlv⟩ : ∃ lv, lv = lwS ρ t := ⟨_, rfl⟩
  have lb : 0 ≤ lv := by rw [hlv]; exact (lwF_b _ _ 8 0 (by omega)).1
  have le : ulS ρ K lv ≤ ρ 43 t := by rw [hlv, hK]; exact lwF_le _ _ 8 0 (by rw [ulS_0 _ (by rw [← hK]; exact hdK)]; exact hu)
  obtain ⟨w', hw'⟩ : ∃ w' : Nat → Int, w' = fun (k : Nat) => if (k : Int) < ρ 4 0 then ρ 6 k else 1 := ⟨_, rfl⟩
  have w1 : ∀ k, 1 ≤ w' k := fun k => by
    rw [hw']; show 1 ≤ (if (k : Int) < ρ 4 0 then ρ 6 k else 1)
    split
    · rename_i c; exact (hw k c).1
    · exact Int.le_refl _
  have we : ∀ k ∈ K, ρ 6 k = w' k := fun k hk => by rw [hw']; exact (if_pos (hKm k hk)).symm
  have ulE : ∀ k ∈ K, ulL ρ lv k = (if lv * w' k < ρ 41 k then lv * w' k else ρ 41 k) := fun k hk => by unfold ulL; rw [we k hk]
  have u0 : 0 ≤ ulS ρ K lv := by
    refine lsm_nn K (fun k hk => ?_)
    have := Int.mul_nonneg lb (show 0 ≤ ρ 6 k by have := (hw k (hKm k hk)).1; omega)
    have := hdK k hk
    unfold ulL; split <;> omega
  obtain ⟨U, hU⟩ : ∃ U : Nat, ulS ρ K lv = U := ⟨(ulS ρ K lv).toNat, by omega⟩
  have hU' : lsm (fun k => if lv * w' k < ρ 41 k then lv * w' k else ρ 41 k) K = U := by rw [← hU]; exact (lsm_cong K ulE).symm
  have fill := gN_fill (K := K) (d := ρ 41) (w := w') (by rw [hK]; exact kdl_nodup) w1 hdK lb hU' (u := (ρ 43 t).toNat) (by omega) (fun k => if k ∈ K then ulL ρ lv k else ρ 46 k) (fun k hk => by rw [if_pos hk]; exact ulE k hk)
  rw [← hK] at hk
  have e1 : flG ρ t k = gN K (ρ 41) w' ((ρ 43 t).toNat - U) (fun k => if k ∈ K then ulL ρ lv k else ρ 46 k) k := by
    unfold flG
    rw [← hK, ← hlv, hU, show (ρ 43 t - (U : Int)).toNat = (ρ 43 t).toNat - U by omega]
    exact gN_cong (fun i hi => ⟨rfl, we i hi⟩) _ _ _ (fun i hi => rfl) k hk
  have e2 : gN K (ρ 41) (ρ 6) (ρ 43 t).toNat (fun _ => 0) k = gN K (ρ 41) w' (ρ 43 t).toNat (fun _ => 0) k := gN_cong (fun i hi => ⟨rfl, we i hi⟩) _ _ _ (fun i hi => rfl) k hk
  rw [← hK, e1, e2]; exact fill k hk
theorem simL_s (hw : ∀ k : Nat, (k : Int) < ρ 4 0 → 1 ≤ ρ 6 k ∧ ρ 6 k ≤ 9) (hd : ∀ k : Nat, (k : Int) < ρ 4 0 → 0 ≤ ρ 41 k) {t : Nat} (ht : (t : Int) < ρ 4 0) (hψ : 0 ≤ ψ 28 t) (h : simL t ρ ψ) : simL (t + 1) (flS ρ t) (gvN t (ψ 28 t).toNat ψ) := by
  obtain ⟨hT, h4, h5, h6, h41, h42, h0⟩ := h
  have eg := gvN_g (t := (t : Int)) (by omega) (ψ 28 t).toNat ψ hT
  have ne : ∀ g k, g ≠ 28 → gvN t (ψ 28 t).toNat ψ g k = ψ g k := fun g k hg => gvN_ne t hg _ _
  have hu : ρ 43 t = ψ 28 t := by
    refine h42 t ht ?_
    by_cases e : t = 0
    · exact Or.inl e
    · right; have := hT.2.2.2 t (by omega) (by omega); rw [h5] at this; omega
  have eK : kdl ψ t = kdl ρ t := kdl_c h4 h5 _
  have hG : ∀ k ∈ kdl ρ t, flG ρ t k = gN (kdl ψ t) (ψ 27) (ψ 6) (ψ 28 t).toNat (ψ 28) k := by
    intro k hk
    rw [flG_eq hw hd (by omega) k hk, eK, hu]
    refine gN_cong (fun i hi => ⟨h41 i (kdl_mem.mp hi).1, (h6 i).symm⟩) _ _ _ (fun i hi => ?_) k hk
    have him := kdl_mem.mp hi
    have i1 : 1 ≤ i := by
      rcases Nat.eq_zero_or_pos i with z | z
      · have := him.2; rw [z, ← h5, hT.2.2.1] at this; omega
      · exact z
    exact (h0 i him.1 i1 (by rw [him.2]; exact Int.le_refl _)).symm
  refine ⟨(gvN_K t _ ψ).T hT, ?_, fun k => ?_, fun k => ?_, fun k hk => ?_, fun k hk hc => ?_, fun k hk k1 hc => ?_⟩
  · rw [ne 4 0 (by decide), flS_ne (by decide) (by decide)]; exact h4
  · rw [ne 5 k (by decide), flS_ne (by decide) (by decide)]; exact h5 k
  · rw [ne 6 k (by decide), flS_ne (by decide) (by decide)]; exact h6 k
  · rw [ne 27 k (by decide), flS_ne (by decide) (by decide)]; rw [flS_ne (by decide) (by decide)] at hk; exact h41 k hk
  · rw [flS_ne (by decide) (by decide)] at hk hc
    rw [flS_43, eg, sF_at]
    by_cases c : k ∈ kdl ρ t
    · rw [if_pos c]; exact hG k c
    · rw [if_neg c, gN_out (by rw [eK]; exact c)]
      refine h42 k hk (hc.imp id (fun z => ?_))
      have : ¬ ρ 5 k = t := fun e => c (kdl_mem.mpr ⟨hk, e⟩)
      omega
  · rw [flS_ne (by decide) (by decide)] at hk hc
    rw [eg, sF_at, gN_out (by rw [eK]; exact fun z => by have := (kdl_mem.mp z).2; omega)]
    exact h0 k hk k1 (by omega)
theorem simL_n : ∀ (d t : Nat) (ρ ψ : fG2), ((t + d : Nat) : Int) ≤ ρ 4 0 → (∀ k : Nat, (k : Int) < ρ 4 0 → 1 ≤ ρ 6 k ∧ ρ 6 k ≤ 9) → (∀ k : Nat, (k : Int) < ρ 4 0 → 0 ≤ ρ 41 k) → okS ψ → simL t ρ ψ → simL (t + d) (fsN t d ρ) (ly2 t d ψ) := by
  intro d; induction d with
  | zero => intro t ρ ψ _ _ _ _ h; exact h
  | succ d ih =>
    intro t ρ ψ ht hw hd hS h
    have n4 : flS ρ t 4 0 = ρ 4 0 := flS_ne (by decide) (by decide)
    have := ih (t + 1) (flS ρ t) (gvN t (ψ 28 t).toNat ψ) (by rw [n4]; omega) (fun k hk => by rw [flS_ne (by decide) (by decide)]; exact hw k (by rw [n4] at hk; exact hk)) (fun k hk => by rw [flS_ne (by decide) (by decide)]; exact hd k (by rw [n4] at hk; exact hk)) (gvN_okS t _ ψ h.1 hS) (simL_s hw hd (by omega) (hS t).2.2.1 h)
    rw [show t + 1 + d = t + (d + 1) by omega] at this
    exact this
/-- the reference's state as its shares begin to be dealt -/
def lyB (σ : fG2) : fG2 := up (ly1 σ (σ 4 0).toNat) 28 0 (if σ 2 0 ≤ dmS σ 0 then σ 2 0 else dmS σ 0)
theorem lyS_B' (σ : fG2) : lyS σ = ly2 0 (σ 4 0).toNat (lyB σ) := rfl
theorem lyB_ne {g k : Nat} (h1 : g ≠ 27) (h2 : g ≠ 28) : lyB σ g k = σ g k := by
  unfold lyB; rw [up_ne h2]; unfold ly1; rw [if_neg (fun z => h1 z.1), if_neg (fun z => h2 z.1)]
theorem lyB_27 {k : Nat} (hk : (k : Int) < σ 4 0) : lyB σ 27 k = dmS σ k := by
  unfold lyB; rw [up_ne (by decide)]; unfold ly1; rw [if_pos ⟨rfl, by omega⟩]
theorem lyB_28 {k : Nat} (hk : (k : Int) < σ 4 0) (k1 : 1 ≤ k) : lyB σ 28 k = 0 := by
  unfold lyB; rw [up_nj (by omega)]; unfold ly1; rw [if_neg (fun z => absurd z.1 (by decide)), if_pos ⟨rfl, by omega⟩]
theorem lyB_0 : lyB σ 28 0 = if σ 2 0 ≤ dmS σ 0 then σ 2 0 else dmS σ 0 := up_at
theorem lyB_T (hT : okT σ) : okT (lyB σ) := by
  unfold okT; simp only [lyB_ne (σ := σ) (g := 4) (by decide) (by decide), lyB_ne (σ := σ) (g := 5) (by decide) (by decide)]; exact hT
theorem lyB_S (hi : inv σ) (hS : okS σ) : okS (lyB σ) := by
  have wb : ∀ t, 0 ≤ dmS σ t ∧ dmS σ t ≤ 20000 := fun t => ⟨(dm_b hi.T hi.U hi.L 11 t).1, (dm_b hi.T hi.U hi.L 11 t).2.1⟩
  have h1 : okS (ly1 σ (σ 4 0).toNat) := by
    intro i
    have b := hS i; have w := wb i
    unfold ly1
    simp only [show ¬ ((27 : Nat) = 28) by decide, show ¬ ((28 : Nat) = 27) by decide, show ¬ ((6 : Nat) = 27) by decide, show ¬ ((6 : Nat) = 28) by decide, true_and, false_and, if_false]
    split <;> omega
  intro i
  have b := h1 i; have w := wb 0; have c := hi.c
  unfold lyB
  rw [up_ne (g := 27) (by decide), up_ne (g := 6) (by decide)]
  by_cases e : i = 0
  · subst e; rw [up_at]; split <;> omega
  · rw [up_nj e]; exact b
theorem rdS_ne {g k : Nat} (h : g ≠ 41) : rdS ρ g k = ρ g k := sF_ne h
theorem rdS_41 {k : Nat} (hk : (k : Int) < ρ 4 0) : rdS ρ 41 k = dmS ρ k := by unfold rdS; rw [sF_at, if_pos hk]
theorem rdS_B (hi : inv ρ) (hB : okB ρ) : okB (rdS ρ) := by
  refine sF_B hB (fun k => ?_)
  have := dm_b hi.T hi.U hi.L 11 k; have := hB 41 k
  show -100000000 ≤ (if (k : Int) < ρ 4 0 then dmF ρ 11 k else ρ 41 k) ∧ (if (k : Int) < ρ 4 0 then dmF ρ 11 k else ρ 41 k) ≤ 100000000
  split <;> omega
/-- shares dealt: what is in 42 -/
def dlS (ρ : fG2) : fG2 := dsN 0 (ρ 4 0).toNat (up ρ 42 0 (if ρ 41 0 < ρ 2 0 then ρ 41 0 else ρ 2 0))
theorem dlS_ne {g k : Nat} (h1 : g ≠ 46) (h2 : g ≠ 42) : dlS ρ g k = ρ g k := by
  unfold dlS; rw [dsN_ne h1 h2, up_ne h2]
theorem dlS_42 (hT : okT σ) (h : ∀ g k, g < 29 → ρ g k = σ g k) (h41 : ∀ k : Nat, (k : Int) < σ 4 0 → ρ 41 k = dmS σ k) {k : Nat} (hk : (k : Int) < σ 4 0) : dlS ρ 42 k = lyS σ 28 k := by
  have q := hT.1
  have e4 : ρ 4 0 = σ 4 0 := h 4 0 (by decide)
  have hs : simD 0 (up ρ 42 0 (if ρ 41 0 < ρ 2 0 then ρ 41 0 else ρ 2 0)) (lyB σ) := by
    refine ⟨lyB_T hT, ?_, fun k => ?_, fun k => ?_, fun k hk => ?_, fun k hk hc => ?_, fun k hk k1 hc => ?_⟩
    · rw [lyB_ne (by decide) (by decide), up_ne (by decide), e4]
    · rw [lyB_ne (by decide) (by decide), up_ne (by decide), h 5 k (by decide)]
    · rw [lyB_ne (by decide) (by decide), up_ne (by decide), h 6 k (by decide)]
    · rw [up_ne (by decide), e4] at hk
      rw [up_ne (by decide), lyB_27 hk]; exact h41 k hk
    · rw [up_ne (by decide), e4] at hk
      rw [up_ne (by decide), h 5 k (by decide)] at hc
      have k0 : k = 0 := by
        rcases hc with z | z
        · exact z
        · rcases Nat.eq_zero_or_pos k with y | y
          · exact y
          · have := hT.2.2.2 k y hk; omega
      subst k0
      rw [up_at, lyB_0, h41 0 hk, h 2 0 (by decide)]
      by_cases c : σ 2 0 ≤ dmS σ 0
      · rw [if_pos c]; split <;> omega
      · rw [if_neg c, if_pos (by omega)]
    · rw [up_ne (by decide), e4] at hk
      exact lyB_28 hk k1
  have e4' : up ρ 42 0 (if ρ 41 0 < ρ 2 0 then ρ 41 0 else ρ 2 0) 4 0 = ρ 4 0 := up_ne (by decide)
  have hn := simD_n (ρ 4 0).toNat 0 _ _ (by rw [e4']; omega) hs
  obtain ⟨-, -, -, -, -, a, -⟩ := hn
  have := a k (by rw [dsN_ne (by decide) (by decide), e4', e4]; exact hk) (by
    right
    rw [dsN_ne (by decide) (by decide), up_ne (by decide), h 5 k (by decide)]
    have := hT.p k hk
    by_cases e : k = 0
    · subst e; rw [hT.2.2.1]; omega
    · have := hT.2.2.2 k (by omega) hk; omega)
  unfold dlS
  rw [this, lyS_B', e4]
def fiS (ρ : fG2) : fG2 := fsN 0 (ρ 4 0).toNat (up ρ 43 0 (if ρ 41 0 < ρ 2 0 then ρ 41 0 else ρ 2 0))
theorem fiS_ne {g k : Nat} (h1 : g ≠ 46) (h2 : g ≠ 43) : fiS ρ g k = ρ g k := by
  unfold fiS; rw [fsN_ne h1 h2, up_ne h2]
theorem fiS_43 (hi : inv σ) (hS : okS σ) (hw : ∀ k : Nat, (k : Int) < σ 4 0 → 1 ≤ σ 6 k) (h : ∀ g k, g < 29 → ρ g k = σ g k) (h41 : ∀ k : Nat, (k : Int) < σ 4 0 → ρ 41 k = dmS σ k) {k : Nat} (hk : (k : Int) < σ 4 0) : fiS ρ 43 k = lyS σ 28 k := by
  have hT := hi.T
  have q := hT.1
  have e4 : ρ 4 0 = σ 4 0 := h 4 0 (by decide)
  have hs : simL 0 (up ρ 43 0 (if ρ 41 0 < ρ 2 0 then ρ 41 0 else ρ 2 0)) (lyB σ) := by
    refine ⟨lyB_T hT, ?_, fun k => ?_, fun k => ?_, fun k hk => ?_, fun k hk hc => ?_, fun k hk k1 hc => ?_⟩
    · rw [lyB_ne (by decide) (by decide), up_ne (by decide), e4]
    · rw [lyB_ne (by decide) (by decide), up_ne (by decide), h 5 k (by decide)]
    · rw [lyB_ne (by decide) (by decide), up_ne (by decide), h 6 k (by decide)]
    · rw [up_ne (by decide), e4] at hk
      rw [up_ne (by decide), lyB_27 hk]; exact h41 k hk
    · rw [up_ne (by decide), e4] at hk
      rw [up_ne (by decide), h 5 k (by decide)] at hc
      have k0 : k = 0 := by
        rcases hc with z | z
        · exact z
        · rcases Nat.eq_zero_or_pos k with y | y
          · exact y
          · have := hT.2.2.2 k y hk; omega
      subst k0
      rw [up_at, lyB_0, h41 0 hk, h 2 0 (by decide)]
      by_cases c : σ 2 0 ≤ dmS σ 0
      · rw [if_pos c]; split <;> omega
      · rw [if_neg c, if_pos (by omega)]
    · rw [up_ne (by decide), e4] at hk
      exact lyB_28 hk k1
  have e4' : up ρ 43 0 (if ρ 41 0 < ρ 2 0 then ρ 41 0 else ρ 2 0) 4 0 = ρ 4 0 := up_ne (by decide)
  have hn := simL_n (ρ 4 0).toNat 0 _ _ (by rw [e4']; omega) (fun k hk => by
      rw [e4', e4] at hk
      rw [up_ne (by decide), h 6 k (by decide)]; exact ⟨hw k hk, (hi.w k).2⟩) (fun k hk => by
      rw [e4', e4] at hk
      rw [up_ne (by decide), h41 k hk]; exact (dm_b hi.T hi.U hi.L 11 k).1) (lyB_S hi hS) hs
  obtain ⟨-, -, -, -, -, a, -⟩ := hn
  have := a k (by rw [fsN_ne (by decide) (by decide), e4', e4]; exact hk) (by
    right
    rw [fsN_ne (by decide) (by decide), up_ne (by decide), h 5 k (by decide)]
    have := hT.p k hk
    by_cases e : k = 0
    · subst e; rw [hT.2.2.1]; omega
    · have := hT.2.2.2 k (by omega) hk; omega)
  unfold fiS
  rw [this, lyS_B', e4]
end
