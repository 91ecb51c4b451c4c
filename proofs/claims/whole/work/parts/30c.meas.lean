section
variable {σ τ : fG2}
/-- starts are told apart -/
def okD (σ : fG2) : Prop := (∀ i j : Nat, (i : Int) < σ 12 0 → (j : Int) < σ 12 0 → σ 17 i = 1 → σ 17 j = 1 → σ 19 i = σ 19 j → i = j) ∧ ∀ i : Nat, (i : Int) < σ 12 0 → σ 17 i = 1 → σ 19 i < σ 20 0
/-- jobs are of leaves -/
def okE (σ : fG2) : Prop := ∀ j : Nat, (j : Int) < σ 12 0 → kidsN σ (σ 13 j) = 0
theorem kids_c (h4 : ∀ k, τ 4 k = σ 4 k) (h5 : ∀ k, τ 5 k = σ 5 k) : kidsN τ = kidsN σ := by
  funext t; unfold kidsN nt1 kidsF; simp only [h4, h5]
theorem due_c (h1 : τ 1 0 = σ 1 0) (h22 : τ 22 0 = σ 22 0) (h23 : ∀ k, τ 23 k = σ 23 k) (h24 : ∀ k, τ 24 k = σ 24 k) (h25 : ∀ k, τ 25 k = σ 25 k) (h26 : ∀ k, τ 26 k = σ 26 k) (h28 : ∀ k, τ 28 k = σ 28 k) (t : Nat) : dueS τ t = dueS σ t := by
  unfold dueS rsvS rsvF; simp only [h1, h22, h23, h24, h25, h26, h28]
theorem chF_par {σ : fG2} (hT : okT σ) : ∀ (f : Nat) (t : Int), -1 ≤ t → t < σ 4 0 → ∀ k ∈ chF σ f t, (k : Int) = t ∨ kidsN σ k ≠ 0 := by
  intro f; induction f with
  | zero => intro t _ _ k hk; simp [chF] at hk
  | succ f ih =>
    intro t h1 h2 k hk
    simp only [chF] at hk
    split at hk
    · simp at hk
    · rename_i c
      rcases List.mem_cons.mp hk with z | z
      · left; omega
      · right
        have hb := hT.p t.toNat (by omega)
        by_cases e : t.toNat = 0
        · rw [e, hT.2.2.1] at z
          cases f with
          | zero => simp [chF] at z
          | succ f => simp [chF] at z
        · have h5 := hT.2.2.2 t.toNat (by omega) (by omega)
          rcases ih _ hb.1 (by omega) k z with y | y
          · have := fSum_ge (f := kidsF σ k) (nt1 σ) 1 t.toNat (fun i _ _ => by unfold kidsF; split <;> omega) (by omega) (by unfold nt1; omega)
            have e1 : kidsF σ k t.toNat = 1 := by unfold kidsF; rw [if_pos y.symm]
            unfold kidsN; omega
          · exact y
theorem chS_leaf (hT : okT σ) {t : Int} (h1 : 0 ≤ t) (h2 : t < σ 4 0) {k : Nat} (hk : kidsN σ k = 0) : k ∈ chS σ t ↔ (k : Int) = t := by
  constructor
  · intro z
    rcases chF_par hT 11 t (by omega) h2 k z with y | y
    · exact y
    · exact absurd hk y
  · rintro rfl
    unfold chS; simp only [chF]
    rw [if_neg (by omega)]; simp
/-- what the leaf of i started no later than i -/
def secF (σ : fG2) (i : Nat) : Nat → Int := fun k => if σ 17 k = 1 ∧ σ 13 k = σ 13 i ∧ σ 19 k ≤ σ 19 i then σ 14 k else 0
def secP (σ : fG2) (i : Nat) : Prop := σ 17 i = 1 ∧ fSum (secF σ i) 0 (njN σ) ≤ dueS σ (σ 13 i).toNat
theorem loF_max (t : Int) : ∀ (d j : Nat) (b : Int), (b = -1 ∨ 0 ≤ b) → (b ≠ -1 → loF σ t j d b ≠ -1 ∧ σ 19 b.toNat ≤ σ 19 (loF σ t j d b).toNat) ∧ ∀ i, j ≤ i → i < j + d → ovP σ t i → loF σ t j d b ≠ -1 ∧ σ 19 i ≤ σ 19 (loF σ t j d b).toNat := by
  intro d; induction d with
  | zero => intro j b _; exact ⟨fun h => ⟨h, Int.le_refl _⟩, fun i h1 h2 => absurd h2 (by omega)⟩
  | succ d ih =>
    intro j b hb
    simp only [loF]
    by_cases c : ovP σ t j ∧ (b = -1 ∨ σ 19 b.toNat < σ 19 j)
    · rw [if_pos c]
      have h1 := ih (j + 1) (j : Int) (Or.inr (by omega))
      have h2 := h1.1 (by omega)
      simp only [Int.toNat_natCast] at h2
      refine ⟨fun h => ⟨h2.1, ?_⟩, fun i i1 i2 i3 => ?_⟩
      · rcases c.2 with z | z
        · exact absurd z h
        · omega
      · by_cases e : i = j
        · subst e; exact h2
        · exact h1.2 i (by omega) (by omega) i3
    · rw [if_neg c]
      have h1 := ih (j + 1) b hb
      refine ⟨h1.1, fun i i1 i2 i3 => ?_⟩
      by_cases e : i = j
      · subst e
        have hbn : b ≠ -1 := fun z => c ⟨i3, Or.inl z⟩
        have h2 := h1.1 hbn
        refine ⟨h2.1, ?_⟩
        have : ¬ σ 19 b.toNat < σ 19 i := fun z => c ⟨i3, Or.inr z⟩
        omega
      · exact h1.2 i (by omega) (by omega) i3
theorem loS_max (hJ : okJ σ) {t : Int} {i : Nat} (hi : (i : Int) < σ 12 0) (ho : ovP σ t i) : σ 19 i ≤ σ 19 (loS σ t).toNat :=
  ((loF_max (σ := σ) t (σ 12 0).toNat 0 (-1) (Or.inl rfl)).2 i (by omega) (by have := hJ.1; omega) ho).2
/-- what is stopped was not secure, and what is secure stays so -/
theorem lo_sec (hi : inv σ) (hD : okD σ) (hE : okE σ) {t : Int} {v : Nat} (hv : loS σ t = v) {i : Nat} (hin : (i : Int) < σ 12 0) (h : secP σ i) : secP (htF σ v) i := by
  have lo := (loS_ok hi.J t).resolve_left (by omega)
  rw [hv] at lo
  simp only [Int.toNat_natCast] at lo
  obtain ⟨-, v1, v2, v3, v4⟩ := lo
  have bv := hi.J.2.2 v v1; have bi := hi.J.2.2 i hin
  have ne : ∀ g k : Nat, g ≠ 10 → g ≠ 11 → g ≠ 17 → htF σ v g k = σ g k := fun g k a b c => by rw [htF_g]; exact gF_ne a b c
  have e12 : njN (htF σ v) = njN σ := by unfold njN; rw [ne 12 0 (by decide) (by decide) (by decide)]
  -- v is not secure
  have hvs : ¬ secP σ v := by
    intro z
    have h1 : σ 10 (σ 13 v).toNat ≤ 1 * fSum (secF σ v) 0 (njN σ) := by
      rw [hi.t.1]
      refine fSum_mono _ _ (fun k _ hk => ?_)
      have bk := hi.J.2.2 k (njN_lt hi.J hk)
      unfold rnF secF
      by_cases c : σ 17 k = 1 ∧ (σ 13 v).toNat ∈ chS σ (σ 13 k)
      · have hl := (chS_leaf hi.T (t := σ 13 k) (by omega) (by omega) (k := (σ 13 v).toNat) (by rw [show (((σ 13 v).toNat : Nat) : Int) = σ 13 v by omega]; exact hE v v1)).mp c.2
        have e : σ 13 k = σ 13 v := by omega
        have hm := loS_max hi.J (t := t) (njN_lt hi.J hk) ⟨c.1, by rw [e]; exact v3, by rw [e]; exact v4⟩
        rw [hv] at hm
        simp only [Int.toNat_natCast] at hm
        rw [if_pos c, if_pos ⟨c.1, e, hm⟩]; omega
      · rw [if_neg c]; split <;> omega
    have := z.2; omega
  have hne : i ≠ v := fun z => hvs (z ▸ h)
  refine ⟨by rw [htF_g, gF_17, if_neg hne]; exact h.1, ?_⟩
  have hd : dueS (htF σ v) (htF σ v 13 i).toNat = dueS σ (σ 13 i).toNat := by
    rw [ne 13 i (by decide) (by decide) (by decide)]
    exact due_c (ne 1 0 (by decide) (by decide) (by decide)) (ne 22 0 (by decide) (by decide) (by decide)) (fun k => ne 23 k (by decide) (by decide) (by decide)) (fun k => ne 24 k (by decide) (by decide) (by decide)) (fun k => ne 25 k (by decide) (by decide) (by decide)) (fun k => ne 26 k (by decide) (by decide) (by decide)) (fun k => ne 28 k (by decide) (by decide) (by decide)) _
  rw [hd, e12]
  have : fSum (secF (htF σ v) i) 0 (njN σ) ≤ 1 * fSum (secF σ i) 0 (njN σ) := by
    refine fSum_mono _ _ (fun k _ hk => ?_)
    have bk := hi.J.2.2 k (njN_lt hi.J hk)
    unfold secF
    rw [ne 13 k (by decide) (by decide) (by decide), ne 13 i (by decide) (by decide) (by decide), ne 19 k (by decide) (by decide) (by decide), ne 19 i (by decide) (by decide) (by decide), ne 14 k (by decide) (by decide) (by decide)]
    by_cases c : k = v
    · subst c; rw [htF_g, gF_17, if_pos rfl, if_neg (fun z => absurd z.1 (by decide))]; split <;> omega
    · rw [htF_g, gF_17, if_neg c]; omega
  have := h.2; omega
theorem ht_D (hD : okD σ) {v : Nat} : okD (htF σ v) := by
  have ne : ∀ g k : Nat, g ≠ 10 → g ≠ 11 → g ≠ 17 → htF σ v g k = σ g k := fun g k a b c => by rw [htF_g]; exact gF_ne a b c
  have e17 : ∀ i, htF σ v 17 i = 1 → σ 17 i = 1 := by
    intro i h; rw [htF_g, gF_17] at h; split at h
    · exact absurd h (by decide)
    · exact h
  unfold okD
  simp only [ne 12 _ (by decide) (by decide) (by decide), ne 19 _ (by decide) (by decide) (by decide), ne 20 _ (by decide) (by decide) (by decide)]
  exact ⟨fun i j a b c d e => hD.1 i j a b (e17 i c) (e17 j d) e, fun i a b => hD.2 i a (e17 i b)⟩
theorem ht_E (hE : okE σ) {v : Nat} : okE (htF σ v) := by
  have ne : ∀ g k : Nat, g ≠ 10 → g ≠ 11 → g ≠ 17 → htF σ v g k = σ g k := fun g k a b c => by rw [htF_g]; exact gF_ne a b c
  unfold okE
  rw [kids_c (fun k => ne 4 k (by decide) (by decide) (by decide)) (fun k => ne 5 k (by decide) (by decide) (by decide))]
  simp only [ne 12 _ (by decide) (by decide) (by decide), ne 13 _ (by decide) (by decide) (by decide)]
  exact hE
theorem vc_sec (t sz : Int) : ∀ (f : Nat) (σ : fG2), inv σ → okD σ → okE σ → (inv (hts σ (vcF t sz f σ).1) ∧ okD (hts σ (vcF t sz f σ).1) ∧ okE (hts σ (vcF t sz f σ).1)) ∧ (∀ i : Nat, (i : Int) < σ 12 0 → secP σ i → secP (hts σ (vcF t sz f σ).1) i) ∧ ∀ g ∈ (vcF t sz f σ).1, σ 13 g ≠ t := by
  intro f; induction f with
  | zero => intro σ hi hD hE; exact ⟨⟨hi, hD, hE⟩, fun i _ h => h, fun g hg => by simp [vcF] at hg⟩
  | succ f ih =>
    intro σ hi hD hE
    simp only [vcF]
    split
    · exact ⟨⟨hi, hD, hE⟩, fun i _ h => h, fun g hg => by simp at hg⟩
    · split
      · exact ⟨⟨hi, hD, hE⟩, fun i _ h => h, fun g hg => by simp at hg⟩
      · rename_i c2
        have lo := (loS_ok hi.J t).resolve_left c2
        obtain ⟨v, hv⟩ : ∃ v : Nat, loS σ t = v := ⟨(loS σ t).toNat, by omega⟩
        rw [hv] at lo ⊢
        simp only [Int.toNat_natCast] at lo ⊢
        have ne : ∀ g k : Nat, g ≠ 10 → g ≠ 11 → g ≠ 17 → htF σ v g k = σ g k := fun g k a b c => by rw [htF_g]; exact gF_ne a b c
        have h1 := ih (htF σ v) (htF_inv hi lo.2.1 lo.2.2.1) (ht_D hD) (ht_E hE)
        refine ⟨h1.1, fun i hin hs => h1.2.1 i (by rw [ne 12 0 (by decide) (by decide) (by decide)]; exact hin) (lo_sec hi hD hE hv hin hs), fun g hg => ?_⟩
        rcases List.mem_cons.mp hg with z | z
        · rw [z]; exact lo.2.2.2.1
        · have := h1.2.2 g z
          rw [ne 13 g (by decide) (by decide) (by decide)] at this; exact this
theorem hts_17 : ∀ (G : List Nat) (σ : fG2) (i : Nat), hts σ G 17 i = if i ∈ G then 0 else σ 17 i := by
  intro G; induction G with
  | nil => intro σ i; simp [hts]
  | cons j G ih =>
    intro σ i
    have : hts σ (j :: G) = hts (htF σ j) G := rfl
    rw [this, ih, htF_g, gF_17]
    by_cases c : i ∈ G
    · simp [c]
    · by_cases e : i = j
      · subst e; simp
      · simp [c, e]
end
