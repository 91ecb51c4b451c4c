-- ===== what every call keeps: new teams, jobs, reservations =====
section
variable {σ τ ρ ψ : fG2} {j : Nat} {c : Int}
theorem fSum_snoc {f : Nat → Int} : ∀ (d k : Nat), fSum f k (d + 1) = fSum f k d + f (k + d) := by
  intro d; induction d with
  | zero => intro k; simp [fSum]
  | succ d ih =>
    intro k
    have := ih (k + 1)
    simp only [fSum] at this ⊢
    rw [show k + (d + 1) = k + 1 + d by omega]; omega
theorem chF_congL (hT : okT σ) (h : ∀ k : Nat, (k : Int) < σ 4 0 → τ 5 k = σ 5 k) : ∀ (f : Nat) (t : Int), -1 ≤ t → t < σ 4 0 → chF τ f t = chF σ f t := by
  intro f; induction f with
  | zero => intro t _ _; rfl
  | succ f ih =>
    intro t h1 h2
    simp only [chF]
    by_cases e : t = -1
    · rw [if_pos e, if_pos e]
    · rw [if_neg e, if_neg e, h t.toNat (by omega)]
      have := hT.p t.toNat (by omega)
      rw [ih (σ 5 t.toNat) (by omega) ?_]
      by_cases z : t.toNat = 0
      · rw [z, hT.2.2.1]; omega
      · have := hT.2.2.2 t.toNat (by omega) (by omega); omega
theorem add_n {p w : Int} {g k : Nat} (h : g ≠ 4 ∧ g ≠ 5 ∧ g ≠ 6 ∧ g ≠ 7) : addS σ p w g k = σ g k := by
  unfold addS; rw [up_ne h.1, up_ne h.2.2.2, up_ne h.2.2.1, up_ne h.2.1]
theorem add_i {p w : Int} {g k : Nat} (h4 : g ≠ 4) (hk : k ≠ (σ 4 0).toNat) : addS σ p w g k = σ g k := by
  have hu : ∀ (σ' : fG2) (b : Nat) (v : Int), up σ' b (σ 4 0).toNat v g k = σ' g k := fun σ' b v => if_neg (fun z => hk z.2)
  unfold addS; rw [up_ne h4, hu, hu, hu]
theorem add_4 {p w : Int} : addS σ p w 4 0 = σ 4 0 + 1 := up_at
theorem add_5 {p w : Int} : addS σ p w 5 (σ 4 0).toNat = p := by unfold addS; rw [up_ne (by decide), up_ne (by decide), up_ne (by decide)]; exact up_at
theorem add_6 {p w : Int} : addS σ p w 6 (σ 4 0).toNat = w := by unfold addS; rw [up_ne (by decide), up_ne (by decide)]; exact up_at
theorem add_7 {p w : Int} : addS σ p w 7 (σ 4 0).toNat = 500 := by unfold addS; rw [up_ne (by decide)]; exact up_at
theorem add_kids {p w : Int} (hT : okT σ) {t : Int} (ht : t ≠ p) : kidsN (addS σ p w) t = kidsN σ t := by
  have q := hT.1
  have e1 : nt1 (addS σ p w) = nt1 σ + 1 := by unfold nt1; rw [add_4]; omega
  unfold kidsN
  rw [e1, fSum_snoc]
  have e2 : kidsF (addS σ p w) t (1 + nt1 σ) = 0 := by
    have : 1 + nt1 σ = (σ 4 0).toNat := by unfold nt1; omega
    unfold kidsF; rw [this, add_5, if_neg (Ne.symm ht)]
  rw [e2, Int.add_zero]
  refine fSum_cong _ _ (fun i _ hi => ?_)
  unfold kidsF; rw [add_i (by decide) (by unfold nt1 at hi; omega)]
theorem MP_add {p w : Int} (h : MP c σ) (hc : cdAdd σ p w = 0) : MP c (addS σ p w) := by
  obtain ⟨⟨⟨hi, hD, hE⟩, a2, a3, a4, a5, a6, a7, a8⟩, b, d⟩ := h
  unfold cdAdd at hc
  split at hc
  case isFalse => exact absurd hc (by decide)
  rename_i hp
  split at hc
  case isFalse => exact absurd hc (by decide)
  rename_i hw
  split at hc
  case isTrue => exact absurd hc (by decide)
  rename_i hn
  have hT := hi.T
  have q1 := hT.1; have q2 := hT.2.1
  have n10 : σ 4 0 ≠ 10 := fun z => hn (Or.inl z)
  have n9 : σ 9 p.toNat = 0 := by
    rcases Classical.em (σ 9 p.toNat = 0) with z | z
    · exact z
    · exact absurd (Or.inr z) hn
  have n : ∀ {g k : Nat}, g ≠ 4 ∧ g ≠ 5 ∧ g ≠ 6 ∧ g ≠ 7 → addS σ p w g k = σ g k := fun h => add_n h
  have hT' : okT (addS σ p w) := by
    refine ⟨by rw [add_4]; omega, by rw [add_4]; omega, by rw [add_i (by decide) (by omega)]; exact hT.2.2.1, fun k k1 hk => ?_⟩
    rw [add_4] at hk
    by_cases e : k = (σ 4 0).toNat
    · rw [e, add_5]; omega
    · rw [add_i (by decide) e]; exact hT.2.2.2 k k1 (by omega)
  have ch : ∀ j : Nat, (j : Int) < σ 12 0 → chS (addS σ p w) (σ 13 j) = chS σ (σ 13 j) := fun j hj => by
    have bj := hi.J.2.2 j hj
    exact chF_congL hT (fun k hk => add_i (by decide) (by omega)) 11 (σ 13 j) (by omega) (by omega)
  have jp : ∀ j : Nat, (j : Int) < σ 12 0 → σ 13 j ≠ p := fun j hj z => b.1 j hj (by rw [z]; exact n9)
  have vp : ∀ i : Nat, (i : Int) < σ 22 0 → σ 23 i ≠ p := fun i hi z => b.2.1 i hi (by rw [z]; exact n9)
  obtain ⟨i1, i2, i3, i4, i5, i6, i7, i8, i9⟩ := hi
  refine ⟨⟨⟨⟨hT', ?_, ?_, ?_, fun k => ?_, fun k => ?_, ?_, ?_, ?_⟩, ?_, ?_⟩, ?_, ?_, ?_, ?_, ?_, ?_, ?_⟩, ⟨?_, ?_, ?_, ?_⟩, ?_⟩
  · refine ⟨by rw [n (by decide)]; exact i2.1, by rw [n (by decide)]; exact i2.2.1, fun j hj => ?_⟩
    rw [n (by decide)] at hj
    rw [add_4, n (g := 13) (by decide), n (g := 14) (by decide), n (g := 15) (by decide)]
    have := i2.2.2 j hj; omega
  · unfold okP; simp only [n (g := 22) (by decide), n (g := 24) (by decide)]; exact i3
  · unfold okV; simp only [n (g := 8) (by decide)]; exact i4
  · by_cases e : k = (σ 4 0).toNat
    · rw [e, add_7]; omega
    · rw [add_i (by decide) e]; exact i5 k
  · by_cases e : k = (σ 4 0).toNat
    · rw [e, add_6]; omega
    · rw [add_i (by decide) e]; exact i6 k
  · rw [n (by decide)]; exact i7
  · have en : njN (addS σ p w) = njN σ := by unfold njN; rw [n (by decide)]
    refine ⟨fun k => ?_, fun k => ?_, ?_⟩
    · rw [n (by decide), en, i8.1 k]
      refine fSum_cong _ _ (fun j _ hj => ?_)
      unfold rnF; rw [n (by decide), n (by decide), n (by decide), ch j (njN_lt i2 hj)]
    · rw [n (by decide), en, i8.2.1 k]
      refine fSum_cong _ _ (fun j _ hj => ?_)
      unfold wtF; rw [n (by decide), n (by decide), n (by decide)]
    · rw [n (by decide), en, i8.2.2]
      refine fSum_cong _ _ (fun j _ hj => ?_)
      unfold alF; rw [n (by decide)]
  · rw [n (by decide)]; exact i9
  · exact okD_sub hD (n (by decide)) (fun i z => by rw [n (by decide)] at z; exact z) (fun i => n (by decide)) (n (by decide))
  · intro j hj
    rw [n (by decide)] at hj
    rw [n (by decide), add_kids hT (jp j hj)]; exact hE j hj
  · intro i hi
    rw [n (by decide)] at hi
    rw [n (by decide), add_kids hT (vp i hi), add_4]
    have := a2 i hi
    exact ⟨by omega, this.2⟩
  · intro k hk
    rw [add_4] at hk
    by_cases e : k = (σ 4 0).toNat
    · rw [e, add_6]; omega
    · rw [add_i (by decide) e]; exact a3 k (by omega)
  · intro k
    have := a4 k
    rw [n (by decide), n (by decide)]
    refine ⟨this.1, this.2.1, this.2.2.1, this.2.2.2.1, ?_⟩
    by_cases e : k = (σ 4 0).toNat
    · rw [e, add_6]; omega
    · rw [add_i (by decide) e]; exact i6 k
  · unfold okC; simp only [n (g := 20) (by decide), n (g := 18) (by decide)]; exact a5
  · unfold okR; simp only [n (g := 12) (by decide), n (g := 17) (by decide), n (g := 16) (by decide)]; exact a6
  · unfold okQ; simp only [n (g := 1) (by decide), n (g := 8) (by decide), n (g := 3) (by decide)]; exact a7
  · intro k hk h0
    rw [add_4] at hk
    rw [n (by decide)]
    by_cases e : (k : Int) = p
    · exact b.2.2.1 k (by omega) (by rw [show k = p.toNat by omega]; exact n9)
    · rw [add_kids hT e] at h0
      by_cases e2 : (k : Int) < σ 4 0
      · exact a8 k e2 h0
      · exact (b.2.2.2 k (by omega)).1
  · simp only [n (g := 12) (by decide), n (g := 13) (by decide), n (g := 9) (by decide)]; exact b.1
  · simp only [n (g := 22) (by decide), n (g := 23) (by decide), n (g := 9) (by decide)]; exact b.2.1
  · intro k hk h9
    rw [add_4] at hk
    rw [n (by decide)] at h9 ⊢
    by_cases e2 : (k : Int) < σ 4 0
    · exact b.2.2.1 k e2 h9
    · exact (b.2.2.2 k (by omega)).1
  · intro k hk
    rw [add_4] at hk
    rw [n (by decide), n (by decide)]
    exact b.2.2.2 k (by omega)
  · unfold frs; simp only [n (g := 12) (by decide), n (g := 16) (by decide), n (g := 18) (by decide)]; exact d
theorem sub_n {t s k : Int} {g i : Nat} (h : g ≠ 9 ∧ g ≠ 11 ∧ g ≠ 12 ∧ g ≠ 13 ∧ g ≠ 14 ∧ g ≠ 15 ∧ g ≠ 17 ∧ g ≠ 21) : subS σ t s k g i = σ g i := by
  unfold subS; rw [up_ne h.2.2.2.2.2.2.2, up_ne h.2.2.1, up_ne h.1, up_ne h.2.1, up_ne h.2.2.2.2.2.2.1, up_ne h.2.2.2.2.2.1, up_ne h.2.2.2.2.1, up_ne h.2.2.2.1]
theorem sub_i {t s k : Int} {g i : Nat} (h : g = 13 ∨ g = 14 ∨ g = 15 ∨ g = 17) (hk : i ≠ (σ 12 0).toNat) : subS σ t s k g i = σ g i := by
  have hu : ∀ (σ' : fG2) (b : Nat) (v : Int), up σ' b (σ 12 0).toNat v g i = σ' g i := fun σ' b v => if_neg (fun z => hk z.2)
  unfold subS; rw [up_ne (by omega), up_ne (by omega), up_ne (by omega), up_ne (by omega), hu, hu, hu, hu]
theorem sub_12 {t s k : Int} : subS σ t s k 12 0 = σ 12 0 + 1 := by unfold subS; rw [up_ne (by decide)]; exact up_at
theorem sub_21 {t s k : Int} : subS σ t s k 21 0 = σ 21 0 + 1 := by unfold subS; exact up_at
theorem sub_13 {t s k : Int} : subS σ t s k 13 (σ 12 0).toNat = t := by unfold subS; rw [up_ne (by decide), up_ne (by decide), up_ne (by decide), up_ne (by decide), up_ne (by decide), up_ne (by decide), up_ne (by decide)]; exact up_at
theorem sub_14 {t s k : Int} : subS σ t s k 14 (σ 12 0).toNat = s := by unfold subS; rw [up_ne (by decide), up_ne (by decide), up_ne (by decide), up_ne (by decide), up_ne (by decide), up_ne (by decide)]; exact up_at
theorem sub_15 {t s k : Int} : subS σ t s k 15 (σ 12 0).toNat = k := by unfold subS; rw [up_ne (by decide), up_ne (by decide), up_ne (by decide), up_ne (by decide), up_ne (by decide)]; exact up_at
theorem sub_17 {t s k : Int} : subS σ t s k 17 (σ 12 0).toNat = 0 := by unfold subS; rw [up_ne (by decide), up_ne (by decide), up_ne (by decide), up_ne (by decide)]; exact up_at
theorem sub_9 {t s k : Int} (i : Nat) : subS σ t s k 9 i = if i = t.toNat then 1 else σ 9 i := by
  unfold subS; rw [up_ne (by decide), up_ne (by decide)]
  by_cases e : i = t.toNat
  · rw [if_pos e, e]; exact up_at
  · rw [if_neg e, up_nj e, up_ne (by decide), up_ne (by decide), up_ne (by decide), up_ne (by decide), up_ne (by decide)]
theorem sub_11 {t s k : Int} (i : Nat) : subS σ t s k 11 i = if i = t.toNat then σ 11 i + s else σ 11 i := by
  unfold subS; rw [up_ne (by decide), up_ne (by decide), up_ne (by decide)]
  by_cases e : i = t.toNat
  · rw [if_pos e, e]; exact up_at
  · rw [if_neg e, up_nj e, up_ne (by decide), up_ne (by decide), up_ne (by decide), up_ne (by decide)]
theorem MP_sub {t s k : Int} (h : MP c σ) (hc : cdSub σ t s k = 0) (hlt : σ 12 0 < 512) : MP c (subS σ t s k) := by
  obtain ⟨⟨⟨hi, hD, hE⟩, a2, a3, a4, a5, a6, a7, a8⟩, b, d⟩ := h
  unfold cdSub at hc
  split at hc
  case isFalse => exact absurd hc (by decide)
  rename_i hp
  split at hc
  case isFalse => exact absurd hc (by decide)
  rename_i hw
  split at hc
  case isFalse => exact absurd hc (by decide)
  rename_i hl
  split at hc
  case isTrue => exact absurd hc (by decide)
  rename_i h40
  obtain ⟨N, hN⟩ : ∃ N, N = (σ 12 0).toNat := ⟨_, rfl⟩
  have q3 := hi.J.1
  have n : ∀ {g i : Nat}, g ≠ 9 ∧ g ≠ 11 ∧ g ≠ 12 ∧ g ≠ 13 ∧ g ≠ 14 ∧ g ≠ 15 ∧ g ≠ 17 ∧ g ≠ 21 → subS σ t s k g i = σ g i := fun h => sub_n h
  have n4 : ∀ i, subS σ t s k 4 i = σ 4 i := fun i => n (by decide)
  have n5 : ∀ i, subS σ t s k 5 i = σ 5 i := fun i => n (by decide)
  have oi : ∀ {g i : Nat}, g = 13 ∨ g = 14 ∨ g = 15 ∨ g = 17 → i ≠ N → subS σ t s k g i = σ g i := fun h hk => sub_i h (by omega)
  have e13 : subS σ t s k 13 N = t := by rw [hN]; exact sub_13
  have e14 : subS σ t s k 14 N = s := by rw [hN]; exact sub_14
  have e15 : subS σ t s k 15 N = k := by rw [hN]; exact sub_15
  have e17 : subS σ t s k 17 N = 0 := by rw [hN]; exact sub_17
  have ch : ∀ t', chS (subS σ t s k) t' = chS σ t' := fun t' => chF_cong (fun i => n5 i) 11 t'
  have ek := kids_c n4 n5
  obtain ⟨i1, i2, i3, i4, i5, i6, i7, i8, i9⟩ := hi
  have en : njN (subS σ t s k) = njN σ + 1 := by unfold njN; rw [sub_12]; omega
  have eN : 0 + njN σ = N := by unfold njN; omega
  refine ⟨⟨⟨⟨?_, ?_, ?_, ?_, fun i => ?_, fun i => ?_, ?_, ?_, ?_⟩, ?_, ?_⟩, okZ_ne n4 n5 (n (by decide)) (fun i => n (by decide)) a2, okW1_ne (n4 0) (fun i => n (by decide)) a3, ?_, ?_, ?_, ?_, ?_⟩, ⟨?_, ?_, ?_, ?_⟩, ?_⟩
  · unfold okT; simp only [n4, n5]; exact i1
  · refine ⟨by rw [sub_12]; omega, by rw [sub_12]; omega, fun i hi => ?_⟩
    rw [sub_12] at hi
    by_cases e : i = N
    · rw [e, e13, e14, e15, n4]; omega
    · rw [oi (by omega) e, oi (by omega) e, oi (by omega) e, n4]; exact i2.2.2 i (by omega)
  · unfold okP; simp only [n (g := 22) (by decide), n (g := 24) (by decide)]; exact i3
  · unfold okV; simp only [n (g := 8) (by decide)]; exact i4
  · rw [n (by decide)]; exact i5 i
  · rw [n (by decide)]; exact i6 i
  · rw [n (by decide)]; exact i7
  · refine ⟨fun i => ?_, fun i => ?_, ?_⟩
    · rw [n (by decide), en, fSum_snoc, eN, i8.1 i]
      have z : rnF (subS σ t s k) i N = 0 := by unfold rnF; rw [e17, if_neg (fun z => by have := z.1; omega)]
      rw [z, Int.add_zero]
      refine fSum_cong _ _ (fun j _ hj => ?_)
      unfold rnF; rw [oi (by omega) (by omega), oi (by omega) (by omega), oi (by omega) (by omega), ch]
    · rw [sub_11, en, fSum_snoc, eN, i8.2.1 i]
      have z : wtF (subS σ t s k) i N = if i = t.toNat then s else 0 := by
        unfold wtF; rw [e17, e13, e14]
        by_cases e : i = t.toNat
        · rw [if_pos e, if_pos ⟨rfl, by omega⟩]
        · rw [if_neg e, if_neg (fun z => e (by have := z.2; omega))]
      have y : fSum (wtF (subS σ t s k) i) 0 (njN σ) = fSum (wtF σ i) 0 (njN σ) := by
        refine fSum_cong _ _ (fun j _ hj => ?_)
        unfold wtF; rw [oi (by omega) (by omega), oi (by omega) (by omega), oi (by omega) (by omega)]
      rw [z, y]
      split <;> omega
    · rw [sub_21, en, fSum_snoc, eN, i8.2.2]
      have z : alF (subS σ t s k) N = 1 := by unfold alF; rw [e17]; exact if_pos (Or.inl rfl)
      have y : fSum (alF (subS σ t s k)) 0 (njN σ) = fSum (alF σ) 0 (njN σ) := by
        refine fSum_cong _ _ (fun j _ hj => ?_)
        unfold alF; rw [oi (by omega) (by omega)]
      rw [z, y]
  · rw [sub_21]; omega
  · refine ⟨fun i j hi hj h1 h2 h3 => ?_, fun i hi h1 => ?_⟩
    · rw [sub_12] at hi hj
      have ni : i ≠ N := fun z => by rw [z, e17] at h1; omega
      have nj : j ≠ N := fun z => by rw [z, e17] at h2; omega
      rw [oi (by omega) ni] at h1
      rw [oi (by omega) nj] at h2
      rw [n (by decide), n (by decide)] at h3
      exact hD.1 i j (by omega) (by omega) h1 h2 h3
    · rw [sub_12] at hi
      have ni : i ≠ N := fun z => by rw [z, e17] at h1; omega
      rw [oi (by omega) ni] at h1
      rw [n (by decide), n (by decide)]
      exact hD.2 i (by omega) h1
  · intro i hi
    rw [sub_12] at hi
    rw [ek]
    by_cases e : i = N
    · rw [e, e13]; exact hl
    · rw [oi (by omega) e]; exact hE i (by omega)
  · unfold okS; simp only [n (g := 27) (by decide), n (g := 28) (by decide), n (g := 6) (by decide)]; exact a4
  · unfold okC; simp only [n (g := 20) (by decide), n (g := 18) (by decide)]; exact a5
  · intro i hi h1
    rw [sub_12] at hi
    have ni : i ≠ N := fun z => by rw [z, e17] at h1; omega
    rw [oi (by omega) ni] at h1
    rw [n (by decide)]; exact a6 i (by omega) h1
  · unfold okQ; simp only [n (g := 1) (by decide), n (g := 8) (by decide), n (g := 3) (by decide)]; exact a7
  · unfold okN; rw [ek]; simp only [n4, n (g := 8) (by decide)]; exact a8
  · intro i hi
    rw [sub_12] at hi
    rw [sub_9]
    split
    · decide
    · rename_i c2
      by_cases e : i = N
      · rw [e, e13] at c2; exact absurd rfl c2
      · rw [oi (by omega) e]; exact b.1 i (by omega)
  · intro i hi
    rw [n (by decide)] at hi
    rw [sub_9, n (by decide)]
    split
    · decide
    · exact b.2.1 i hi
  · intro i hi h9
    rw [n4] at hi
    rw [sub_9] at h9
    rw [n (by decide)]
    split at h9
    · exact absurd h9 (by decide)
    · exact b.2.2.1 i hi h9
  · intro i hi
    rw [n4] at hi
    rw [sub_9, if_neg (by omega), n (by decide)]; exact b.2.2.2 i hi
  · intro i hi
    rw [sub_12] at hi
    rw [n (by decide), n (by decide)]; exact d i (by omega)
theorem MP_resB {t k : Nat} {u : Int} (h : MP c σ) (ht : (t : Int) < σ 4 0) (hu : 0 ≤ σ 24 k + u ∧ σ 24 k + u ≤ 200) : MP c (resB σ t k u) := by
  obtain ⟨⟨⟨hi, hD, hE⟩, a2, a3, a4, a5, a6, a7, a8⟩, b, d⟩ := h
  have n : ∀ {g i : Nat}, g ≠ 9 ∧ g ≠ 24 → resB σ t k u g i = σ g i := fun h => by unfold resB; rw [up_ne h.1, up_ne h.2]
  have n4 : ∀ i, resB σ t k u 4 i = σ 4 i := fun i => n (by decide)
  have n5 : ∀ i, resB σ t k u 5 i = σ 5 i := fun i => n (by decide)
  have e9 : ∀ i, resB σ t k u 9 i = if i = t then 1 else σ 9 i := fun i => by
    unfold resB
    by_cases e : i = t
    · rw [if_pos e, e]; exact up_at
    · rw [if_neg e, up_nj e, up_ne (by decide)]
  have ch : ∀ t', chS (resB σ t k u) t' = chS σ t' := fun t' => chF_cong (fun i => n5 i) 11 t'
  have ek := kids_c n4 n5
  obtain ⟨i1, i2, i3, i4, i5, i6, i7, i8, i9⟩ := hi
  refine ⟨⟨⟨⟨?_, ?_, ?_, ?_, fun i => ?_, fun i => ?_, ?_, ?_, ?_⟩, ?_, ?_⟩, okZ_ne n4 n5 (n (by decide)) (fun i => n (by decide)) a2, okW1_ne (n4 0) (fun i => n (by decide)) a3, ?_, ?_, ?_, ?_, ?_⟩, ⟨?_, ?_, ?_, ?_⟩, ?_⟩
  · unfold okT; simp only [n4, n5]; exact i1
  · unfold okJ; simp only [n (g := 12) (by decide), n (g := 13) (by decide), n4, n (g := 14) (by decide), n (g := 15) (by decide)]; exact i2
  · refine ⟨by rw [n (by decide)]; exact i3.1, by rw [n (by decide)]; exact i3.2.1, fun i => ?_⟩
    by_cases e : i = k
    · have : resB σ t k u 24 i = σ 24 k + u := by unfold resB; rw [up_ne (by decide), e]; exact up_at
      rw [this]; exact hu
    · have : resB σ t k u 24 i = σ 24 i := by unfold resB; rw [up_ne (by decide), up_nj e]
      rw [this]; exact i3.2.2 i
  · unfold okV; simp only [n (g := 8) (by decide)]; exact i4
  · rw [n (by decide)]; exact i5 i
  · rw [n (by decide)]; exact i6 i
  · rw [n (by decide)]; exact i7
  · unfold tie njN rnF wtF alF; simp only [ch]; simp (disch := decide) only [n]; exact i8
  · rw [n (by decide)]; exact i9
  · exact okD_sub hD (n (by decide)) (fun i z => by rw [n (by decide)] at z; exact z) (fun i => n (by decide)) (n (by decide))
  · unfold okE; rw [ek]; simp only [n (g := 12) (by decide), n (g := 13) (by decide)]; exact hE
  · unfold okS; simp only [n (g := 27) (by decide), n (g := 28) (by decide), n (g := 6) (by decide)]; exact a4
  · unfold okC; simp only [n (g := 20) (by decide), n (g := 18) (by decide)]; exact a5
  · unfold okR; simp only [n (g := 12) (by decide), n (g := 17) (by decide), n (g := 16) (by decide)]; exact a6
  · unfold okQ; simp only [n (g := 1) (by decide), n (g := 8) (by decide), n (g := 3) (by decide)]; exact a7
  · unfold okN; rw [ek]; simp only [n4, n (g := 8) (by decide)]; exact a8
  · intro i hi
    rw [n (by decide)] at hi
    rw [e9, n (by decide)]
    split
    · decide
    · exact b.1 i hi
  · intro i hi
    rw [n (by decide)] at hi
    rw [e9, n (by decide)]
    split
    · decide
    · exact b.2.1 i hi
  · intro i hi h9
    rw [n4] at hi
    rw [e9] at h9
    rw [n (by decide)]
    split at h9
    · exact absurd h9 (by decide)
    · exact b.2.2.1 i hi h9
  · intro i hi
    rw [n4] at hi
    rw [e9, if_neg (by omega), n (by decide)]; exact b.2.2.2 i hi
  · unfold frs; simp only [n (g := 12) (by decide), n (g := 16) (by decide), n (g := 18) (by decide)]; exact d
/-- all but the reservations is as before -/
theorem MP_22 (h : MP c σ) (n : ∀ {g i : Nat}, g < 22 ∨ 26 < g → τ g i = σ g i) (hP : okP τ) (hZ : ∀ i : Nat, (i : Int) < τ 22 0 → (0 ≤ τ 23 i ∧ τ 23 i < σ 4 0) ∧ kidsN σ (τ 23 i) = 0) (hW2 : ∀ i : Nat, (i : Int) < τ 22 0 → σ 9 (τ 23 i).toNat ≠ 0) : MP c τ := by
  obtain ⟨⟨⟨hi, hD, hE⟩, a2, a3, a4, a5, a6, a7, a8⟩, b, d⟩ := h
  have n4 : ∀ i, τ 4 i = σ 4 i := fun i => n (by decide)
  have n5 : ∀ i, τ 5 i = σ 5 i := fun i => n (by decide)
  have ch : ∀ t', chS τ t' = chS σ t' := fun t' => chF_cong (fun i => n5 i) 11 t'
  have ek := kids_c n4 n5
  obtain ⟨i1, i2, i3, i4, i5, i6, i7, i8, i9⟩ := hi
  refine ⟨⟨⟨⟨?_, ?_, hP, ?_, fun i => ?_, fun i => ?_, ?_, ?_, ?_⟩, ?_, ?_⟩, ?_, okW1_ne (n4 0) (fun i => n (by decide)) a3, ?_, ?_, ?_, ?_, ?_⟩, ⟨?_, ?_, ?_, ?_⟩, ?_⟩
  · unfold okT; simp only [n4, n5]; exact i1
  · unfold okJ; simp only [n (g := 12) (by decide), n (g := 13) (by decide), n4, n (g := 14) (by decide), n (g := 15) (by decide)]; exact i2
  · unfold okV; simp only [n (g := 8) (by decide)]; exact i4
  · rw [n (by decide)]; exact i5 i
  · rw [n (by decide)]; exact i6 i
  · rw [n (by decide)]; exact i7
  · unfold tie njN rnF wtF alF; simp only [ch]; simp (disch := decide) only [n]; exact i8
  · rw [n (by decide)]; exact i9
  · exact okD_sub hD (n (by decide)) (fun i z => by rw [n (by decide)] at z; exact z) (fun i => n (by decide)) (n (by decide))
  · unfold okE; rw [ek]; simp only [n (g := 12) (by decide), n (g := 13) (by decide)]; exact hE
  · unfold okZ; rw [ek, n4]; exact hZ
  · unfold okS; simp only [n (g := 27) (by decide), n (g := 28) (by decide), n (g := 6) (by decide)]; exact a4
  · unfold okC; simp only [n (g := 20) (by decide), n (g := 18) (by decide)]; exact a5
  · unfold okR; simp only [n (g := 12) (by decide), n (g := 17) (by decide), n (g := 16) (by decide)]; exact a6
  · unfold okQ; simp only [n (g := 1) (by decide), n (g := 8) (by decide), n (g := 3) (by decide)]; exact a7
  · unfold okN; rw [ek]; simp only [n4, n (g := 8) (by decide)]; exact a8
  · simp only [n (g := 12) (by decide), n (g := 13) (by decide), n (g := 9) (by decide)]; exact b.1
  · simp only [n (g := 9) (by decide)]; exact hW2
  · simp only [n4, n (g := 8) (by decide), n (g := 9) (by decide)]; exact b.2.2.1
  · simp only [n4, n (g := 8) (by decide), n (g := 9) (by decide)]; exact b.2.2.2
  · unfold frs; simp only [n (g := 12) (by decide), n (g := 16) (by decide), n (g := 18) (by decide)]; exact d
theorem MP_dr {k : Nat} (h : MP c σ) (hk : (k : Int) < σ 22 0) : MP c (drS σ k) := by
  have hP := h.1.1.1.P
  have q1 := hP.1; have q2 := hP.2.1
  refine MP_22 h (fun hg => dr_g hg) ⟨by rw [dr_22]; omega, by rw [dr_22]; omega, fun i => ?_⟩ (fun i hi => ?_) (fun i hi => ?_)
  · unfold drS drF
    rw [if_neg (by omega)]
    split
    · exact hP.2.2 (i + 1)
    · exact hP.2.2 i
  · rw [dr_22] at hi
    rw [dr_i (by omega) hi]
    split
    · exact h.1.2.1 i (by omega)
    · exact h.1.2.1 (i + 1) (by omega)
  · rw [dr_22] at hi
    rw [dr_i (by omega) hi]
    split
    · exact h.2.1.2.1 i (by omega)
    · exact h.2.1.2.1 (i + 1) (by omega)
theorem MP_res {t u f e : Int} (h : MP c σ) (hc : cdRes σ t u f e = 0) : MP c (resS σ t u f e) := by
  obtain ⟨t0, ⟨u1, f1, e1, e2, hs⟩, hl, h8⟩ := cdRes_0 hc
  have hi := h.1.1.1
  have hP := hi.P
  have q1 := hP.1; have q2 := hP.2.1
  obtain ⟨l, rfl⟩ : ∃ l : Nat, t = l := ⟨t.toNat, by omega⟩
  rcases spS_ok hP l f e with d | ⟨k, z1, z2, z3, -⟩
  · have eS : resS σ l u f e = resB (resA σ l f e) l (σ 22 0).toNat u := by unfold resS; rw [if_pos d, Int.toNat_natCast]
    rw [eS]
    obtain ⟨N, hN⟩ : ∃ N, N = (σ 22 0).toNat := ⟨_, rfl⟩
    rw [← hN]
    have hβ : MP c (resB σ l 0 0) := MP_resB h t0.2 (by have := hP.2.2 0; omega)
    have g : ∀ {g k : Nat}, g < 22 ∨ 26 < g → resA σ l f e g k = σ g k := fun hg => by
      unfold resA; rw [up_ne (by omega), up_ne (by omega), up_ne (by omega), up_ne (by omega), up_ne (by omega)]
    have a22 : resB (resA σ l f e) l N u 22 0 = σ 22 0 + 1 := by unfold resB; rw [up_ne (by decide), up_ne (by decide)]; exact up_at
    have a23 : ∀ i, resB (resA σ l f e) l N u 23 i = if i = N then (l : Int) else σ 23 i := fun i => by
      unfold resB; rw [up_ne (by decide), up_ne (by decide)]
      unfold resA; rw [up_ne (by decide), up_ne (by decide), up_ne (by decide), up_ne (by decide), ← hN]
      by_cases z : i = N
      · rw [if_pos z, z]; exact up_at
      · rw [if_neg z, up_nj z]
    have a24 : ∀ i, resB (resA σ l f e) l N u 24 i = if i = N then u else σ 24 i := fun i => by
      have w : ∀ i, resA σ l f e 24 i = if i = N then 0 else σ 24 i := fun i => by
        unfold resA; rw [up_ne (by decide), up_ne (by decide), up_ne (by decide), ← hN]
        by_cases z : i = N
        · rw [if_pos z, z]; exact up_at
        · rw [if_neg z, up_nj z, up_ne (by decide)]
      unfold resB; rw [up_ne (by decide)]
      by_cases z : i = N
      · rw [if_pos z, z, up_at, w, if_pos rfl]; omega
      · rw [if_neg z, up_nj z, w, if_neg z]
    have n4 : ∀ i, resB σ l 0 0 4 i = σ 4 i := fun i => by unfold resB; rw [up_ne (by decide), up_ne (by decide)]
    have n5 : ∀ i, resB σ l 0 0 5 i = σ 5 i := fun i => by unfold resB; rw [up_ne (by decide), up_ne (by decide)]
    have ek : kidsN (resB σ l 0 0) = kidsN σ := kids_c n4 n5
    have e9 : ∀ i, resB σ l 0 0 9 i = if i = l then 1 else σ 9 i := fun i => by
      unfold resB
      by_cases z : i = l
      · rw [if_pos z, z]; exact up_at
      · rw [if_neg z, up_nj z, up_ne (by decide)]
    refine MP_22 hβ (fun {g' i} hg => ?_) ⟨by rw [a22]; omega, by rw [a22]; omega, fun i => ?_⟩ (fun i hi => ?_) (fun i hi => ?_)
    · by_cases z : g' = 9
      · subst z
        rw [e9]
        by_cases y : i = l
        · subst y; rw [if_pos rfl]; unfold resB; exact up_at
        · rw [if_neg y]; unfold resB; rw [up_nj y, up_ne (by decide)]; exact g (by decide)
      · have x1 : resB (resA σ l f e) l N u g' i = resA σ l f e g' i := by unfold resB; rw [up_ne z, up_ne (by omega)]
        have x2 : resB σ l 0 0 g' i = σ g' i := by unfold resB; rw [up_ne z, up_ne (by omega)]
        rw [x1, x2]; exact g hg
    · rw [a24]
      split
      · omega
      · exact hP.2.2 i
    · rw [a22] at hi
      rw [a23, n4, ek]
      split
      · exact ⟨t0, hl⟩
      · rename_i z; exact h.1.2.1 i (by omega)
    · rw [a22] at hi
      rw [a23, e9]
      split
      · rename_i z; rw [Int.toNat_natCast, if_pos rfl]; decide
      · rename_i z
        split
        · decide
        · exact h.2.1.2.1 i (by omega)
  · have d : ¬ spS σ l f e = -1 := by omega
    have eS : resS σ l u f e = resB σ l k u := by unfold resS; rw [if_neg d, Int.toNat_natCast, z1, Int.toNat_natCast]
    rw [eS]
    have hs := hs.resolve_left d
    rw [z1, Int.toNat_natCast] at hs
    exact MP_resB h t0.2 (by have := hP.2.2 k; omega)
end
