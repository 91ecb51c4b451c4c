section
variable {F S : fMS} {m n : Nat} {A : Nat → Nat} {σ τ ρ : fG2}
def shF (σ : fG2) (t : Int) : Nat → Int := fun k => if σ 5 k = t then σ 28 k else 0
def shB (σ : fG2) (t : Int) : Int := fSum (shF σ t) 1 (nt1 σ)
theorem sp_sharesBelow (h : RM F S m A σ) (hT : okT σ) (hS : okS σ) {t : Nat} (ht : t < 10) {post} (hp : post (iI (shB σ t))) : wp_X4_sharesBelow S m (iI t) post := by
  have q1 := hT.1; have q2 := hT.2.1
  have key : ∀ d k : Nat, ∀ acc : Int, (k + d : Int) = σ 4 0 → 1 ≤ k → 0 ≤ acc → acc + 20000 * d ≤ 1000000 → post (iI (acc + fSum (shF σ t) k d)) → wB_X4_sharesBelow_4 S post m (iI t) (d + 1) (iI acc) (iI k) := by
    intro d; induction d with
    | zero =>
      intro k acc hk k1 h0 ha hp
      simp only [wB_X4_sharesBelow_4]
      simp (disch := first | decide | omega) only [h.s, h.mm, iI_le, true_and]
      exact ⟨fun _ => by simpa [fSum] using hp, fun c => absurd c (by omega)⟩
    | succ d ih =>
      intro k acc hk k1 h0 ha hp
      have b := hT.p k (by omega); have bs := hS k
      simp only [fSum] at hp
      rw [wB_X4_sharesBelow_4]
      simp (disch := first | decide | omega) only [h.s, h.mm, h.R, h.Nt, h.kI, h.aT, iI_le, iI_in, iI_nat, iI_0, iI_1, iI_eq, iI_add, Option.some.injEq, exists_eq_left', true_and, Int.toNat_natCast]
      refine ⟨fun c => absurd c (by omega), fun c => ⟨by omega, ?_, fun c1 => ⟨by omega, ?_⟩⟩⟩
      · rintro c1 _ rfl _ rfl
        refine ih (k + 1) (acc + 0) (by omega) (by omega) (by omega) (by omega) ?_
        have : shF σ t k = 0 := if_neg c1
        rw [this] at hp; simpa using hp
      · rintro _ rfl _ rfl
        refine ih (k + 1) (acc + σ 28 k) (by omega) (by omega) (by omega) (by omega) ?_
        have : shF σ t k = σ 28 k := if_pos c1
        rw [this] at hp; rw [Int.add_assoc]; exact hp
  exact ⟨_, key (nt1 σ) 1 0 (by unfold nt1; omega) (by omega) (by omega) (by unfold nt1; omega) (by simpa [shB] using hp)⟩
def fairS (σ : fG2) : Prop := σ 10 0 ≤ σ 2 0 ∧ nxS (lyS σ) = none ∧ ∀ t : Nat, (t : Int) < σ 4 0 → shB (lyS σ) t ≤ lyS σ 28 t
noncomputable def fairV (σ : fG2) : Int := haveI := Classical.propDecidable; if fairS σ then 1 else 0
theorem nar01 {x : Int} (h : x = 0 ∨ x = 1) : narrow .boolean (.int (iI x)) = .int (iI x) := by rcases h with rfl | rfl <;> decide
theorem sp_fair108 (hT : okT τ) (hS : okS τ) (h : RM F S m A τ) {P Q : Prop} {post : Int32 → fMS → Nat → Prop} (hx1 : P → Q → post (iI 1) S n) (hx0 : ¬ (P ∧ Q) → post (iI 0) S n) :
    ∀ (d t : Nat) (x : Int), (t + d : Int) = τ 4 0 → (x = 0 ∨ x = 1) → ((x = 1 ∧ ∀ i : Nat, t ≤ i → (i : Int) < τ 4 0 → shB τ i ≤ τ 28 i) ↔ (P ∧ Q)) → wB_X4_isFair_108 post m (d + 1) S n (iI x) (iI t) := by
  have q1 := hT.1; have q2 := hT.2.1
  have sb : ∀ t : Int, 0 ≤ shB τ t ∧ shB τ t ≤ 200000 := by
    intro t
    have := fSum_bd (f := shF τ t) (c := 20000) (by omega) (nt1 τ) 1 (fun i _ _ => by unfold shF; have := hS i; split <;> omega)
    have h3 : nt1 τ ≤ 9 := by unfold nt1; omega
    unfold shB; omega
  intro d; induction d with
  | zero =>
    intro t x ht hx hq
    simp only [wB_X4_isFair_108]
    simp (disch := first | decide | omega) only [h.s, h.mm, iI_le, true_and]
    refine ⟨fun _ => ⟨nar01 hx, ?_⟩, fun c => absurd c (by omega)⟩
    rcases hx with rfl | rfl
    · exact hx0 (fun z => by have := (hq.mpr z).1; omega)
    · have := hq.mp ⟨rfl, fun i a b => absurd b (by omega)⟩
      exact hx1 this.1 this.2
  | succ d ih =>
    intro t x ht hx hq
    have bs := hS t; have sbt := sb t
    rw [wB_X4_isFair_108]
    simp (disch := first | decide | omega) only [h.s, h.mm, iI_le, true_and, iI_1, iI_add]
    refine ⟨fun c => absurd c (by omega), fun _ => ⟨fun c => ?_, fun c => ?_⟩⟩
    · have x0 : x = 0 := by
        rcases hx with e | e
        · exact e
        · rw [e] at c; exact absurd c (by decide)
      rintro _ rfl
      refine ih (t + 1) 0 (by omega) (Or.inl rfl) ⟨fun z => absurd z.1 (by decide), fun z => ?_⟩
      have := (hq.mpr z).1; omega
    · have x1 : x = 1 := by
        rcases hx with e | e
        · rw [e] at c; exact absurd rfl c
        · exact e
      refine sp_sharesBelow h hT hS (by omega) ?_
      simp (disch := first | decide | omega) only [h.R, h.Nt, h.kI, h.aT, iI_in, iI_nat, iI_lt, Option.some.injEq, exists_eq_left', true_and, Int.toNat_natCast]
      refine ⟨by omega, ?_, ?_⟩
      · rintro c2 _ rfl
        refine ih (t + 1) 0 (by omega) (Or.inl rfl) ⟨fun z => absurd z.1 (by decide), fun z => ?_⟩
        have := (hq.mpr z).2 t (Nat.le_refl _) (by omega); omega
      · rintro c2 _ rfl
        refine ih (t + 1) 1 (by omega) (Or.inr rfl) ⟨fun z => hq.mp ⟨x1, fun i a b => ?_⟩, fun z => ⟨rfl, fun i a b => (hq.mpr z).2 i (by omega) b⟩⟩
        by_cases e : i = t
        · subst e; omega
        · exact z.2 i (by omega) b
theorem rf_isFair (hi : iS σ) (hB : okB σ) (hS : okS σ) (h : RM F S m A σ) {post : Int32 → fMS → Nat → Prop} (p0 : rP F m n A (lyS σ) 0 (fairV σ) post) : wp_X4_isFair S n m post := by
  have w1 := h.wS 0 0 rfl
  have w2 := w1.wS 32 0 rfl
  obtain ⟨ψ, hψ⟩ : ∃ ψ, ψ = up (up σ 0 0 0) 32 0 0 := ⟨_, rfl⟩
  rw [← hψ] at w2
  have hC : eqC σ ψ := by rw [hψ]; exact (eqC.up0 (Or.inr rfl)).tr (eqC.up0 (Or.inl (by decide)))
  have hiψ := hC.iS hi
  have hBψ : okB ψ := by rw [hψ]; exact (hB.w (by omega)).w (by omega)
  have hSψ := hC.okS hS
  have hlC := lyS_cong hC
  have e0 : lyS ψ 0 0 = 0 := by rw [lyS_ne (by decide) (by decide), hψ, up_ne (by decide), up_at]
  have e32 : lyS ψ 32 0 = 0 := by rw [lyS_ne (by decide) (by decide), hψ, up_at]
  unfold wp_X4_isFair
  rw [h.mm, true_and]
  show wp_X4_laysShares (wI (wI S m 0 (iI 0)) m 32 (iI 0)) n m _
  refine sp_laysShares hiψ.1.T hiψ.1.U hiψ.1.L hiψ.1.c w2 hSψ (fun S1 h1 => ⟨h1.m, ?_⟩)
  obtain ⟨φ, hφ⟩ : ∃ φ, φ = lyS ψ := ⟨_, rfl⟩
  rw [← hφ] at h1 hlC e0 e32
  have hiφ : iS φ := by rw [hφ]; exact lyS_iS hiψ
  have hBφ : okB φ := by rw [hφ]; exact lyS_B hiψ.1 hSψ hBψ
  have hSφ : okS φ := by rw [hφ]; exact lyS_okS hiψ.1 hSψ
  obtain ⟨l, hl⟩ : ∃ l, l = lnS φ := ⟨_, rfl⟩
  refine sp_laysLine hiφ.1.T hiφ.1.J hBφ hSφ hiφ.1.V hiφ.1.W h1 (fun S2 τ h2 he2 hB2 hr2 => ⟨h2.m, ?_⟩)
  rw [← hl] at hr2
  have e10 : φ 10 0 = σ 10 0 := by rw [hlC 10 0 (by decide) (by decide)]; exact lyS_ne (by decide) (by decide)
  have e2 : φ 2 0 = σ 2 0 := by rw [hlC 2 0 (by decide) (by decide)]; exact lyS_ne (by decide) (by decide)
  have e4 : φ 4 0 = σ 4 0 := by rw [hlC 4 0 (by decide) (by decide)]; exact lyS_ne (by decide) (by decide)
  have hnx : nxS φ = nxS (lyS σ) := hlC.nx
  have shc : ∀ t, shB φ t = shB (lyS σ) t := by
    intro t
    unfold shB shF nt1
    simp only [hlC 4 _ (by decide) (by decide), hlC 5 _ (by decide) (by decide), hlC 28 _ (by decide) (by decide)]
  have sh28 : ∀ t, φ 28 t = lyS σ 28 t := fun t => hlC 28 t (by decide) (by decide)
  have key : ∀ (d k : Nat) (S : fMS) (τ : fG2) (x : Int), k + d = l.length → RM F S m A τ → eqM φ τ → okB τ → lnR τ l → τ 32 0 = 0 → (x = 0 ∨ x = 1) → ((x = 1 ∧ nxL φ (l.drop k) = none) ↔ (σ 10 0 ≤ σ 2 0 ∧ nxS φ = none)) → wB_X4_isFair_39 post m (d + 1) S n (iI x) (iI k) := by
    intro d; induction d with
    | zero =>
      intro k S τ x hk h he hB hr e32 hx hq
      have l10 := hr.2.1
      have e30 := hr.1
      rw [List.drop_eq_nil_of_le (by omega)] at hq
      simp only [wB_X4_isFair_39]
      simp (disch := first | decide | omega) only [h.s, h.mm, iI_le, true_and, e30]
      refine ⟨fun _ => ?_, fun c => absurd c (by omega)⟩
      have hiτ := he.I hiφ.1
      have hSτ := he.S hSφ
      have he4 : τ 4 0 = φ 4 0 := he 4 0 (by decide) (by decide) (by decide) (by decide)
      have fin : ∀ v : Int, v = fairV σ → post (iI v) S n := by
        intro v hv
        rw [hv]
        exact p0 S τ h (by rw [he 0 0 (by decide) (by decide) (by decide) (by decide)]; exact e0) (hlC.tr (eqC.of he)) hB hSτ
      have shτ : ∀ t, shB τ t = shB φ t := by
        intro t
        unfold shB shF nt1
        simp only [he 4 _ (by decide) (by decide) (by decide) (by decide), he 5 _ (by decide) (by decide) (by decide) (by decide), he 28 _ (by decide) (by decide) (by decide) (by decide)]
      have q1 := hiτ.T.1
      refine ⟨_, sp_fair108 hiτ.T hSτ h (P := σ 10 0 ≤ σ 2 0 ∧ nxS φ = none) (Q := ∀ t : Nat, (t : Int) < σ 4 0 → shB (lyS σ) t ≤ lyS σ 28 t) (fun z1 z2 => fin 1 ?_) (fun z => fin 0 ?_) (τ 4 0).toNat 0 x (by omega) hx ?_⟩
      · unfold fairV; rw [if_pos ⟨z1.1, by rw [← hnx]; exact z1.2, z2⟩]
      · unfold fairV; rw [if_neg (fun y => z ⟨⟨y.1, by rw [hnx]; exact y.2.1⟩, y.2.2⟩)]
      · constructor
        · rintro ⟨y1, y2⟩
          refine ⟨hq.mp ⟨y1, rfl⟩, fun t ht => ?_⟩
          have := y2 t (by omega) (by rw [he4, e4]; exact ht)
          rw [shτ, shc, he 28 _ (by decide) (by decide) (by decide) (by decide), sh28] at this; exact this
        · rintro ⟨y1, y2⟩
          refine ⟨(hq.mpr y1).1, fun t _ ht => ?_⟩
          rw [shτ, shc, he 28 _ (by decide) (by decide) (by decide) (by decide), sh28]
          exact y2 t (by rw [he4, e4] at ht; exact ht)
    | succ d ih =>
      intro k S τ x hk h he hB hr e32 hx hq
      have l10 := hr.2.1
      have e30 := hr.1
      have e29 := hr.2.2.1 k (by omega)
      have hd : l.drop k = l[k] :: l.drop (k + 1) := List.drop_eq_getElem_cons (by omega)
      have hgd : l.getD k 0 = l[k] := by rw [List.getD_eq_getElem?_getD, List.getElem?_eq_getElem (by omega)]; rfl
      rw [hgd] at e29
      obtain ⟨t, ht⟩ : ∃ t, t = l[k] := ⟨_, rfl⟩
      rw [← ht] at hd e29
      have htm : t ∈ lnS φ := by rw [← hl, ht]; exact List.getElem_mem _
      have ht3 := lnS_mem hiφ.1.T htm
      have hq2 := hiφ.1.T.2.1
      obtain ⟨j, j1, j2, j3, j4⟩ := fstS_ok hiφ.1.J t ht3.2.2
      have hj12 := hiφ.1.J.2.1
      have hiτ := he.I hiφ.1
      rw [hd] at hq
      have ej : (j : Int) < τ 12 0 := by rw [he 12 0 (by decide) (by decide) (by decide) (by decide)]; exact j2
      have hmk := mkQ_cong he.K he.e28 j
      have hvc := vcS_cong he.K he.e28 j
      -- behind the trial
      have beh : ∀ (S2 : fMS) (ρ : fG2) (G : List Nat) (y : Int), RM F S2 m A ρ → gon τ ρ G → gnR ρ G → (y = 0 ∨ y = 1) → (y = 1 ↔ canX φ j) → wB_X4_isFair_79 post (fun S9 n9 z0 z1 => wB_X4_isFair_39 post m (d + 1) S9 n9 z0 z1) m S2 n (iI x) (iI k) (iI y) := by
        intro S2 ρ G y h2 hg hr2 hy hyc
        unfold wB_X4_isFair_79
        rw [h2.mm, true_and]
        refine sp_restores h2 hg hr2 (fun S3 ω h3 hg3 z32 => ?_)
        have hn := gon_nil hiτ hg3
        have heω : eqM φ ω := he.tr (eqM.og hn)
        have hrω : lnR ω l := ⟨by rw [hn 30 0 (by decide) (by decide)]; exact hr.1, hr.2.1, fun i hi => by rw [hn 29 i (by decide) (by decide)]; exact hr.2.2.1 i hi, hr.2.2.2⟩
        simp only [iI_1, iI_add]
        have go := fun (x' : Int) (hx' : x' = 0 ∨ x' = 1) hq' => ih (k + 1) S3 ω x' (by omega) h3 heω hg3.2.2.1 hrω z32 hx' hq'
        refine ⟨fun c => ?_, fun c => ⟨fun c2 => ?_, fun c2 => ?_⟩⟩
        · have x0 : x = 0 := by
            rcases hx with e | e
            · exact e
            · rw [e] at c; exact absurd c (by decide)
          rintro _ rfl
          refine go 0 (Or.inl rfl) ⟨fun z => absurd z.1 (by decide), fun z => ?_⟩
          have := (hq.mpr z).1; omega
        · have y1 : y = 1 := by
            rcases hy with e | e
            · rw [e] at c2; exact absurd rfl c2
            · exact e
          have hc := hyc.mp y1
          rw [nxL_y j1 hc] at hq
          rintro _ rfl
          refine go 0 (Or.inl rfl) ⟨fun z => absurd z.1 (by decide), fun z => ?_⟩
          exact absurd (hq.mpr z).2 (by simp)
        · have x1 : x = 1 := by
            rcases hx with e | e
            · rw [e] at c; exact absurd rfl c
            · exact e
          have hc : ¬ canX φ j := fun z => by have := hyc.mpr z; rw [this] at c2; exact absurd c2 (by decide)
          rw [nxL_n j1 hc] at hq
          rintro _ rfl
          exact go 1 (Or.inr rfl) ⟨fun z => hq.mp ⟨x1, z.2⟩, fun z => ⟨rfl, (hq.mpr z).2⟩⟩
      rw [wB_X4_isFair_39]
      simp (disch := first | decide | omega) only [h.s, h.mm, h.R, h.Nt, h.kI, h.aT, iI_le, iI_in, iI_nat, true_and, Option.some.injEq, exists_eq_left', Int.toNat_natCast, e30, e29]
      refine ⟨fun c => absurd c (by omega), fun _ => ⟨by omega, sp_firstJob h hB hiτ.J (by omega) (hiτ.W t) ?_⟩⟩
      rw [he.K.fst, j1]
      have hnil : gnR τ [] := ⟨e32, by simp, fun i hi => by simp at hi⟩
      unfold wB_X4_isFair_74
      refine sp_canStart hiτ.T hiτ.J hB hiτ.P hiτ.U hiτ.c h ej (fun c1 => ?_) (fun c1 => ?_)
      · have c1 := (he.K.can j).mp c1
        refine ⟨fun _ => ?_, fun z => absurd z (by decide)⟩
        exact beh S τ [] 1 h (gon_rf hiτ hB) hnil (Or.inr rfl) ⟨fun _ => Or.inl c1, fun _ => rfl⟩
      · have c1 := fun z => c1 ((he.K.can j).mpr z)
        refine ⟨fun z => absurd rfl z, fun _ => ?_⟩
        refine sp_makesRoom hiτ hB h ej (fun q1 q2 S' ρ h' hg hr' => ?_) (fun q S' ρ h' hg z32 => ?_)
        · rw [hvc] at q2
          refine ⟨fun z => absurd z (by decide), fun _ => ?_⟩
          exact beh S' ρ _ 1 h' hg hr' (Or.inr rfl) ⟨fun _ => Or.inr ⟨hmk.mp q1, q2⟩, fun _ => rfl⟩
        · rw [hmk, hvc] at q
          refine ⟨fun _ => ?_, fun z => absurd rfl z⟩
          exact beh S' ρ [] 0 h' hg ⟨z32, by simp, fun i hi => by simp at hi⟩ (Or.inl rfl) ⟨fun z => absurd z (by decide), fun z => absurd z (fun z => z.elim c1 q)⟩
  have heφ : eqM φ τ := eqM.of he2
  have t32 : τ 32 0 = 0 := by rw [he2 32 0 (by decide) (by decide)]; exact e32
  have t10 : τ 10 0 = σ 10 0 := by rw [he2 10 0 (by decide) (by decide)]; exact e10
  have t2 : τ 2 0 = σ 2 0 := by rw [he2 2 0 (by decide) (by decide)]; exact e2
  have b10 := hB 10 0; have b2 := hB 2 0
  simp (disch := first | decide | omega) only [h2.s, h2.mm, h2.R, h2.Nt, h2.kI, h2.aT, iI_in, iI_nat, iI_0, iI_1, iI_lt, true_and, Option.some.injEq, exists_eq_left', Int.toNat_zero, t10, t2]
  refine ⟨by omega, fun c => ⟨_, key l.length 0 S2 τ 0 (by omega) h2 heφ hB2 hr2 t32 (Or.inl rfl) ⟨fun z => absurd z.1 (by decide), fun z => ?_⟩⟩, fun c => ⟨_, key l.length 0 S2 τ 1 (by omega) h2 heφ hB2 hr2 t32 (Or.inr rfl) ⟨fun z => ⟨by omega, ?_⟩, fun z => ⟨rfl, ?_⟩⟩⟩⟩
  · have := z.1; omega
  · have := z.2; rw [List.drop_zero] at this; unfold nxS; rw [← hl]; exact this
  · have := z.2; unfold nxS at this; rw [← hl] at this; rw [List.drop_zero]; exact this
end
