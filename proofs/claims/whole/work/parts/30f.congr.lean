/-- the same in all that the serving looks at or writes -/
def eqC (σ τ : fG2) : Prop := ∀ g k : Nat, 1 ≤ g → g ≤ 28 → τ g k = σ g k
section
variable {σ τ : fG2} {j : Nat}
theorem eqC.rf : eqC σ σ := fun _ _ _ _ => rfl
theorem eqC.tr {a b c : fG2} (h : eqC a b) (h2 : eqC b c) : eqC a c := fun g k h0 h1 => (h2 g k h0 h1).trans (h g k h0 h1)
theorem eqC.sy (h : eqC σ τ) : eqC τ σ := fun g k h0 h1 => (h g k h0 h1).symm
theorem eqC.K (h : eqC σ τ) : eqK σ τ := fun g k a b => h g k a (by omega)
theorem eqC.of (h : eqM σ τ) : eqC σ τ := fun g k a b => h g k (by omega) (by omega) (by omega) (by omega)
theorem eqC.e28 (h : eqC σ τ) (k : Nat) : τ 28 k = σ 28 k := h 28 k (by omega) (by omega)
theorem eqC.up0 {f i : Nat} {v : Int} (hf : 29 ≤ f ∨ f = 0) : eqC σ (up σ f i v) := fun g k _ _ => up_ne (by omega)
theorem eqC.up (h : eqC σ τ) {f j : Nat} {v : Int} : eqC (up σ f j v) (up τ f j v) := by
  intro g k a b
  by_cases e : g = f ∧ k = j
  · obtain ⟨rfl, rfl⟩ := e; rw [up_at, up_at]
  · show (if g = f ∧ k = j then v else τ g k) = if g = f ∧ k = j then v else σ g k
    rw [if_neg e, if_neg e]; exact h g k a b
theorem eqC.rm (h : eqC σ τ) (t : Nat) (u : Int) : eqC (rmS σ t u) (rmS τ t u) := by
  intro g k a b
  unfold rmS adL
  rw [h.K.ch, h g k a b]
theorem eqC.g (h : eqC σ τ) (j : Nat) (s w u : Int) : eqC (gF σ j s w u) (gF τ j s w u) := by
  unfold gF
  have e13 := h 13 j (by decide) (by decide)
  have e11 := h 11 (σ 13 j).toNat (by decide) (by decide)
  rw [e13]
  dsimp only
  rw [e11]
  exact (h.up.up).rm _ _
theorem eqC.ht (h : eqC σ τ) (j : Nat) : eqC (htF σ j) (htF τ j) := by
  rw [htF_g, htF_g, h 14 j (by decide) (by decide)]; exact h.g _ _ _ _
theorem eqC.hts (h : eqC σ τ) : ∀ G : List Nat, eqC (hts σ G) (hts τ G) := by
  intro G
  induction G generalizing σ τ with
  | nil => exact h
  | cons j G ih => exact ih (h.ht j)
theorem eqC.stp (h : eqC σ τ) (G : List Nat) : eqC (stpF σ G) (stpF τ G) := by
  intro g k a b
  unfold stpF
  rw [h g k a b]
theorem eqC.st (h : eqC σ τ) (j : Nat) : eqC (stF σ j) (stF τ j) := by
  rw [stF_g, stF_g, h 14 j (by decide) (by decide)]
  refine eqC.g ?_ _ _ _ _
  unfold stB
  rw [h 15 j (by decide) (by decide), h 20 0 (by decide) (by decide)]
  exact ((h.up).up).up
theorem eqC.gn (h : eqC σ τ) (j : Nat) : gnS τ j = gnS σ j := by
  unfold gnS
  by_cases c : canP σ j
  · rw [if_pos c, if_pos ((h.K.can j).mpr c)]
  · rw [if_neg c, if_neg (fun z => c ((h.K.can j).mp z)), vcS_cong h.K h.e28]
theorem eqC.sS (h : eqC σ τ) (j : Nat) : eqC (stpS σ j) (stpS τ j) := by
  unfold stpS
  rw [h.gn j]
  exact ((h.hts _).stp _).st j
theorem eqK.at (h : eqK σ τ) (l : List Nat) (t : Nat) : ∀ a, atB τ l t a = atB σ l t a := by
  intro a; induction a with
  | zero => rfl
  | succ a ih =>
    unfold atB
    by_cases c : ahd σ t (l.getD a 0)
    · rw [if_pos c, if_pos ((h.ah _ _).mpr c), ih]
    · rw [if_neg c, if_neg (fun z => c ((h.ah _ _).mp z))]
theorem eqK.ln (h : eqK σ τ) : lnS τ = lnS σ := by
  have : ∀ (d t : Nat) (l : List Nat), lnF τ t d l = lnF σ t d l := by
    intro d; induction d with
    | zero => intro t l; rfl
    | succ d ih =>
      intro t l
      unfold lnF
      by_cases c : kidsN σ t = 0 ∧ fstS σ t ≠ -1
      · rw [if_pos c, if_pos (by rw [h.kids, h.fst]; exact c), ih, h.at]
      · rw [if_neg c, if_neg (by rw [h.kids, h.fst]; exact c), ih]
  unfold lnS; rw [this, h 4 0 (by omega) (by omega)]
theorem nxL_cong (h : eqK σ τ) (h28 : ∀ k, τ 28 k = σ 28 k) : ∀ l : List Nat, nxL τ l = nxL σ l := by
  intro l; induction l with
  | nil => rfl
  | cons t l ih =>
    unfold nxL
    rw [h.fst]
    by_cases c : canX σ (fstS σ t).toNat
    · rw [if_pos c, if_pos ((canX_cong h h28 _).mpr c)]
    · rw [if_neg c, if_neg (fun z => c ((canX_cong h h28 _).mp z)), ih]
theorem eqC.nx (h : eqC σ τ) : nxS τ = nxS σ := by unfold nxS; rw [h.K.ln]; exact nxL_cong h.K h.e28 _
theorem eqC.srv : ∀ (d : Nat) (σ τ : fG2), eqC σ τ → eqC (srvN d σ) (srvN d τ) := by
  intro d; induction d with
  | zero => intro σ τ h; exact h
  | succ d ih =>
    intro σ τ h
    cases hx : nxS σ with
    | none => rw [srvN_none _ hx, srvN_none _ (h.nx.trans hx)]; exact h
    | some j => rw [srvN_some _ hx, srvN_some _ (h.nx.trans hx)]; exact ih _ _ (h.sS j)
theorem eqM.sS (h : eqM σ τ) (j : Nat) : eqM (stpS σ j) (stpS τ j) := by
  unfold stpS
  rw [(eqC.of h).gn j]
  exact ((h.hts _).stp _).st j
theorem eqM.srv : ∀ (d : Nat) (σ τ : fG2), eqM σ τ → eqM (srvN d σ) (srvN d τ) := by
  intro d; induction d with
  | zero => intro σ τ h; exact h
  | succ d ih =>
    intro σ τ h
    cases hx : nxS σ with
    | none => rw [srvN_none _ hx, srvN_none _ ((eqC.of h).nx.trans hx)]; exact h
    | some j => rw [srvN_some _ hx, srvN_some _ ((eqC.of h).nx.trans hx)]; exact ih _ _ (h.sS j)
theorem eqC.D (h : eqC σ τ) (hD : okD σ) : okD τ := by
  unfold okD; simp only [h 12 _ (by decide) (by decide), h 17 _ (by decide) (by decide), h 19 _ (by decide) (by decide), h 20 _ (by decide) (by decide)]; exact hD
theorem eqC.E (h : eqC σ τ) (hE : okE σ) : okE τ := by
  unfold okE; simp only [h.K.kids, h 12 _ (by decide) (by decide), h 13 _ (by decide) (by decide)]; exact hE
theorem eqC.I (h : eqC σ τ) (hi : inv σ) : inv τ := inv_eq hi (fun g k a _ _ _ _ _ hg => h g k (by omega) (by omega))
theorem eqC.iS (h : eqC σ τ) (hi : iS σ) : iS τ := ⟨h.I hi.1, h.D hi.2.1, h.E hi.2.2⟩
theorem ly2_K : ∀ (d t : Nat) (σ : fG2), eqK σ (ly2 t d σ) := by
  intro d; induction d with
  | zero => intro t σ; exact eqK.rf
  | succ d ih => intro t σ; exact (gvN_K t _ σ).tr (ih _ _)
theorem ly2_okS : ∀ (d t : Nat) (σ : fG2), okT σ → okS σ → okS (ly2 t d σ) := by
  intro d; induction d with
  | zero => intro t σ _ h; exact h
  | succ d ih => intro t σ hT h; exact ih _ _ ((gvN_K t _ σ).T hT) (gvN_okS t _ σ hT h)
theorem gvN_ne (t : Int) {g k : Nat} (hg : g ≠ 28) : ∀ (u : Nat) (σ : fG2), gvN t u σ g k = σ g k := by
  intro u; induction u with
  | zero => intro σ; rfl
  | succ u ih => intro σ; exact (ih _).trans (gv1_ne t hg)
theorem ly2_ne {g k : Nat} (hg : g ≠ 28) : ∀ (d t : Nat) (σ : fG2), ly2 t d σ g k = σ g k := by
  intro d; induction d with
  | zero => intro t σ; rfl
  | succ d ih => intro t σ; exact (ih _ _).trans (gvN_ne _ hg _ _)
theorem lyS_ne {g k : Nat} (h1 : g ≠ 27) (h2 : g ≠ 28) : lyS σ g k = σ g k := by
  unfold lyS
  try dsimp only
  rw [ly2_ne h2, up_ne h2]
  unfold ly1; rw [if_neg (fun z => h1 z.1), if_neg (fun z => h2 z.1)]
theorem lyS_K : eqK σ (lyS σ) := fun g k a b => lyS_ne (by omega) (by omega)
theorem lyS_okS (hi : inv σ) (hS : okS σ) : okS (lyS σ) := by
  have wb : ∀ t, 0 ≤ dmS σ t ∧ dmS σ t ≤ 20000 := fun t => ⟨(dm_b hi.T hi.U hi.L 11 t).1, (dm_b hi.T hi.U hi.L 11 t).2.1⟩
  have h1 : okS (ly1 σ (σ 4 0).toNat) := by
    intro i
    have b := hS i; have w := wb i
    unfold ly1
    simp only [show ¬ ((27 : Nat) = 28) by decide, show ¬ ((28 : Nat) = 27) by decide, show ¬ ((6 : Nat) = 27) by decide, show ¬ ((6 : Nat) = 28) by decide, true_and, false_and, if_false]
    split <;> omega
  unfold lyS
  dsimp only
  have hK := ly1_K (σ := σ) (σ 4 0).toNat
  refine ly2_okS _ _ _ ((eqK.up (by omega)).T (hK.T hi.T)) ?_
  intro i
  have b := h1 i; have w := wb 0; have c := hi.c
  rw [up_ne (g := 27) (by decide), up_ne (g := 6) (by decide)]
  by_cases e : i = 0
  · subst e; rw [up_at]; split <;> omega
  · rw [up_nj e]; exact b
theorem lyS_B (hi : inv σ) (hS : okS σ) (hB : okB σ) : okB (lyS σ) := by
  intro g k
  have h := lyS_okS hi hS k
  by_cases c1 : g = 27
  · subst c1; omega
  · by_cases c2 : g = 28
    · subst c2; omega
    · rw [lyS_ne c1 c2]; exact hB g k
theorem lyS_iS (h : iS σ) : iS (lyS σ) := by
  have hK := lyS_K (σ := σ)
  refine ⟨inv_eq h.1 (fun g k a _ _ _ _ _ hg => hK g k (by omega) (by omega)), ?_, ?_⟩
  · unfold okD; simp only [hK 12 _ (by decide) (by decide), hK 17 _ (by decide) (by decide), hK 19 _ (by decide) (by decide), hK 20 _ (by decide) (by decide)]; exact h.2.1
  · unfold okE; simp only [hK.kids, hK 12 _ (by decide) (by decide), hK 13 _ (by decide) (by decide)]; exact h.2.2
theorem lyS_C {c : Int} (hC : okC c σ) : okC c (lyS σ) := by
  unfold okC; simp only [lyS_ne (σ := σ) (g := 20) (by decide) (by decide), lyS_ne (σ := σ) (g := 18) (by decide) (by decide)]; exact hC
end
section
variable {F S : fMS} {m n : Nat} {A : Nat → Nat} {σ τ : fG2}
/-- the whole serving -/
noncomputable def svS (σ : fG2) : fG2 := srvS (lyS σ)
theorem sp_serves {c : Int} (hi : iS σ) (hB : okB σ) (hS : okS σ) (hC : okC c σ) (hc : c + 2000 < 100000000) (h : RM F S m A σ) {post : fMS → Nat → Prop}
    (hp : ∀ (S' : fMS) (τ : fG2), RM F S' m A τ → eqM (svS σ) τ → okB τ → post S' n) : wp_X4_serves S n m post := by
  have key : ∀ (d : Nat) (σ τ : fG2) (S : fMS) (c : Int), iS σ → mes σ < d → okC c σ → c + d < 100000000 → okS σ → RM F S m A τ → eqM σ τ → okB τ → (∀ (S' : fMS) (τ : fG2), RM F S' m A τ → eqM (srvN d σ) τ → okB τ → post S' n) → wB_X4_serves_6 post m (d + 1) S n (iI 1) := by
    intro d; induction d with
    | zero => intro σ τ S c hi hm; have := mes_b hi.1; omega
    | succ d ih =>
      intro σ τ S c hi hm hC hc hS h he hB hp
      have hiτ := (eqC.of he).iS hi
      have hnx := (eqC.of he).nx
      rw [wB_X4_serves_6]
      rw [h.mm, true_and]
      refine ⟨fun z => absurd z (by decide), fun _ => ?_⟩
      refine sp_servesOne hiτ.1 hB (he.S hS) (he.C hC) (by omega) h (fun hx S' τ' h' he' hB' => ?_) (fun j hx S' τ' h' he' hB' => ?_)
      · rw [hnx] at hx
        have : wB_X4_serves_6 post m (d + 1) S' n (iI 0) := by
          rw [wB_X4_serves_6]
          refine ⟨fun _ => ?_, fun z => absurd rfl z⟩
          refine hp S' τ' h' ?_ hB'
          rw [srvN_none _ hx]
          exact he.tr he'
        exact this
      · rw [hnx] at hx
        have h1 := step_ok hi hx
        have e6 : ∀ k, stpS σ j 6 k = σ 6 k := fun k => stpS_ne (by decide) (by decide) (by decide) (by decide) (by decide) (by decide) (by decide)
        have e27 : ∀ k, stpS σ j 27 k = σ 27 k := fun k => stpS_ne (by decide) (by decide) (by decide) (by decide) (by decide) (by decide) (by decide)
        have e28 : ∀ k, stpS σ j 28 k = σ 28 k := fun k => stpS_ne (by decide) (by decide) (by decide) (by decide) (by decide) (by decide) (by decide)
        refine ih (stpS σ j) τ' S' (c + 1) h1.1 (by omega) (stpS_C hC) (by omega) (by unfold okS; simp only [e6, e27, e28]; exact hS) h' ((he.sS j).tr he') hB' (fun S2 τ2 h2 he2 hB2 => hp S2 τ2 h2 ?_ hB2)
        rw [srvN_some _ hx]; exact he2
  unfold wp_X4_serves
  rw [h.mm, true_and]
  have q := hi.1
  refine sp_laysShares q.T q.U q.L q.c h hS (fun S' h' => ⟨_, key 1681 (lyS σ) (lyS σ) S' c (lyS_iS hi) (by have := mes_b (lyS_iS hi).1; omega) (lyS_C hC) (by omega) (lyS_okS q hS) h' eqM.rf (lyS_B q hS hB) (fun S2 τ2 h2 he2 hB2 => hp S2 τ2 h2 he2 hB2)⟩)
end
