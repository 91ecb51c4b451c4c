section
variable {F S : fMS} {m n : Nat} {A : Nat → Nat} {σ τ ρ : fG2}
theorem stp_16 {G : List Nat} {j : Nat} (i : Nat) : stF (stpF ρ G) j 16 i = if i = j then ρ 15 j else ρ 16 i := by
  rw [stF_g, gF_ne (by decide) (by decide) (by decide)]; unfold stB; rw [up_ne (by decide), up_ne (by decide)]
  by_cases c : i = j
  · subst c; rw [up_at, if_pos rfl, stpF_ne (by decide)]
  · rw [up_nj c, if_neg c, stpF_ne (by decide)]
theorem stpS_R (hi : inv σ) (hR : okR σ) {j : Nat} (hj : (j : Int) < σ 12 0) : okR (stpS σ j) := by
  intro i h12 h17
  have bj := hi.J.2.2 j hj
  rw [stpS_ne (by decide) (by decide) (by decide) (by decide) (by decide) (by decide) (by decide)] at h12
  unfold stpS at h17 ⊢
  rw [stp_17] at h17
  rw [stp_16]
  by_cases c : i = j
  · rw [if_pos c, hts_ne (by decide) (by decide) (by decide)]; omega
  · rw [if_neg c] at h17 ⊢
    rw [hts_17] at h17
    rw [hts_ne (by decide) (by decide) (by decide)]
    refine hR i h12 ?_
    split at h17
    · exact absurd h17 (by decide)
    · exact h17
theorem srvN_R : ∀ (d : Nat) (σ : fG2), iS σ → okR σ → okR (srvN d σ) := by
  intro d; induction d with
  | zero => intro σ _ h; exact h
  | succ d ih =>
    intro σ hi h
    cases hx : nxS σ with
    | none => rw [srvN_none _ hx]; exact h
    | some j => rw [srvN_some _ hx]; exact ih _ (step_ok hi hx).1 (stpS_R hi.1 h (nxS_ok hi.1 hx).1)
theorem srvN_iS : ∀ (d : Nat) (σ : fG2), iS σ → iS (srvN d σ) := by
  intro d; induction d with
  | zero => intro σ h; exact h
  | succ d ih =>
    intro σ hi
    cases hx : nxS σ with
    | none => rw [srvN_none _ hx]; exact hi
    | some j => rw [srvN_some _ hx]; exact ih _ (step_ok hi hx).1
theorem srvN_C : ∀ (d : Nat) (σ : fG2) (c : Int), okC c σ → okC (c + d) (srvN d σ) := by
  intro d; induction d with
  | zero => intro σ c h; simpa [srvN] using h
  | succ d ih =>
    intro σ c hC
    cases hx : nxS σ with
    | none =>
      rw [srvN_none _ hx]
      exact ⟨by have := hC.1; omega, fun i => by have := hC.2 i; omega⟩
    | some j =>
      rw [srvN_some _ hx]
      have e : c + ((d + 1 : Nat) : Int) = c + 1 + d := by omega
      rw [e]; exact ih _ _ (stpS_C hC)
theorem svS_iS (hi : iS σ) : iS (svS σ) := srvN_iS _ _ (lyS_iS hi)
theorem svS_C {c : Int} (hC : okC c σ) : okC (c + 1681) (svS σ) := srvN_C 1681 _ _ (lyS_C hC)
theorem svS_none (hi : iS σ) : nxS (svS σ) = none := by
  have h := lyS_iS hi
  have key : ∀ (d : Nat) (σ : fG2), iS σ → mes σ < d → nxS (srvN d σ) = none := by
    intro d; induction d with
    | zero => intro σ h hm; have := mes_b h.1; omega
    | succ d ih =>
      intro σ h hm
      cases hx : nxS σ with
      | none => rw [srvN_none _ hx]; exact hx
      | some j => rw [srvN_some _ hx]; have h1 := step_ok h hx; exact ih _ h1.1 (by omega)
  exact key 1681 _ h (by have := mes_b h.1; omega)
theorem eqC.R (h : eqC σ τ) (hR : okR σ) : okR τ := by
  unfold okR; simp only [h 12 _ (by decide) (by decide), h 17 _ (by decide) (by decide), h 16 _ (by decide) (by decide)]; exact hR
theorem eqC.Q (h : eqC σ τ) (hQ : okQ σ) : okQ τ := by
  unfold okQ; simp only [h 1 _ (by decide) (by decide), h 8 _ (by decide) (by decide), h 3 _ (by decide) (by decide)]; exact hQ
theorem svS_R (hi : iS σ) (hR : okR σ) : okR (svS σ) := by
  refine srvN_R _ _ (lyS_iS hi) ?_
  unfold okR; simp only [lyS_ne (σ := σ) (g := 12) (by decide) (by decide), lyS_ne (σ := σ) (g := 17) (by decide) (by decide), lyS_ne (σ := σ) (g := 16) (by decide) (by decide)]; exact hR
theorem svS_Q (hQ : okQ σ) : okQ (svS σ) := by
  unfold okQ
  simp only [sv_ne (σ := σ) (g := 1) (by decide) (by decide) (by decide) (by decide) (by decide) (by decide) (by decide) (by decide) (by decide), sv_ne (σ := σ) (g := 8) (by decide) (by decide) (by decide) (by decide) (by decide) (by decide) (by decide) (by decide) (by decide), sv_ne (σ := σ) (g := 3) (by decide) (by decide) (by decide) (by decide) (by decide) (by decide) (by decide) (by decide) (by decide)]
  exact hQ
theorem tkS_ne {g k : Nat} (h1 : g ≠ 10) (h2 : g ≠ 11) (h3 : g ≠ 17) (h4 : g ≠ 21) (h5 : g ≠ 16) (h6 : g ≠ 8) (h7 : g ≠ 1) : tkS σ g k = σ g k := by
  unfold tkS; rw [usS_ne h6, edF_ne h1 h2 h3 h4 h5]; exact up_ne h7
theorem tkS_R (hR : okR σ) : okR (tkS σ) := by
  have h1 : okR (tk1 σ) := by
    unfold okR tk1; simp (disch := decide) only [up_ne]; exact hR
  have h2 := edF_R (σ 12 0).toNat 0 (tk1 σ) h1
  unfold tkS okR; simp (disch := decide) only [usS_ne]; exact h2
theorem tkS_1 : tkS σ 1 0 = σ 1 0 + 1 := by
  unfold tkS; rw [usS_ne (by decide), edF_ne (by decide) (by decide) (by decide) (by decide) (by decide)]; exact up_at
theorem tkS_Q (hi : iS σ) (hQ : okQ σ) : okQ (tkS σ) := by
  refine ⟨⟨by rw [tkS_1]; have := hQ.1.1; omega, fun k => ?_⟩, by rw [tkS_ne (by decide) (by decide) (by decide) (by decide) (by decide) (by decide) (by decide)]; exact hQ.2⟩
  rw [tkS_1]
  have b := hQ.1.2 k
  have hi2 : iS (edF 0 (σ 12 0).toNat (tk1 σ)) := edF_iS _ _ _ (up1_iS hi) (by unfold tk1; rw [up_ne (by decide)]; have := hi.1.J.1; omega)
  have u := us1_b hi2.1 k
  have e8 : edF 0 (σ 12 0).toNat (tk1 σ) 8 k = σ 8 k := by rw [edF_ne (by decide) (by decide) (by decide) (by decide) (by decide)]; exact up_ne (by decide)
  unfold tkS usS usK
  split
  · omega
  · rw [e8]; omega
theorem tkS_C {c : Int} (hC : okC c σ) : okC c (tkS σ) := by
  unfold okC; simp only [tkS_ne (σ := σ) (g := 20) (by decide) (by decide) (by decide) (by decide) (by decide) (by decide) (by decide), tkS_ne (σ := σ) (g := 18) (by decide) (by decide) (by decide) (by decide) (by decide) (by decide) (by decide)]; exact hC
theorem tkS_S (hS : okS σ) : okS (tkS σ) := by
  unfold okS; simp only [tkS_ne (σ := σ) (g := 27) (by decide) (by decide) (by decide) (by decide) (by decide) (by decide) (by decide), tkS_ne (σ := σ) (g := 28) (by decide) (by decide) (by decide) (by decide) (by decide) (by decide) (by decide), tkS_ne (σ := σ) (g := 6) (by decide) (by decide) (by decide) (by decide) (by decide) (by decide) (by decide)]; exact hS
theorem edN_b : ∀ (d j : Nat) (σ : fG2), 0 ≤ edN j d σ ∧ edN j d σ ≤ d := by
  intro d; induction d with
  | zero => intro j σ; simp [edN]
  | succ d ih =>
    intro j σ
    simp only [edN]
    have h1 := ih (j + 1) (ed1 σ j)
    have : 0 ≤ edC σ j ∧ edC σ j ≤ 1 := by unfold edC; split <;> omega
    omega
theorem tkN_b (hi : inv σ) : 0 ≤ tkN σ ∧ tkN σ ≤ 512 := by
  have := edN_b (σ 12 0).toNat 0 (tk1 σ); have := hi.J.1; have := hi.J.2.1
  unfold tkN; omega
theorem sp_passesOne {c : Int} (hi : iS σ) (hB : okB σ) (hS : okS σ) (hC : okC c σ) (hc : c + 2000 < 100000000) (hR : okR σ) (hQ : okQ σ) (hq : σ 1 0 < 20000) (h : RM F S m A σ) {post : Int32 → fMS → Nat → Prop}
    (hp : ∀ (S' : fMS) (ρ : fG2), RM F S' m A ρ → eqM (svS (tkS σ)) ρ → okB ρ → post (iI (tkN σ)) S' n) : wp_X4_passesOne S n m post := by
  obtain ⟨q1, q2, q3, q4⟩ := hi.1.B4
  have b1 := hB 1 0; have qq := hQ.1.1
  have w := h.wS 1 (σ 1 0 + 1) rfl
  have hi1 := up1_iS (v := σ 1 0 + 1) hi
  have hR1 : okR (tk1 σ) := by unfold okR tk1; simp (disch := decide) only [up_ne]; exact hR
  have e12 : tk1 σ 12 0 = σ 12 0 := up_ne (by decide)
  unfold wp_X4_passesOne
  simp (disch := first | decide | omega) only [h.mm, h.s, iI_1, iI_add, true_and]
  obtain ⟨N, hN⟩ : ∃ N : Nat, σ 12 0 = N := ⟨(σ 12 0).toNat, by omega⟩
  have eN : (σ 12 0).toNat = N := by omega
  refine ⟨_, sp_jobsTick N N 0 (tk1 σ) _ 0 (by omega) (by rw [e12]; exact hN) hi1 (hB.w (by omega)) hR1 w (by omega) (by omega) (fun S' h' => ?_)⟩
  obtain ⟨τ, hτ⟩ : ∃ τ, τ = edF 0 N (tk1 σ) := ⟨_, rfl⟩
  rw [← hτ] at h'
  have ne : ∀ g k : Nat, g ≠ 10 → g ≠ 11 → g ≠ 17 → g ≠ 21 → g ≠ 16 → g ≠ 1 → τ g k = σ g k := fun g k a b c d e f => by rw [hτ, edF_ne a b c d e]; exact up_ne f
  have e1 : τ 1 0 = σ 1 0 + 1 := by rw [hτ, edF_ne (by decide) (by decide) (by decide) (by decide) (by decide)]; exact up_at
  have e4 : τ 4 0 = σ 4 0 := ne 4 0 (by decide) (by decide) (by decide) (by decide) (by decide) (by decide)
  have hiτ : iS τ := by rw [hτ]; exact edF_iS _ _ _ hi1 (by omega)
  have hBτ : okB τ := by rw [hτ]; exact edF_B _ _ _ hi1 (hB.w (by omega)) hR1 (by omega)
  have hQτ : (0 ≤ τ 1 0 ∧ ∀ k, τ 8 k ≤ 3000 * τ 1 0) ∧ (1 ≤ τ 3 0 ∧ τ 3 0 ≤ 100) := by
    rw [e1, ne 3 0 (by decide) (by decide) (by decide) (by decide) (by decide) (by decide)]
    refine ⟨⟨by omega, fun k => ?_⟩, hQ.2⟩
    rw [ne 8 k (by decide) (by decide) (by decide) (by decide) (by decide) (by decide)]
    have := hQ.1.2 k; omega
  have hSτ : okS τ := by unfold okS; simp only [ne 27 _ (by decide) (by decide) (by decide) (by decide) (by decide) (by decide), ne 28 _ (by decide) (by decide) (by decide) (by decide) (by decide) (by decide), ne 6 _ (by decide) (by decide) (by decide) (by decide) (by decide) (by decide)]; exact hS
  have hCτ : okC c τ := by unfold okC; simp only [ne 20 _ (by decide) (by decide) (by decide) (by decide) (by decide) (by decide), ne 18 _ (by decide) (by decide) (by decide) (by decide) (by decide) (by decide)]; exact hC
  have et : tkS σ = usS τ := by unfold tkS; rw [eN, hτ]
  have en : tkN σ = 0 + edN 0 N (tk1 σ) := by unfold tkN; rw [eN]; omega
  rw [et, en] at hp
  refine ⟨_, sp_useTick hiτ hBτ hSτ hCτ hc hQτ (by omega) hp (τ 4 0).toNat 0 S' (by omega) (by rw [usK_0]; exact h')⟩
def cdPass (w : Int) : Int := if 1 ≤ w ∧ w ≤ 20 then 0 else 1
theorem rf_pass {c : Int} (hi : iS σ) (hB : okB σ) (hS : okS σ) (hC : okC c σ) (hc : c + 100000 < 100000000) (hR : okR σ) (hQ : okQ σ) (hq : σ 1 0 + 20 < 20000) (h : RM F S m A σ) {w : Int} (hw : i32 w) {post : Int32 → fMS → Nat → Prop}
    (p0 : cdPass w = 0 → rP F m n A (psF w.toNat σ) 0 (psN w.toNat σ) post) (p1 : cdPass w ≠ 0 → rP F m n A σ (cdPass w) 0 post) : wp_X4_pass S n m (iI w) post := by
  have key : ∀ (d k : Nat) (x c : Int) (σ τ : fG2) (S : fMS), (k + d : Int) = w → w ≤ 20 → 0 ≤ x → x ≤ 512 * k → iS σ → okS σ → okC c σ → c + 2000 * d < 100000000 → okR σ → okQ σ → σ 1 0 + d < 20000 → RM F S m A τ → eqC σ τ → τ 0 0 = 0 → okB τ →
      (∀ (S' : fMS) (ρ : fG2), RM F S' m A ρ → ρ 0 0 = 0 → eqC (psF d σ) ρ → okB ρ → okS ρ → post (iI (x + psN d σ)) S' n) → wB_X4_pass_28 post m (iI w) (d + 1) S n (iI x) (iI k) := by
    intro d; induction d with
    | zero =>
      intro k x c σ τ S hk hw x0 x1 hi hS hC hc hR hQ hq h he h0 hB hp
      simp only [wB_X4_pass_28]
      simp (disch := first | decide | omega) only [iI_le]
      have hp := hp S τ h h0 he hB (he.okS hS)
      simp only [psN, Int.add_zero] at hp
      exact ⟨fun _ => hp, fun c => absurd c (by omega)⟩
    | succ d ih =>
      intro k x c σ τ S hk hw x0 x1 hi hS hC hc hR hQ hq h he h0 hB hp
      have tn := tkN_b hi.1
      rw [wB_X4_pass_28]
      simp (disch := first | decide | omega) only [iI_le, h.mm, true_and]
      refine ⟨fun c => absurd c (by omega), fun _ => ?_⟩
      refine sp_passesOne (he.iS hi) hB (he.okS hS) (he.C hC) (by omega) (he.R hR) (he.Q hQ) (by rw [he 1 0 (by decide) (by decide)]; omega) h (fun S' ρ h' he' hB' => ?_)
      rw [he.tN]
      simp only [iI_1, iI_add]
      rintro _ rfl _ rfl
      have hi2 := svS_iS (tkS_iS hi)
      have e1 : svS (tkS σ) 1 0 = σ 1 0 + 1 := by rw [sv_ne (by decide) (by decide) (by decide) (by decide) (by decide) (by decide) (by decide) (by decide) (by decide), tkS_1]
      refine ih (k + 1) (x + tkN σ) (c + 1681) (svS (tkS σ)) ρ S' (by omega) hw (by omega) (by omega) hi2 (svS_okS (tkS_iS hi).1 (tkS_S hS)) (svS_C (tkS_C hC)) (by omega) (svS_R (tkS_iS hi) (tkS_R hR)) (svS_Q (tkS_Q hi hQ)) (by omega) h' ((svS_cong he.tk).tr (eqC.of he')) ?_ hB' (fun S2 ρ2 g1 g2 g3 g4 g5 => ?_)
      · rw [he' 0 0 (by decide) (by decide) (by decide) (by decide), sv_ne (by decide) (by decide) (by decide) (by decide) (by decide) (by decide) (by decide) (by decide) (by decide), tkS_ne (by decide) (by decide) (by decide) (by decide) (by decide) (by decide) (by decide)]; exact h0
      · have := hp S2 ρ2 g1 g2 g3 g4 g5
        simp only [psN] at this
        rw [Int.add_assoc]; exact this
  unfold wp_X4_pass
  refine sp_in2 (b := 1) (c := 20) hw (by omega) (by omega) (fun c1 => ?_) (fun c1 => ?_)
  · have e : cdPass w = 0 := if_pos c1
    refine ⟨fun z => absurd z (by decide), fun _ => ?_⟩
    unfold wB_X4_pass_16
    simp only [Option.some.injEq, exists_eq_left', h.mm, true_and]
    refine sp_go0 h (fun S' h' => ⟨fun _ => ?_, fun z => absurd z (by decide)⟩)
    refine ⟨_, key w.toNat 0 0 c σ _ S' (by omega) (by omega) (by omega) (by omega) hi hS hC (by omega) hR hQ (by omega) h' (eqC.up0 (Or.inr rfl)) up_at (hB.w (by omega)) (fun S2 ρ g1 g2 g3 g4 g5 => ?_)⟩
    rw [Int.zero_add]; exact p0 e S2 ρ g1 g2 g3 g4 g5
  · have e : cdPass w = 1 := if_neg c1
    rw [e] at p1
    refine ⟨fun _ => ?_, fun z => absurd rfl z⟩
    unfold wB_X4_pass_16
    simp only [Option.some.injEq, exists_eq_left', h.mm, true_and]
    exact sp_go1 (c := 1) h (by omega) (fun S' h' => ⟨fun z => absurd rfl z, fun _ => (p1 (by omega)).no hB hS (by omega) h'⟩)
end
