-- ===== pass by the broker =====
section
variable {P : Nat → Prop} {F S S' : fMS} {x n B out : Nat} {T J V L E E' : Nat → Nat} {ρ ρ' σ τ φ ψ : fG2} {al ln vi ln' vi' : List Nat}
/-- what a state must keep for all calls but those that count -/
def K1 (c : Int) (σ : fG2) : Prop := iS σ ∧ okZ σ ∧ okW1 σ ∧ okS σ ∧ okC c σ ∧ okR σ ∧ okQ σ ∧ okN σ
theorem K1.K0 {c : Int} (h : K1 c σ) (hc : c + 2000 < 100000000) : K0 c σ := ⟨h.1, h.2.1, h.2.2.1, h.2.2.2.1, h.2.2.2.2.1, hc⟩
theorem eqC.K1 {c : Int} (e : eqC σ τ) (h : K1 c σ) : K1 c τ := ⟨e.iS h.1, e.Z h.2.1, e.W1 h.2.2.1, e.okS h.2.2.2.1, e.C h.2.2.2.2.1, e.R h.2.2.2.2.2.1, e.Q h.2.2.2.2.2.2.1, e.N h.2.2.2.2.2.2.2⟩
theorem okZ_ne (h4 : ∀ k, τ 4 k = σ 4 k) (h5 : ∀ k, τ 5 k = σ 5 k) (h22 : τ 22 0 = σ 22 0) (h23 : ∀ k, τ 23 k = σ 23 k) (h : okZ σ) : okZ τ := by
  unfold okZ; rw [kids_c h4 h5, h22]; simp only [h23, h4]; exact h
theorem okW1_ne (h4 : τ 4 0 = σ 4 0) (h6 : ∀ k, τ 6 k = σ 6 k) (h : okW1 σ) : okW1 τ := by
  unfold okW1; rw [h4]; simp only [h6]; exact h
theorem tk_8 (k : Nat) (h0 : kidsN σ k ≠ 0) (h8 : σ 8 k = 0) : tkS σ 8 k = 0 := by
  unfold tkS usS usK
  have e8 : edF 0 (σ 12 0).toNat (tk1 σ) 8 k = σ 8 k := by rw [edF_ne (by decide) (by decide) (by decide) (by decide) (by decide)]; exact up_ne (by decide)
  have ek : kidsN (edF 0 (σ 12 0).toNat (tk1 σ)) = kidsN σ := kids_c (fun k => by rw [edF_ne (by decide) (by decide) (by decide) (by decide) (by decide)]; exact up_ne (by decide)) (fun k => by rw [edF_ne (by decide) (by decide) (by decide) (by decide) (by decide)]; exact up_ne (by decide))
  split
  · unfold us1
    rw [ek, if_neg h0, e8, h8]
    split <;> decide
  · rw [e8, h8]
theorem K1_tk {c : Int} (h : K1 c σ) : K1 c (tkS σ) := by
  obtain ⟨a1, a2, a3, a4, a5, a6, a7, a8⟩ := h
  have ne : ∀ {g k : Nat}, g ≠ 10 → g ≠ 11 → g ≠ 17 → g ≠ 21 → g ≠ 16 → g ≠ 8 → g ≠ 1 → tkS σ g k = σ g k := fun h1 h2 h3 h4 h5 h6 h7 => tkS_ne h1 h2 h3 h4 h5 h6 h7
  have n4 : ∀ k, tkS σ 4 k = σ 4 k := fun k => ne (by decide) (by decide) (by decide) (by decide) (by decide) (by decide) (by decide)
  have n5 : ∀ k, tkS σ 5 k = σ 5 k := fun k => ne (by decide) (by decide) (by decide) (by decide) (by decide) (by decide) (by decide)
  refine ⟨tkS_iS a1, okZ_ne n4 n5 (ne (by decide) (by decide) (by decide) (by decide) (by decide) (by decide) (by decide)) (fun k => ne (by decide) (by decide) (by decide) (by decide) (by decide) (by decide) (by decide)) a2, okW1_ne (n4 0) (fun k => ne (by decide) (by decide) (by decide) (by decide) (by decide) (by decide) (by decide)) a3, tkS_S a4, tkS_C a5, tkS_R a6, tkS_Q a1 a7, fun k hk h0 => ?_⟩
  rw [kids_c n4 n5] at h0
  rw [n4] at hk
  exact tk_8 k h0 (a8 k hk h0)
theorem sv_n {g k : Nat} (h : g < 10 ∨ (12 ≤ g ∧ g ≤ 15) ∨ (21 ≤ g ∧ g ≤ 26) ∨ 29 ≤ g) : svS σ g k = σ g k := sv_ne (by omega) (by omega) (by omega) (by omega) (by omega) (by omega) (by omega) (by omega) (by omega)
theorem K1_sv {c : Int} (h : K1 c σ) : K1 (c + 1681) (svS σ) := by
  obtain ⟨a1, a2, a3, a4, a5, a6, a7, a8⟩ := h
  have n4 : ∀ k, svS σ 4 k = σ 4 k := fun k => sv_n (by decide)
  have n5 : ∀ k, svS σ 5 k = σ 5 k := fun k => sv_n (by decide)
  refine ⟨svS_iS a1, okZ_ne n4 n5 (sv_n (by decide)) (fun k => sv_n (by decide)) a2, okW1_ne (n4 0) (fun k => sv_n (by decide)) a3, svS_okS a1.1 a4, svS_C a5, svS_R a1 a6, svS_Q a7, fun k hk h0 => ?_⟩
  rw [kids_c n4 n5] at h0
  rw [n4] at hk
  rw [sv_n (by decide)]
  exact a8 k hk h0
theorem tk_40 {h40' : h40 ρ} : h40 (tkS ρ) := by
  intro i hi hs
  have n12 : tkS ρ 12 0 = ρ 12 0 := tkS_ne (by decide) (by decide) (by decide) (by decide) (by decide) (by decide) (by decide)
  rw [n12] at hi
  rw [tkS_ne (by decide) (by decide) (by decide) (by decide) (by decide) (by decide) (by decide), tkS_ne (by decide) (by decide) (by decide) (by decide) (by decide) (by decide) (by decide)]
  refine h40' i hi ?_
  have e : tkS ρ 17 i = edF 0 (ρ 12 0).toNat (tk1 ρ) 17 i := by unfold tkS; exact usS_ne (by decide)
  rw [e] at hs
  have := edF_17x (ρ 12 0).toNat 0 i (tk1 ρ) (Or.inr hs)
  rw [hs] at this
  have e2 : tk1 ρ 17 i = ρ 17 i := up_ne (by decide)
  rw [← e2]; exact this.symm
theorem cx_tick {c : Int} (K : K1 c ρ) (hc : c + 2000 < 100000000) (hq : ρ 1 0 < 20000) (h : BB P F S x T J V L E ρ al ln vi n B) {U : Int32} {post : Int32 → fMS → Nat → Prop}
    (hp : ∀ S' n' E' ρ' al' ln' vi', BB P F S' x T J V L E' ρ' al' ln' vi' n' B → eqC (svS (tkS ρ)) ρ' → post (U + iI (tkN ρ)) S' n') :
    wp_X3_endJobs (wI S x 9 ((sI S x 9) + (1 : Int32))) n x (fun v3 S4 n5 => ∀ v6 : Int32, v6 = U + v3 → isA S4 4 x ∧ wp_X3_changeUse S4 n5 x (fun S8 n9 => isA S8 4 x ∧ wp_X3_serve S8 n9 x (fun S11 n12 => post v6 S11 n12))) := by
  obtain ⟨a1, a2, a3, a4, a5, a6, a7, a8⟩ := K
  have qq := a7.1.1
  have hB := h.2.2.2.1
  have e9 : iI (ρ 1 0) + 1 = iI (ρ 1 0 + 1) := iI_add _ 1
  rw [h.1.x9, e9]
  have hw : RB P F (wI S x 9 (iI (ρ 1 0 + 1))) x T J V L E (tk1 ρ) al ln vi := h.1.wX 9 1 (ρ 1 0 + 1) (by omega)
  have e12 : tk1 ρ 12 0 = ρ 12 0 := up_ne (by decide)
  have hi1 : iS (tk1 ρ) := up1_iS a1
  have hB1 : okB (tk1 ρ) := hB.w (by omega)
  have hR1 : okR (tk1 ρ) := by unfold okR tk1; simp (disch := decide) only [up_ne]; exact a6
  have ha1 : al = alv (tk1 ρ) := by rw [h.2.2.1]; unfold alv tk1; simp (disch := decide) only [up_ne]
  refine cx_endJobs hi1 hB1 hR1 ha1 hw (h.2.1.w rfl) (fun S1 h1 hn1 => ?_)
  rw [e12] at h1 ⊢
  rintro _ rfl
  refine ⟨h1.1.1, ?_⟩
  obtain ⟨τ, hτ⟩ : ∃ τ, τ = edF 0 (ρ 12 0).toNat (tk1 ρ) := ⟨_, rfl⟩
  rw [← hτ] at h1
  have ne : ∀ g k : Nat, g ≠ 10 → g ≠ 11 → g ≠ 17 → g ≠ 21 → g ≠ 16 → g ≠ 1 → τ g k = ρ g k := fun g k a b c d e f => by rw [hτ, edF_ne a b c d e]; exact up_ne f
  have e1 : τ 1 0 = ρ 1 0 + 1 := by rw [hτ, edF_ne (by decide) (by decide) (by decide) (by decide) (by decide)]; exact up_at
  have n8 : ∀ k, τ 8 k = ρ 8 k := fun k => ne 8 k (by decide) (by decide) (by decide) (by decide) (by decide) (by decide)
  have n4 : ∀ k, τ 4 k = ρ 4 k := fun k => ne 4 k (by decide) (by decide) (by decide) (by decide) (by decide) (by decide)
  have n5 : ∀ k, τ 5 k = ρ 5 k := fun k => ne 5 k (by decide) (by decide) (by decide) (by decide) (by decide) (by decide)
  have hN : (((ρ 12 0).toNat : Nat) : Int) ≤ tk1 ρ 12 0 := by rw [e12]; have := a1.1.J.1; omega
  have hiτ : iS τ := by rw [hτ]; exact edF_iS _ _ _ hi1 (by rw [Nat.zero_add]; exact hN)
  have hBτ : okB τ := by rw [hτ]; exact edF_B _ _ _ hi1 hB1 hR1 (by rw [Nat.zero_add]; exact hN)
  have hQτ : (0 ≤ τ 1 0 ∧ ∀ k, τ 8 k ≤ 3000 * τ 1 0) ∧ (1 ≤ τ 3 0 ∧ τ 3 0 ≤ 100) := by
    rw [e1, ne 3 0 (by decide) (by decide) (by decide) (by decide) (by decide) (by decide)]
    refine ⟨⟨by omega, fun k => ?_⟩, a7.2⟩
    rw [n8]
    have := a7.1.2 k; omega
  have hNτ : okN τ := by unfold okN; rw [kids_c n4 n5]; simp only [n4, n8]; exact a8
  refine cx_changeUse hiτ.1 hNτ hQτ (by omega) h1 hn1 (fun S2 h2 hn2 => ⟨h2.1.1, ?_⟩)
  have et : usS τ = tkS ρ := by unfold tkS; rw [hτ]
  rw [et] at h2
  have ea : alv τ = alv (tkS ρ) := by rw [← et]; unfold alv; simp (disch := decide) only [usS_ne]
  rw [ea] at h2
  have hBt : okB (tkS ρ) := by
    rw [← et]; intro g k; unfold usS usK
    split
    · have u := us1_b hiτ.1 k; have := hQτ.1.2 k
      have h3 : 3000 * τ 1 0 ≤ 3000 * 20000 := Int.mul_le_mul_of_nonneg_left (by omega) (by omega)
      omega
    · exact hBτ g k
  have Kt := K1_tk (c := c) ⟨a1, a2, a3, a4, a5, a6, a7, a8⟩
  refine cx_serve Kt.1 hBt Kt.2.1 Kt.2.2.1 (tk_40 (h40' := h.2.2.2.2.1)) Kt.2.2.2.1 Kt.2.2.2.2.1 hc rfl h2 hn2 (fun S' n' E' ρ' ln' vi' b1 b2 b3 b4 b5 b6 => ?_)
  have en : edN 0 (ρ 12 0).toNat (tk1 ρ) = tkN ρ := rfl
  rw [en]
  exact hp S' n' E' ρ' _ ln' vi' ⟨b1, b2, b6, b4, b5, h.2.2.2.2.2⟩ b3
theorem cx_pass {c : Int} (K : K1 c ρ) (hc : c + 100000 < 100000000) (hq : ρ 1 0 + 20 < 20000) (h : BB P F S x T J V L E ρ al ln vi n B) {w : Int} (hw : i32 w) {post : Int32 → fMS → Nat → Prop} {postX : String → fMS → Nat → Prop}
    (pX : ¬ (1 ≤ w ∧ w ≤ 20) → postX "java/lang/IllegalArgumentException" S (n + 7)) (hp : 1 ≤ w → w ≤ 20 → ∀ S' n', LB P F S' x (psF w.toNat ρ) n' (B + 20) → post (iI (psN w.toNat ρ)) S' n') : wp_X3_pass S n x (iI w) post postX := by
  have hr := h.r
  have key : ∀ (d k : Nat) (u c : Int) (σ ρ : fG2) (S : fMS) (n : Nat) (E : Nat → Nat) (al ln vi : List Nat), (k + d : Int) = w → w ≤ 20 → 0 ≤ u → u ≤ 512 * k → K1 c σ → c + 2000 * d < 100000000 → σ 1 0 + d < 20000 → eqC σ ρ → BB P F S x T J V L E ρ al ln vi n B →
      (∀ S' n', LB P F S' x (psF d σ) n' (B + 20) → post (iI (u + psN d σ)) S' n') → wB_X3_pass_11 post postX x (iI w) (d + 1) S n (iI u) (iI k) := by
    intro d; induction d with
    | zero =>
      intro k u c σ ρ S n E al ln vi hk hw u0 u1 K hc hq he h hp
      have hp := hp S n ((h.toL (k := 0) (by omega)).eq he)
      simp only [psN, Int.add_zero] at hp
      rw [wB_X3_pass_11]
      have e : (iI w ≤ iI k) = (w ≤ k) := iI_le (by omega) (by omega) (by omega) (by omega)
      rw [e]
      exact ⟨fun _ => hp, fun c => absurd c (by omega)⟩
    | succ d ih =>
      intro k u c σ ρ S n E al ln vi hk hw u0 u1 K hc hq he h hp
      have tn := tkN_b K.1.1
      have e9 : iI (k : Int) + 1 = iI ((k : Int) + 1) := iI_add _ 1
      rw [wB_X3_pass_11]
      have e : (iI w ≤ iI k) = (w ≤ k) := iI_le (by omega) (by omega) (by omega) (by omega)
      rw [e]
      refine ⟨fun c => absurd c (by omega), fun _ => ⟨h.1.1.1, ?_⟩⟩
      refine cx_tick (post := fun v6 S n => ∀ v13 : Int32, v13 = iI k + 1 → wB_X3_pass_11 post postX x (iI w) (d + 1) S n v6 v13) (he.K1 K) (by omega) (by rw [he 1 0 (by decide) (by decide)]; omega) h (fun S' n' E' ρ' al' ln' vi' h' he' => ?_)
      · rw [he.tN]
        rintro _ rfl
        rw [e9, iI_add]
        have e1 : svS (tkS σ) 1 0 = σ 1 0 + 1 := by rw [sv_n (by decide), tkS_1]
        refine ih (k + 1) (u + tkN σ) (c + 1681) (svS (tkS σ)) ρ' S' n' E' al' ln' vi' (by omega) hw (by omega) (by omega) (K1_sv (K1_tk K)) (by omega) (by omega) ((svS_cong he.tk).tr he') h' (fun S2 n2 hL => ?_)
        have := hp S2 n2 hL
        simp only [psN] at this
        rw [Int.add_assoc]; exact this
  unfold wp_X3_pass
  refine cx_range (a := 1) (b := 20) hw (by unfold i32; omega) (by unfold i32; omega) (by omega) pX (fun w1 w2 => ?_)
  refine ⟨_, key w.toNat 0 0 c ρ ρ S n E al ln vi (by omega) w2 (by omega) (by omega) K (by omega) (by omega) eqC.rf h (fun S' n' hL => ?_)⟩
  rw [Int.zero_add]; exact hp w1 w2 S' n' hL
end
