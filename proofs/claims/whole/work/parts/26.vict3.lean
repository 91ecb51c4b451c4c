theorem inv_up {τ : fG2} {f j : Nat} {v : Int} (hf : 27 ≤ f) (g2 : inv τ) : inv (up τ f j v) := by
  have e : ∀ g k : Nat, g < 27 → up τ f j v g k = τ g k := fun g k hg => up_ne (by omega)
  unfold inv okT okJ okP okV tie njN rnF wtF alF
  have ch : ∀ t, chS (up τ f j v) t = chS τ t := fun t => chF_cong (fun k => e 5 k (by omega)) 11 t
  simp only [ch]
  simp (disch := decide) only [e]
  exact g2
theorem rcS_up {τ : fG2} {f j : Nat} {v : Int} (hf : 27 ≤ f) : rcS (up τ f j v) = rcS τ := by
  unfold rcS njN rcF
  simp only [up_ne (show (12 : Nat) ≠ f by omega), up_ne (show (17 : Nat) ≠ f by omega)]
theorem rc_pos {τ : fG2} {j : Nat} (hj : j < 0 + njN τ) (h : τ 17 j = 1) : 1 ≤ rcS τ := by
  have := fSum_ge (f := rcF τ) (njN τ) 0 j (fun i _ _ => by unfold rcF; split <;> omega) (by omega) hj
  have e : rcF τ j = 1 := if_pos h
  unfold rcS; omega
section
variable {F S : fMS} {m n : Nat} {A : Nat → Nat} {σ : fG2}
theorem sp_mk {t : Nat} {j0 : Nat} (hj0 : (j0 : Int) < σ 12 0) (ht : t < 10) {post : Int32 → fMS → Nat → Prop} : ∀ (f : Nat) (S : fMS) (τ ρ : fG2) (G : List Nat), RM F S m A τ → gon σ τ G → gnR τ G → G.length + rcS τ ≤ 40 → rcS τ ≤ f → eqK ρ τ → (∀ k, τ 28 k = ρ 28 k) →
    ((vcF t (σ 14 j0) f ρ).2 = true → ∀ (S' : fMS) (τ' : fG2), RM F S' m A τ' → gon σ τ' (G ++ (vcF t (σ 14 j0) f ρ).1) → gnR τ' (G ++ (vcF t (σ 14 j0) f ρ).1) → post (iI 1) S' n) →
    ((vcF t (σ 14 j0) f ρ).2 = false → ∀ (S' : fMS) (τ' : fG2), RM F S' m A τ' → gon σ τ' [] → τ' 32 0 = 0 → post (iI 0) S' n) → wB_X4_makesRoom_57 post m (iI j0) (f + 1) S n (iI t) := by
  intro f
  induction f with
  | zero =>
    intro S τ ρ G h hg hr hc hrc hk h28 p1 p0
    obtain ⟨g1, g2, g3, g4, g5, g6⟩ := id hg
    have e12 : τ 12 0 = σ 12 0 := g1 12 0 (by decide) (by decide) (by decide) (by decide) (by decide)
    have e14 : τ 14 j0 = σ 14 j0 := g1 14 j0 (by decide) (by decide) (by decide) (by decide) (by decide)
    have q := g2.J.2.1; have bj := g2.J.2.2 j0 (by omega)
    have bf := fre_b g2.P g2.U g2.T g2.c t
    have lo := loS_ok g2.J (t : Int)
    rw [wB_X4_makesRoom_57]
    simp (disch := first | decide | omega) only [h.mm, h.R, h.Nj, h.kI, h.aJ, iI_in, iI_nat, true_and, Option.some.injEq, exists_eq_left', Int.toNat_natCast]
    refine ⟨by omega, sp_freeOf h g2.T g3 g2.P g2.U (by omega) ?_⟩
    simp (disch := first | decide | omega) only [iI_le, iI_0, iI_1]
    have ef : freS τ t = freS ρ t := hk.fre t
    refine ⟨fun c => ?_, fun c => sp_lastOver g2.T g2.J g3 g2.P h (by omega) ⟨fun c2 => ?_, fun c2 => ?_⟩⟩
    · have e : vcF (t : Int) (σ 14 j0) 0 ρ = ([], true) := by simp only [vcF]; rw [decide_eq_true (by omega)]
      rw [e] at p1
      exact p1 rfl S τ h (by simpa using hg) (by simpa using hr)
    · exfalso
      rcases lo with z | ⟨z1, z2, z3⟩
      · exact c2 (by rw [z]; decide)
      · have := rc_pos (τ := τ) (j := (loS τ t).toNat) (by unfold njN; omega) z3.1
        omega
    · have e : (vcF (t : Int) (σ 14 j0) 0 ρ).2 = false := by simp only [vcF]; exact decide_eq_false (by omega)
      exact sp_restores h hg hr (fun S' τ' a b c => p0 e S' τ' a b c)
  | succ f ih =>
    intro S τ ρ G h hg hr hc hrc hk h28 p1 p0
    obtain ⟨g1, g2, g3, g4, g5, g6⟩ := id hg
    have e12 : τ 12 0 = σ 12 0 := g1 12 0 (by decide) (by decide) (by decide) (by decide) (by decide)
    have e14 : τ 14 j0 = σ 14 j0 := g1 14 j0 (by decide) (by decide) (by decide) (by decide) (by decide)
    have q := g2.J.2.1; have bj := g2.J.2.2 j0 (by omega)
    have bf := fre_b g2.P g2.U g2.T g2.c t
    have lo := loS_ok g2.J (t : Int)
    have ef : freS τ t = freS ρ t := hk.fre t
    have el : loS τ t = loS ρ t := lo_cong hk h28 t
    rw [wB_X4_makesRoom_57]
    simp (disch := first | decide | omega) only [h.mm, h.R, h.Nj, h.kI, h.aJ, iI_in, iI_nat, true_and, Option.some.injEq, exists_eq_left', Int.toNat_natCast]
    refine ⟨by omega, sp_freeOf h g2.T g3 g2.P g2.U (by omega) ?_⟩
    simp (disch := first | decide | omega) only [iI_le, iI_0, iI_1]
    refine ⟨fun c => ?_, fun c => sp_lastOver g2.T g2.J g3 g2.P h (by omega) ⟨fun c2 => ?_, fun c2 => ?_⟩⟩
    · have e : vcF (t : Int) (σ 14 j0) (f + 1) ρ = ([], true) := by simp only [vcF]; rw [if_pos (by omega)]
      rw [e] at p1
      exact p1 rfl S τ h (by simpa using hg) (by simpa using hr)
    · have lo := lo.resolve_left (fun z => c2 (by rw [z]; decide))
      obtain ⟨j, hj⟩ : ∃ j : Nat, loS τ t = j := ⟨(loS τ t).toNat, by omega⟩
      rw [hj] at lo ⊢
      simp only [Int.toNat_natCast] at lo
      have e : vcF (t : Int) (σ 14 j0) (f + 1) ρ = (j :: (vcF t (σ 14 j0) f (htF ρ j)).1, (vcF t (σ 14 j0) f (htF ρ j)).2) := by
        simp only [vcF]
        rw [if_neg (by omega), ← el, hj, if_neg (by omega)]
        rfl
      rw [e] at p1 p0
      have hG : j ∉ G := fun z => by
        have := g6 j; rw [if_pos z] at this; have := lo.2.2.1; omega
      have rp := rc_pos (τ := τ) (j := j) (by unfold njN; omega) lo.2.2.1
      have rh := rc_ht g2.J lo.2.1 lo.2.2.1
      refine sp_halts g2.T g2.J h lo.2.1 (fun S' h' => ?_)
      have hin := htF_inv g2 lo.2.1 lo.2.2.1
      have e32 : htF τ j 32 0 = G.length := by rw [htF_g, gF_ne (by decide) (by decide) (by decide)]; exact hr.1
      have w1 := h'.wA 31 G.length j rfl (by decide)
      have w2 := w1.wS 32 ((G.length : Int) + 1) rfl
      have e32' : up (htF τ j) 31 G.length j 32 0 = G.length := by rw [up_ne (by decide)]; exact e32
      simp (disch := first | decide | omega) only [h'.mm, h'.R, h'.N31, h'.kI, h'.s, iI_in, iI_nat, true_and, iI_1, iI_add, Option.some.injEq, exists_eq_left', Int.toNat_natCast, e32, w1.s, e32']
      refine ⟨by omega, ?_⟩
      refine ih _ _ (htF ρ j) (G ++ [j]) w2 ⟨?_, inv_up (by omega) (inv_up (by omega) hin), ?_, ?_, ?_, ?_⟩ ⟨?_, ?_, ?_⟩ ?_ ?_ ?_ ?_ (fun z S2 τ2 a b c => p1 z S2 τ2 a (by simpa using b) (by simpa using c)) p0
      · exact ((g1.tr (by rw [htF_g]; exact eqX.g)).tr (eqX.up (Or.inl rfl))).tr (eqX.up (Or.inr rfl))
      · have : okB (htF τ j) := by rw [htF_g] at hin ⊢; exact gF_B g3 hin (Or.inl rfl)
        exact (this.w (by omega)).w (by omega)
      · rw [List.nodup_append]
        exact ⟨g4, by simp, fun a ha b hb => by simp at hb; subst hb; exact fun z => hG (z ▸ ha)⟩
      · intro g hgm
        rcases List.mem_append.mp hgm with z | z
        · exact g5 g z
        · simp at z
          subst z
          have := g6 g
          rw [if_neg hG] at this
          exact ⟨by omega, by rw [← this]; exact lo.2.2.1⟩
      · intro i
        rw [up_ne (by decide), up_ne (by decide), htF_g, gF_17]
        by_cases z : i = j
        · subst z; rw [if_pos rfl, if_pos (by simp)]
        · rw [if_neg z, g6]
          by_cases y : i ∈ G
          · rw [if_pos y, if_pos (by simp [y])]
          · rw [if_neg y, if_neg (by simp [y, z])]
      · rw [up_at]; simp
      · simp; omega
      · intro i hi
        simp at hi
        rw [up_ne (by decide)]
        by_cases z : i = G.length
        · subst z; rw [up_at]; simp
        · rw [up_nj z, htF_g, gF_ne (by decide) (by decide) (by decide), hr.2.2 i (by omega)]
          simp only [List.getD_eq_getElem?_getD]
          rw [List.getElem?_append_left (by omega)]
      · rw [rcS_up (by omega), rcS_up (by omega), rh]; simp; omega
      · rw [rcS_up (by omega), rcS_up (by omega), rh]; omega
      · exact ((htF_cong hk).tr (eqK.up (by omega))).tr (eqK.up (by omega))
      · intro k
        rw [up_ne (by decide), up_ne (by decide), htF_g, htF_g, gF_ne (by decide) (by decide) (by decide), gF_ne (by decide) (by decide) (by decide)]
        exact h28 k
    · have hl : loS τ t = -1 := by
        rcases lo with z | ⟨z1, z2, -⟩
        · exact z
        · exfalso
          have : loS τ t = -1 := by
            rw [iI_neg, iI_eq (by omega) (by omega) (by omega) (by omega)] at c2
            exact c2
          omega
      have e : (vcF (t : Int) (σ 14 j0) (f + 1) ρ).2 = false := by simp only [vcF]; rw [if_neg (by omega), ← el, if_pos hl]
      exact sp_restores h hg hr (fun S' τ' a b c => p0 e S' τ' a b c)
end
