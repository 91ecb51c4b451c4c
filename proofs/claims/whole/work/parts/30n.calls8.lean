section
variable {F S : fMS} {m n : Nat} {A : Nat → Nat} {σ τ ρ : fG2}
/-- the spans from a on moved down by one, up to k -/
def drF (σ : fG2) (a k : Nat) : fG2 := fun g i => if g = 22 ∧ i = 0 then σ 22 0 - 1 else if 23 ≤ g ∧ g ≤ 26 ∧ a ≤ i ∧ i < k then σ g (i + 1) else σ g i
def drS (σ : fG2) (a : Nat) : fG2 := drF σ a ((σ 22 0).toNat - 1)
theorem drF_0 (a : Nat) : drF σ a a = up σ 22 0 (σ 22 0 - 1) := by
  funext g i; unfold drF up
  by_cases c : g = 22 ∧ i = 0
  · rw [if_pos c, if_pos c]
  · rw [if_neg c, if_neg c, if_neg (by omega)]
theorem drF_s (a k : Nat) (h : a ≤ k) : up (up (up (up (drF σ a k) 23 k (σ 23 (k + 1))) 24 k (σ 24 (k + 1))) 25 k (σ 25 (k + 1))) 26 k (σ 26 (k + 1)) = drF σ a (k + 1) := by
  funext g i; unfold up drF
  by_cases c : i = k
  · subst c
    by_cases g3 : g = 23
    · subst g3; simp [h]
    · by_cases g4 : g = 24
      · subst g4; simp [h]
      · by_cases g5 : g = 25
        · subst g5; simp [h]
        · by_cases g6 : g = 26
          · subst g6; simp [h]
          · rw [if_neg (fun z => g6 z.1), if_neg (fun z => g5 z.1), if_neg (fun z => g4 z.1), if_neg (fun z => g3 z.1)]
            by_cases d : g = 22 ∧ i = 0
            · rw [if_pos d, if_pos d]
            · rw [if_neg d, if_neg d, if_neg (by omega), if_neg (by omega)]
  · rw [if_neg (fun z => c z.2), if_neg (fun z => c z.2), if_neg (fun z => c z.2), if_neg (fun z => c z.2)]
    by_cases d : g = 22 ∧ i = 0
    · rw [if_pos d, if_pos d]
    · rw [if_neg d, if_neg d]
      by_cases d2 : 23 ≤ g ∧ g ≤ 26 ∧ a ≤ i ∧ i < k
      · rw [if_pos d2, if_pos (by omega)]
      · rw [if_neg d2, if_neg (by omega)]
theorem eqC.dr (h : eqC σ τ) (a : Nat) : eqC (drS σ a) (drS τ a) := by
  intro g k x y
  unfold drS drF
  rw [h 22 0 (by decide) (by decide), h g (k + 1) x y, h g k x y]
theorem drF_ne {g i a k : Nat} (h : g < 22 ∨ 26 < g) : drF σ a k g i = σ g i := by
  unfold drF; rw [if_neg (by omega), if_neg (by omega)]
def cdDrop (σ : fG2) (t f e : Int) : Int := if spS σ t f e = -1 then 1 else 0
theorem rf_drop {c : Int} (hi : iS σ) (hB : okB σ) (hS : okS σ) (hC : okC c σ) (hc : c + 2000 < 100000000) (h : RM F S m A σ) {t f e : Int} (ht : i32 t) (hf : i32 f) (he : i32 e) {post : Int32 → fMS → Nat → Prop}
    (hn : cdDrop σ t f e = 0 → iS (drS σ (spS σ t f e).toNat)) (p0 : cdDrop σ t f e = 0 → rP F m n A (svS (drS σ (spS σ t f e).toNat)) 0 (σ 24 (spS σ t f e).toNat) post) (p1 : cdDrop σ t f e ≠ 0 → rP F m n A σ (cdDrop σ t f e) 0 post) : wp_X4_drop S n m (iI t) (iI f) (iI e) post := by
  have r1 := hi.1.P.1; have r2 := hi.1.P.2.1
  unfold wp_X4_drop
  rw [h.mm, true_and]
  refine sp_spanOf h hB hi.1.P ht hf he ?_
  have sok := spS_ok hi.1.P t f e
  by_cases d : spS σ t f e = -1
  · have cd : cdDrop σ t f e = 1 := if_pos d
    rw [cd] at p1
    rw [d]
    refine ⟨fun z => absurd rfl z, fun _ => ?_⟩
    unfold wB_X4_drop_21
    simp only [Option.some.injEq, exists_eq_left', h.mm, true_and]
    exact sp_go1 (c := 1) h (by omega) (fun S' h' => ⟨fun z => absurd rfl z, fun _ => (p1 (by omega)).no hB hS (by omega) h'⟩)
  · have cd : cdDrop σ t f e = 0 := if_neg d
    have hn := hn cd
    have p0 := p0 cd
    obtain ⟨a, z1, z2, z3, -⟩ := sok.resolve_left d
    rw [z1] at d hn p0 ⊢
    simp only [Int.toNat_natCast] at hn p0
    refine ⟨fun _ => ?_, fun z => ?_⟩
    · unfold wB_X4_drop_21
      simp only [Option.some.injEq, exists_eq_left', h.mm, true_and]
      refine sp_go0 h (fun S' h' => ⟨fun _ => ?_, fun z => absurd z (by decide)⟩)
      have he0 : eqC σ (up σ 0 0 0) := eqC.up0 (Or.inr rfl)
      obtain ⟨ψ, hψ⟩ : ∃ ψ, ψ = up σ 0 0 0 := ⟨_, rfl⟩
      rw [← hψ] at h' he0
      have eψ : ∀ g k, 1 ≤ g → g ≤ 28 → ψ g k = σ g k := he0
      have e0 : ψ 0 0 = 0 := by rw [hψ]; exact up_at
      have hBψ : okB ψ := by rw [hψ]; exact hB.w (by omega)
      have hSψ : okS ψ := he0.okS hS
      have e24 : ψ 24 a = σ 24 a := eψ 24 a (by decide) (by decide)
      have e22 : ψ 22 0 = σ 22 0 := eψ 22 0 (by decide) (by decide)
      have hw := h'.wS 22 (σ 22 0 - 1) rfl
      rw [← e22, ← drF_0 (σ := ψ) a, e22] at hw
      have key : ∀ (d k : Nat) (S : fMS), (k + d : Int) = σ 22 0 - 1 → a ≤ k → RM F S m A (drF ψ a k) → wB_X4_drop_52 post m (iI t) (iI f) (iI e) (d + 1) S n (iI (σ 24 a)) (iI k) := by
        intro d; induction d with
        | zero =>
          intro k S hk ha h
          have e : drF ψ a k 22 0 = σ 22 0 - 1 := by unfold drF; rw [if_pos ⟨rfl, rfl⟩, e22]
          simp only [wB_X4_drop_52]
          simp (disch := first | decide | omega) only [h.s, h.mm, iI_le, true_and, e]
          refine ⟨fun _ => ?_, fun z => absurd z (by omega)⟩
          have hk2 : k = (ψ 22 0).toNat - 1 := by omega
          have hd : drF ψ a k = drS ψ a := by unfold drS; rw [← hk2]
          rw [hd] at h
          refine rP_srv h (he0.dr a) ?_ hn ?_ ?_ ?_ hc (fun S2 τ g1 g2 g3 g4 g5 => p0 S2 τ g1 g2 g3 g4 g5)
          · unfold drS; rw [drF_ne (by omega)]; exact e0
          · intro g i
            unfold drS drF
            have b1 := hBψ g i; have b2 := hBψ g (i + 1)
            split
            · omega
            · split
              · exact b2
              · exact b1
          · unfold okS drS; simp only [drF_ne (σ := ψ) (g := 27) (Or.inr (by decide)), drF_ne (σ := ψ) (g := 28) (Or.inr (by decide)), drF_ne (σ := ψ) (g := 6) (Or.inl (by decide))]; exact hSψ
          · unfold okC drS; simp only [drF_ne (σ := σ) (g := 20) (Or.inl (by decide)), drF_ne (σ := σ) (g := 18) (Or.inl (by decide))]; exact hC
        | succ d ih =>
          intro k S hk ha h
          have e : drF ψ a k 22 0 = σ 22 0 - 1 := by unfold drF; rw [if_pos ⟨rfl, rfl⟩, e22]
          have en : ∀ g, 23 ≤ g → g ≤ 26 → drF ψ a k g (k + 1) = ψ g (k + 1) := fun g z1 z2 => by unfold drF; rw [if_neg (by omega), if_neg (by omega)]
          have n3 := en 23 (by decide) (by decide); have n4 := en 24 (by decide) (by decide); have n5 := en 25 (by decide) (by decide); have n6 := en 26 (by decide) (by decide)
          have w1 := h.wA 23 k (ψ 23 (k + 1)) rfl (by decide)
          have w2 := w1.wA 24 k (ψ 24 (k + 1)) rfl (by decide)
          have w3 := w2.wA 25 k (ψ 25 (k + 1)) rfl (by decide)
          have w4 := w3.wA 26 k (ψ 26 (k + 1)) rfl (by decide)
          rw [drF_s a k ha] at w4
          rw [wB_X4_drop_52]
          have ek : ((k : Int) + 1).toNat = k + 1 := by omega
          simp (disch := first | decide | omega) only [h.s, h.mm, h.R, h.Np, h.kI, h.aP, w1.mm, w1.R, w1.Np, w1.kI, w1.aP, w2.mm, w2.R, w2.Np, w2.kI, w2.aP, w3.mm, w3.R, w3.Np, w3.kI, w3.aP, iI_le, iI_1, iI_in, iI_nat, iI_add, true_and, Option.some.injEq, exists_eq_left', Int.toNat_natCast, e, ek, up_ne, n3, n4, n5, n6]
          refine ⟨fun z => absurd z (by omega), fun _ => ⟨by omega, by omega, by omega, by omega, by omega, by omega, by omega, by omega, ?_⟩⟩
          rintro _ rfl
          exact ih (k + 1) _ (by omega) (by omega) w4
      simp (disch := first | decide | omega) only [h'.s, h'.mm, h'.R, h'.Np, h'.kI, h'.aP, iI_in, iI_nat, iI_1, iI_sub, true_and, Option.some.injEq, exists_eq_left', Int.toNat_natCast, e24, e22]
      refine ⟨by omega, ?_⟩
      rintro _ rfl
      exact ⟨_, key ((σ 22 0).toNat - 1 - a) a _ (by omega) (Nat.le_refl _) hw⟩
    · rw [iI_m1, iI_eq (by omega) (by omega) (by omega) (by omega)] at z
      exact absurd z d
end
