/-- a job that can't start, but for which others may be stopped -/
def mkQ (σ : fG2) (j : Nat) : Prop := limP σ (chS σ (σ 13 j)) (σ 14 j) ∧ ¬ σ 14 j ≤ freS σ (σ 13 j) ∧ σ 10 (σ 13 j).toNat + σ 14 j ≤ dueS σ (σ 13 j).toNat
noncomputable def vcS (σ : fG2) (j : Nat) : List Nat × Bool := vcF (σ 13 j) (σ 14 j) 40 σ
section
variable {F S : fMS} {m n : Nat} {A : Nat → Nat} {σ : fG2}
theorem gon0 (hi : inv σ) (hB : okB σ) {v : Int} (hv : v = 0) : gon σ (up σ 32 0 v) [] :=
  ⟨eqX.up (Or.inr rfl), inv_up (by omega) hi, hB.w (by omega), List.nodup_nil, fun g hg => by simp at hg, fun i => by rw [up_ne (by decide)]; simp⟩
theorem sp_makesRoom (hi : inv σ) (hB : okB σ) (h : RM F S m A σ) {j : Nat} (hj : (j : Int) < σ 12 0) {post : Int32 → fMS → Nat → Prop}
    (p1 : mkQ σ j → (vcS σ j).2 = true → ∀ (S' : fMS) (τ : fG2), RM F S' m A τ → gon σ τ (vcS σ j).1 → gnR τ (vcS σ j).1 → post (iI 1) S' n)
    (p0 : ¬ (mkQ σ j ∧ (vcS σ j).2 = true) → ∀ (S' : fMS) (τ : fG2), RM F S' m A τ → gon σ τ [] → τ 32 0 = 0 → post (iI 0) S' n) : wp_X4_makesRoom S n m (iI j) post := by
  have q2 := hi.T.2.1; have q4 := hi.J.2.1
  have bj := hi.J.2.2 j hj
  obtain ⟨l, hl⟩ : ∃ l : Nat, σ 13 j = l := ⟨(σ 13 j).toNat, by omega⟩
  have hw := h.wS 32 0 rfl
  have hg := gon0 hi hB (v := 0) rfl
  have hK : eqK σ (up σ 32 0 0) := eqK.up (by omega)
  have hiw : inv (up σ 32 0 0) := inv_up (by omega) hi
  have hBw : okB (up σ 32 0 0) := hB.w (by omega)
  have e : ∀ g k : Nat, g ≠ 32 → up σ 32 0 0 g k = σ g k := fun g k hg => up_ne hg
  have hch : chS (up σ 32 0 0) = chS σ := funext fun t => chF_cong (fun k => e 5 k (by decide)) 11 t
  have hlim : limP (up σ 32 0 0) (chS (up σ 32 0 0) (up σ 32 0 0 13 j)) (up σ 32 0 0 14 j) ↔ limP σ (chS σ (σ 13 j)) (σ 14 j) := by
    rw [hch]; unfold limP; simp (disch := decide) only [e]
  have bU := hi.U l
  have brs := rsv_b hi.P l
  have b28 := hB 28 l
  have bdue : -100000000 ≤ dueS σ l ∧ dueS σ l ≤ 100000000 := by unfold dueS; split <;> omega
  have edue : dueS (up σ 32 0 0) l = dueS σ l := due_cong hK (fun k => e 28 k (by decide)) l
  have bf := fre_b hi.P hi.U hi.T hi.c l
  have efr : freS (up σ 32 0 0) l = freS σ l := hK.fre l
  unfold wp_X4_makesRoom
  simp (disch := first | decide | omega) only [h.mm, h.R, h.Nj, h.kI, h.aJ, iI_0, iI_in, iI_nat, true_and, Option.some.injEq, exists_eq_left', Int.toNat_natCast, hl]
  refine ⟨by omega, ?_⟩
  rintro _ rfl
  refine sp_isWithin hiw.T hiw.J hBw hw (by rw [e 12 0 (by decide)]; exact hj) (fun c => ?_) (fun c => ?_)
  · have c := hlim.mp c
    refine ⟨fun z => absurd z (by decide), fun _ => ?_⟩
    simp (disch := first | decide | omega) only [hw.mm, hw.R, hw.Nj, hw.kI, hw.aJ, iI_in, iI_nat, true_and, Option.some.injEq, exists_eq_left', Int.toNat_natCast, e]
    refine ⟨by omega, sp_freeOf hw hiw.T hBw hiw.P hiw.U (by omega) ?_⟩
    rw [efr]
    simp (disch := first | decide | omega) only [iI_le]
    refine ⟨fun c2 => p0 (fun z => z.1.2.1 (by rw [hl]; exact c2)) _ _ hw hg up_at, fun c2 => ?_⟩
    simp (disch := first | decide | omega) only [hw.mm, hw.R, hw.Nt, hw.Nj, hw.kI, hw.aT, hw.aJ, iI_in, iI_nat, true_and, Option.some.injEq, exists_eq_left', Int.toNat_natCast, e]
    refine ⟨by omega, by omega, sp_dueOf hw hBw hiw.P (by omega) ?_⟩
    rw [edue]
    simp (disch := first | decide | omega) only [iI_le, iI_add]
    have hq : σ 10 l + σ 14 j ≤ dueS σ l → mkQ σ j := fun z => ⟨c, by rw [hl]; exact c2, by rw [hl]; simpa using z⟩
    refine ⟨fun c3 => ?_, fun c3 => p0 (fun z => c3 (by have := z.1.2.2; rw [hl] at this; simpa using this)) _ _ hw hg up_at⟩
    have hv : vcS σ j = vcF (l : Int) (σ 14 j) 40 σ := by unfold vcS; rw [hl]
    have rb := rc_b hiw
    refine ⟨_, sp_mk hj (by omega) 40 _ _ σ [] hw hg ⟨up_at, by simp, fun i hi => by simp at hi⟩ (by simp; omega) (by omega) hK (fun k => e 28 k (by decide)) (fun z S' τ a b c => ?_) (fun z S' τ a b c => ?_)⟩
    · rw [← hv] at z b c
      exact p1 (hq c3) z S' τ a (by simpa using b) (by simpa using c)
    · rw [← hv] at z
      exact p0 (fun w => by rw [w.2] at z; cases z) S' τ a b c
  · refine ⟨fun _ => p0 (fun z => c (hlim.mpr z.1.1)) _ _ hw hg up_at, fun z => absurd rfl z⟩
end
