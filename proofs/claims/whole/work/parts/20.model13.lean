/-- within the limits of all teams below the root, with units more -/
def limP (σ : fG2) (l : List Nat) (u : Int) : Prop := ∀ k ∈ l, 0 < k → σ 10 k + u ≤ σ 7 k
theorem limP_nil {σ : fG2} {u : Int} : limP σ [] u := fun k hk => by simp at hk
noncomputable def limB (σ : fG2) (j : Nat) : Bool := haveI := Classical.propDecidable; decide (limP σ (chS σ (σ 13 j)) (σ 14 j))
section
variable {F S : fMS} {m n : Nat} {A : Nat → Nat} {σ : fG2}
theorem sp_isWithin (hT : okT σ) (hJ : okJ σ) (hB : okB σ) (h : RM F S m A σ) {j : Nat} (hj : (j : Int) < σ 12 0) {post : Int32 → Prop} (h1 : limP σ (chS σ (σ 13 j)) (σ 14 j) → post (iI 1)) (h0 : ¬ limP σ (chS σ (σ 13 j)) (σ 14 j) → post (iI 0)) : wp_X4_isWithinLimits S m (iI j) post := by
  have q2 := hT.2.1; have q4 := hJ.2.1
  have bj := hJ.2.2 j hj
  have nb : ∀ x : Int, x = 0 ∨ x = 1 → narrow .boolean (.int (iI x)) = .int (iI x) := by rintro x (rfl | rfl) <;> decide
  have key : ∀ (f : Nat) (t x : Int), -1 ≤ t → t < σ 4 0 → t < f → (x = 0 ∨ x = 1) → (x = 1 → limP σ (chF σ f t) (σ 14 j) → post (iI 1)) → ((x = 0 ∨ ¬ limP σ (chF σ f t) (σ 14 j)) → post (iI 0)) → wB_X4_isWithinLimits_9 S post m (iI j) (f + 1) (iI x) (iI t) := by
    intro f; induction f with
    | zero =>
      intro t x g1 g2 g3 hx p1 p0
      have e : t = -1 := by omega
      subst e
      simp only [wB_X4_isWithinLimits_9]
      simp (disch := first | decide | omega) only [iI_0, iI_le]
      refine ⟨fun _ => ⟨nb x hx, ?_⟩, fun c => absurd c (by decide)⟩
      rcases hx with rfl | rfl
      · exact p0 (Or.inl rfl)
      · exact p1 rfl limP_nil
    | succ f ih =>
      intro t x g1 g2 g3 hx p1 p0
      rw [wB_X4_isWithinLimits_9]
      by_cases c : t ≤ 0
      · simp (disch := first | decide | omega) only [iI_0, iI_le]
        refine ⟨fun _ => ⟨nb x hx, ?_⟩, fun z => absurd c z⟩
        have hl : limP σ (chF σ (f + 1) t) (σ 14 j) := by
          intro k hk k0
          have := chF_le hT (f + 1) t g1 g2 k hk
          omega
        rcases hx with rfl | rfl
        · exact p0 (Or.inl rfl)
        · exact p1 rfl hl
      · obtain ⟨k, rfl⟩ : ∃ k : Nat, t = k := ⟨t.toNat, by omega⟩
        have b5 := hT.2.2.2 k (by omega) (by omega)
        have b10 := hB 10 k; have b7 := hB 7 k
        have hch : limP σ (chF σ (f + 1) k) (σ 14 j) ↔ (σ 10 k + σ 14 j ≤ σ 7 k ∧ limP σ (chF σ f (σ 5 k)) (σ 14 j)) := by
          simp only [chF]
          rw [if_neg (by omega)]
          simp only [Int.toNat_natCast]
          constructor
          · intro z; exact ⟨z k List.mem_cons_self (by omega), fun i hi => z i (List.mem_cons_of_mem _ hi)⟩
          · rintro ⟨z1, z2⟩ i hi hi0
            rcases List.mem_cons.mp hi with e | e
            · rw [e]; exact z1
            · exact z2 i e hi0
        have go : ∀ y : Int, (y = 0 ∨ y = 1) → (y = 1 → x = 1 ∧ σ 10 k + σ 14 j ≤ σ 7 k) → (y = 0 → x = 0 ∨ ¬ σ 10 k + σ 14 j ≤ σ 7 k) → wB_X4_isWithinLimits_44 S post (fun z0 z1 => wB_X4_isWithinLimits_9 S post m (iI j) (f + 1) z0 z1) m (iI j) (iI k) (iI y) := by
          intro y hy y1 y0
          unfold wB_X4_isWithinLimits_44
          simp (disch := first | decide | omega) only [h.mm, h.R, h.Nt, h.kI, h.aT, iI_in, iI_nat, Option.some.injEq, exists_eq_left', true_and, Int.toNat_natCast]
          refine ⟨by omega, ?_⟩
          rintro _ rfl
          refine ih (σ 5 k) y (by omega) (by omega) (by omega) hy (fun e z => p1 (y1 e).1 (hch.mpr ⟨(y1 e).2, z⟩)) (fun e => p0 ?_)
          rcases e with e | e
          · exact (y0 e).imp id (fun z w => z (hch.mp w).1)
          · exact Or.inr (fun w => e (hch.mp w).2)
        simp (disch := first | decide | omega) only [h.mm, h.R, h.Nt, h.Nj, h.kI, h.aT, h.aJ, iI_0, iI_1, iI_le, iI_lt, iI_eq, iI_in, iI_nat, iI_add, Option.some.injEq, exists_eq_left', true_and, Int.toNat_natCast, wB_X4_isWithinLimits_43]
        refine ⟨fun z => absurd z c, fun _ => ⟨fun c1 => ?_, fun c1 => ⟨by omega, by omega, by omega, fun c2 => ?_, fun c2 => ?_⟩⟩⟩
        · exact go 0 (Or.inl rfl) (fun e => absurd e (by decide)) (fun _ => Or.inl c1)
        · exact go 0 (Or.inl rfl) (fun e => absurd e (by decide)) (fun _ => Or.inr (by omega))
        · exact go 1 (Or.inr rfl) (fun _ => ⟨by omega, by omega⟩) (fun e => absurd e (by decide))
  unfold wp_X4_isWithinLimits
  simp (disch := first | decide | omega) only [h.mm, h.R, h.Nj, h.kI, h.aJ, iI_1, iI_in, iI_nat, Option.some.injEq, exists_eq_left', true_and, Int.toNat_natCast]
  refine ⟨by omega, ?_⟩
  rintro _ rfl
  exact ⟨_, key 11 (σ 13 j) 1 (by omega) (by omega) (by omega) (Or.inr rfl) (fun _ z => h1 z) (fun z => h0 (z.resolve_left (by decide)))⟩
/-- what is free, at most -/
theorem fre_b (hP : okP σ) (hU : okU σ) (hT : okT σ) (hc : 0 ≤ σ 2 0 ∧ σ 2 0 ≤ 200) (t : Int) : -100000 ≤ freS σ t ∧ freS σ t ≤ 200 := by
  have q2 := hT.2.1; have q1 := hT.1
  have hb := fSum_le (f := freF σ t) (c := 1600) (fun k => by unfold freF; have := rsv_b hP k; have := hU k; split; omega; split <;> omega) (σ 4 0).toNat 0
  have := hU 0
  unfold freS; omega
def canP (σ : fG2) (j : Nat) : Prop := limP σ (chS σ (σ 13 j)) (σ 14 j) ∧ σ 14 j ≤ freS σ (σ 13 j)
theorem sp_canStart (hT : okT σ) (hJ : okJ σ) (hB : okB σ) (hP : okP σ) (hU : okU σ) (hc : 0 ≤ σ 2 0 ∧ σ 2 0 ≤ 200) (h : RM F S m A σ) {j : Nat} (hj : (j : Int) < σ 12 0) {post : Int32 → Prop} (h1 : canP σ j → post (iI 1)) (h0 : ¬ canP σ j → post (iI 0)) : wp_X4_canStart S m (iI j) post := by
  have q2 := hT.2.1; have q4 := hJ.2.1
  have bj := hJ.2.2 j hj
  have bf := fre_b hP hU hT hc (σ 13 j)
  unfold wp_X4_canStart
  rw [h.mm, true_and]
  refine sp_isWithin hT hJ hB h hj (fun c => ?_) (fun c => ?_)
  · refine ⟨fun z => absurd z (by decide), fun _ => ?_⟩
    simp (disch := first | decide | omega) only [h.R, h.Nj, h.kI, h.aJ, iI_in, iI_nat, Option.some.injEq, exists_eq_left', true_and, Int.toNat_natCast]
    refine ⟨by omega, by omega, sp_freeOf h hT hB hP hU (by omega) ?_⟩
    simp (disch := first | decide | omega) only [iI_lt, iI_0, iI_1]
    exact ⟨fun z => h0 (fun w => by have := w.2; omega), fun z => h1 ⟨c, by omega⟩⟩
  · exact ⟨fun _ => h0 (fun w => c w.1), fun z => absurd rfl z⟩
end
