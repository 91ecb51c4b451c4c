/-- a job that may be stopped for leaf t -/
def ovP (σ : fG2) (t : Int) (j : Nat) : Prop := σ 17 j = 1 ∧ σ 13 j ≠ t ∧ dueS σ (σ 13 j).toNat < σ 10 (σ 13 j).toNat
noncomputable def loF (σ : fG2) (t : Int) : Nat → Nat → Int → Int
  | _, 0, b => b
  | j, d + 1, b => haveI := Classical.propDecidable; loF σ t (j + 1) d (if ovP σ t j ∧ (b = -1 ∨ σ 19 b.toNat < σ 19 j) then (j : Int) else b)
noncomputable def loS (σ : fG2) (t : Int) : Int := loF σ t 0 (σ 12 0).toNat (-1)
def loOk (σ : fG2) (t b : Int) : Prop := b = -1 ∨ (0 ≤ b ∧ b < σ 12 0 ∧ ovP σ t b.toNat)
theorem loF_ok {σ : fG2} {t : Int} : ∀ (d j : Nat) (b : Int), (j + d : Int) ≤ σ 12 0 → loOk σ t b → loOk σ t (loF σ t j d b) := by
  intro d; induction d with
  | zero => intro j b _ h; exact h
  | succ d ih =>
    intro j b hj h
    simp only [loF]
    refine ih (j + 1) _ (by omega) ?_
    split
    · rename_i c
      exact Or.inr ⟨by omega, by omega, by simpa using c.1⟩
    · exact h
theorem loS_ok {σ : fG2} (hJ : okJ σ) (t : Int) : loOk σ t (loS σ t) := loF_ok _ _ _ (by have := hJ.1; omega) (Or.inl rfl)
section
variable {F S : fMS} {m n : Nat} {A : Nat → Nat} {σ : fG2}
theorem sp_lastOver (hT : okT σ) (hJ : okJ σ) (hB : okB σ) (hP : okP σ) (h : RM F S m A σ) {t : Int} (ht : -1000 ≤ t ∧ t ≤ 1000) {post : Int32 → Prop} (hp : post (iI (loS σ t))) : wp_X4_lastOver S m (iI t) post := by
  have q2 := hT.2.1; have q3 := hJ.1; have q4 := hJ.2.1
  have key : ∀ (d j : Nat) (b : Int), (j + d : Int) = σ 12 0 → loOk σ t b → loF σ t j d b = loS σ t → wB_X4_lastOver_4 S post m (iI t) (d + 1) (iI b) (iI j) := by
    intro d; induction d with
    | zero =>
      intro j b hj hb hx
      simp only [loF] at hx
      simp only [wB_X4_lastOver_4]
      simp (disch := first | decide | omega) only [h.s, h.mm, iI_le, true_and]
      exact ⟨fun _ => by rw [hx]; exact hp, fun c => absurd c (by omega)⟩
    | succ d ih =>
      intro j b hj hb hx
      have bj := hJ.2.2 j (by omega)
      have b17 := hB 17 j; have b19 := hB 19 j
      obtain ⟨l, hl⟩ : ∃ l : Nat, σ 13 j = l := ⟨(σ 13 j).toNat, by omega⟩
      have b10 := hB 10 l; have b28 := hB 28 l
      have brs := rsv_b hP l
      have bdue : -100000000 ≤ dueS σ l ∧ dueS σ l ≤ 100000000 := by unfold dueS; split <;> omega
      simp only [loF] at hx
      have hbn : b = -1 ∨ ∃ bn : Nat, b = bn ∧ (bn : Int) < σ 12 0 := hb.imp id (fun z => ⟨b.toNat, by omega, by omega⟩)
      have no : ¬ ovP σ t j → ∀ y : Int, y = 0 → wB_X4_lastOver_61 S post (fun z0 z1 => wB_X4_lastOver_4 S post m (iI t) (d + 1) z0 z1) m (iI t) (iI b) (iI j) (iI y) := by
        rintro hc _ rfl
        rw [if_neg (fun z => hc z.1)] at hx
        unfold wB_X4_lastOver_61
        simp (disch := first | decide | omega) only [iI_0, iI_1, iI_add, not_true_eq_false, false_implies, and_true, true_implies]
        rintro _ rfl
        exact ih (j + 1) b (by omega) hb hx
      have yes : ovP σ t j → ∀ y : Int, y = 1 → wB_X4_lastOver_61 S post (fun z0 z1 => wB_X4_lastOver_4 S post m (iI t) (d + 1) z0 z1) m (iI t) (iI b) (iI j) (iI y) := by
        rintro hc _ rfl
        have hj' : loOk σ t j := Or.inr ⟨by omega, by omega, by simpa using hc⟩
        unfold wB_X4_lastOver_61 wB_X4_lastOver_88
        rcases hbn with rfl | ⟨bn, rfl, hbn⟩
        · rw [if_pos ⟨hc, Or.inl rfl⟩] at hx
          simp (disch := first | decide | omega) only [iI_0, iI_1, iI_add, iI_neg, iI_eq, not_true_eq_false, false_implies, and_true, true_implies]
          refine ⟨fun z => absurd z (by decide), fun _ => ?_⟩
          rintro _ rfl
          exact ih (j + 1) j (by omega) hj' hx
        · have b19' := hB 19 bn
          simp (disch := first | decide | omega) only [h.mm, h.R, h.Nj, h.kI, h.aJ, iI_0, iI_1, iI_add, iI_neg, iI_eq, iI_le, iI_in, iI_nat, Option.some.injEq, exists_eq_left', true_and, Int.toNat_natCast]
          simp only [Int.toNat_natCast] at hx
          refine ⟨fun z => absurd z (by decide), fun _ => ⟨fun z => absurd z (by omega), fun _ => ⟨by omega, by omega, ?_, ?_⟩⟩⟩
          · rintro c4 _ rfl
            rw [if_neg (by rintro ⟨_, y | y⟩ <;> omega)] at hx
            exact ih (j + 1) bn (by omega) hb hx
          · rintro c4 _ rfl
            rw [if_pos ⟨hc, Or.inr (by omega)⟩] at hx
            exact ih (j + 1) j (by omega) hj' hx
      rw [wB_X4_lastOver_4]
      simp (disch := first | decide | omega) only [h.s, h.mm, h.R, h.Nt, h.Nj, h.kI, h.aT, h.aJ, iI_le, iI_in, iI_nat, iI_0, iI_1, iI_eq, Option.some.injEq, exists_eq_left', true_and, Int.toNat_natCast, hl, wB_X4_lastOver_60]
      have ho : ovP σ t j ↔ (σ 17 j = 1 ∧ (l : Int) ≠ t ∧ dueS σ l < σ 10 l) := by unfold ovP; rw [hl]; rfl
      refine ⟨fun c => absurd c (by omega), fun c => ⟨by omega, fun c1 => no (fun z => c1 (ho.mp z).1) 0 rfl, fun c1 => ⟨by omega, fun c2 => no (fun z => (ho.mp z).2.1 c2) 0 rfl, fun c2 => ⟨by omega, by omega, by omega, ?_⟩⟩⟩⟩
      refine sp_dueOf h hB hP (by omega) ?_
      simp (disch := first | decide | omega) only [iI_le]
      exact ⟨fun c3 => no (fun z => by have := (ho.mp z).2.2; omega) 0 rfl, fun c3 => yes (ho.mpr ⟨c1, c2, by omega⟩) 1 rfl⟩
  exact ⟨_, key (σ 12 0).toNat 0 (-1) (by omega) (Or.inl rfl) rfl⟩
end
