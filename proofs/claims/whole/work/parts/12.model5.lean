section
variable {F S : fMS} {m n : Nat} {A : Nat → Nat} {σ : fG2}
theorem sp_demandOf (h : RM F S m A σ) (hT : okT σ) (hU : okU σ) (hL : okL σ) : ∀ (d t : Nat) (post : Int32 → Prop), (t : Int) < σ 4 0 → σ 4 0 ≤ t + d → post (iI (dmF σ d t)) → wp_X4_demandOf d S m (iI t) post := by
  have q1 := hT.1; have q2 := hT.2.1
  intro d
  induction d with
  | zero => intro t post h1 h2 _; exfalso; omega
  | succ e ihd =>
    intro t post h1 h2 hp
    have bt := hL.1 t; have bw := hL.2 t; have bu := hU t
    obtain ⟨own, hown⟩ : ∃ x, x = (if kidsN σ t = 0 then σ 11 t + σ 10 t else 0) := ⟨_, rfl⟩
    have bown : 0 ≤ own ∧ own ≤ 6000 := by rw [hown]; split <;> omega
    obtain ⟨f, hf⟩ : ∃ f : Nat → Int, f = fun k => if σ 5 k = t then dmF σ e k else 0 := ⟨_, rfl⟩
    have bf : ∀ i, 1 ≤ i → 0 ≤ f i ∧ f i ≤ 500 := by
      intro i hi
      have := dm_b hT hU hL e i
      have h3 := this.2.2 (by omega)
      rw [hf]
      show 0 ≤ (if σ 5 i = t then dmF σ e i else 0) ∧ (if σ 5 i = t then dmF σ e i else 0) ≤ 500
      split <;> omega
    have hp : ∀ x, x = own + fSum f 1 (nt1 σ) → post (iI (if 0 < t ∧ σ 7 t < x then σ 7 t else x)) := by
      rintro _ rfl
      rw [hown, hf]
      simp only [dmF] at hp
      exact hp
    have key : ∀ d k : Nat, ∀ acc : Int, (k + d : Int) = σ 4 0 → 1 ≤ k → 0 ≤ acc → acc + 500 * d ≤ 100000 → acc + fSum f k d = own + fSum f 1 (nt1 σ) →
        wB_X4_demandOf_28 S post (wp_X4_demandOf e) m (iI t) (d + 1) (iI acc) (iI k) := by
      intro d; induction d with
      | zero =>
        intro k acc hk hk1 h0 ha hx
        simp only [fSum, Int.add_zero] at hx
        have hp := hp acc hx
        simp only [wB_X4_demandOf_28]
        simp (disch := first | decide | omega) only [h.s, h.mm, h.R, h.Nt, h.kI, h.aT, iI_le, iI_0, iI_in, iI_nat, Option.some.injEq, exists_eq_left', true_and, Int.toNat_natCast]
        refine ⟨fun _ => ⟨fun c => ?_, fun c => ⟨by omega, fun c1 => ?_, fun c1 => ⟨by omega, ?_⟩⟩⟩, fun c => absurd c (by omega)⟩
        · rw [if_neg (by omega)] at hp; exact hp
        · rw [if_neg (by omega)] at hp; exact hp
        · rw [if_pos (by omega)] at hp; exact hp
      | succ d ih =>
        intro k acc hk hk1 h0 ha hx
        have hb := hT.p k (by omega)
        have b1 := bf k hk1
        simp only [fSum] at hx
        rw [wB_X4_demandOf_28]
        simp (disch := first | decide | omega) only [h.s, h.mm, h.R, h.Nt, h.kI, h.aT, iI_le, iI_in, iI_nat, iI_0, iI_1, iI_eq, iI_add, Option.some.injEq, exists_eq_left', true_and, Int.toNat_natCast]
        refine ⟨fun c => absurd c (by omega), fun c => ⟨by omega, ?_, ?_⟩⟩
        · rintro hc _ rfl _ rfl
          have e0 : f k = 0 := by rw [hf]; exact if_neg hc
          exact ih (k + 1) (acc + 0) (by omega) (by omega) (by omega) (by omega) (by omega)
        · intro hc
          have e0 : f k = dmF σ e k := by rw [hf]; exact if_pos hc
          have hkk := hT.2.2.2 k hk1 (by omega)
          refine ihd k _ (by omega) (by omega) ?_
          simp only [iI_add]
          rintro _ rfl _ rfl
          exact ih (k + 1) (acc + dmF σ e k) (by omega) (by omega) (by omega) (by omega) (by omega)
    have go : ∃ g28, wB_X4_demandOf_28 S post (wp_X4_demandOf e) m (iI t) g28 (iI own) (iI 1) :=
      ⟨_, key (nt1 σ) 1 own (by unfold nt1; omega) (by omega) (by omega) (by unfold nt1; omega) rfl⟩
    rw [wp_X4_demandOf]
    rw [h.mm, true_and]
    refine sp_isLeaf h hT (by omega) ?_
    have b := @b01_b (kidsN σ t = 0) _
    simp (disch := first | decide | omega) only [h.R, h.Nt, h.kI, h.aT, iI_in, iI_nat, iI_0, iI_1, iI_add, iI_eq, b01_0, Option.some.injEq, exists_eq_left', true_and, Int.toNat_natCast]
    refine ⟨fun c => ?_, fun c => ⟨by omega, by omega, ?_⟩⟩
    · rw [if_neg c] at hown; rw [hown] at go; exact go
    · rintro _ rfl
      rw [if_pos (Classical.not_not.mp c)] at hown; rw [hown] at go; exact go
end
