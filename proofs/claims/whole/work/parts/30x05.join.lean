-- ===== broker and reference side by side =====
section
variable {P : Nat → Prop} {F S S' S1 : fMS} {x m n n' B o1 o2 kd o : Nat} {A T J V L E E' : Nat → Nat} {ρ ρ' σ σ' τ θ : fG2} {al ln vi : List Nat} {z : Int64}
def pP (m : Nat) (A : Nat → Nat) (o1 o2 : Nat) : Nat → Prop := fun a => a = m ∨ (∃ f, rA f = true ∧ a = A f) ∨ a = o1 ∨ a = o2
/-- of what is no broker's, nothing but ints and longs changed -/
def frK (S S' : fMS) : Prop := sL S' = sL S ∧ sK S' = sK S ∧ sN S' = sN S ∧ sR S' = sR S ∧ sE S' = sE S ∧ sM S' = sM S ∧
  ∀ b, sK S b ≠ 5 → sK S b ≠ 11 → sK S b ≠ 12 → sK S b ≠ 13 → sK S b ≠ 15 → ∀ j, sI S' b j = sI S b j ∧ sJ S' b j = sJ S b j
theorem frK.rf : frK S S := ⟨rfl, rfl, rfl, rfl, rfl, rfl, fun _ _ _ _ _ _ _ => ⟨rfl, rfl⟩⟩
theorem frK.tr (h : frK S S') (h2 : frK S' S1) : frK S S1 := by
  refine ⟨h2.1.trans h.1, h2.2.1.trans h.2.1, h2.2.2.1.trans h.2.2.1, h2.2.2.2.1.trans h.2.2.2.1, h2.2.2.2.2.1.trans h.2.2.2.2.1, h2.2.2.2.2.2.1.trans h.2.2.2.2.2.1, fun b a1 a2 a3 a4 a5 j => ?_⟩
  have e := h.2.2.2.2.2.2 b a1 a2 a3 a4 a5 j
  have e2 := h2.2.2.2.2.2.2 b (by rw [h.2.1]; exact a1) (by rw [h.2.1]; exact a2) (by rw [h.2.1]; exact a3) (by rw [h.2.1]; exact a4) (by rw [h.2.1]; exact a5) j
  exact ⟨e2.1.trans e.1, e2.2.trans e.2⟩
theorem frK.wJ (hk : sK S o = 12 ∨ sK S o = 15) : frK S (wJ S o 0 z) := by
  refine ⟨rfl, rfl, rfl, rfl, rfl, rfl, fun b _ _ a12 _ a15 j => ⟨rfl, if_neg (fun y => ?_)⟩⟩
  rw [y.1] at a12 a15
  exact hk.elim a12 a15
theorem frK.fX (h : RM S S' m A θ) : frK S S' := by
  obtain ⟨e1, e2, e3, e4, e5, e6, e7⟩ := h.f
  refine ⟨e1, e2, e3, e4, e5, e6, fun b a5 a11 a12 a13 _ j => e7 b (fun y => a5 ?_) (fun f hf y => ?_) j⟩
  · rw [y, ← e2]; exact h.m.2
  · have k := (h.k f hf).2
    rw [← y, e2] at k
    unfold rK at k
    split at k
    · exact a12 k
    · split at k
      · exact a13 k
      · exact a11 k
theorem frK.a (h : frK S S') {k a : Nat} (ha : isA S k a) : isA S' k a := ⟨by rw [h.1]; exact ha.1, by rw [h.2.1]; exact ha.2⟩
theorem RB.ref (h : RB P F S x T J V L E ρ al ln vi) (f : frK S S') : RB P S' S' x T J V L E ρ al ln vi := by
  have c : ∀ {k a : Nat}, isA S k a → k ≠ 5 → k ≠ 11 → k ≠ 12 → k ≠ 13 → k ≠ 15 → ∀ j, sI S' a j = sI S a j ∧ sJ S' a j = sJ S a j := fun {k a} ha a1 a2 a3 a4 a5 j => f.2.2.2.2.2.2 a (by rw [ha.2]; exact a1) (by rw [ha.2]; exact a2) (by rw [ha.2]; exact a3) (by rw [ha.2]; exact a4) (by rw [ha.2]; exact a5) j
  have eR : sR S' = sR S := f.2.2.2.1
  refine ⟨?_, ⟨fun k hk => ?_, h.2.1.2⟩, ⟨fun k hk => ?_, h.2.2.1.2⟩, ⟨fun k hk => ?_, h.2.2.2.1.2⟩, ?_, ⟨rfl, rfl, fun a ha => ?_⟩⟩
  · obtain ⟨e1, e2, e3, e4, e5, e6, e7⟩ := h.1
    have cx := c e1 (by decide) (by decide) (by decide) (by decide) (by decide)
    unfold RX
    rw [eR, (cx 7).1, (cx 8).1, (cx 9).1, (cx 10).1]
    exact ⟨f.a e1, e2, e3, e4, e5, e6, e7⟩
  · obtain ⟨e1, e2, e3, e4, e5, e6⟩ := h.2.1.1 k hk
    have cx := c e1 (by decide) (by decide) (by decide) (by decide) (by decide)
    rw [eR, (cx 0).1, (cx 7).2]
    exact ⟨f.a e1, e2, e3, e4, fun s hs => by rw [(cx s).1]; exact e5 s hs, e6⟩
  · obtain ⟨e1, e2, e3, e4, e5⟩ := h.2.2.1.1 k hk
    have cx := c e1 (by decide) (by decide) (by decide) (by decide) (by decide)
    rw [eR, (cx 0).1, (cx 4).1]
    exact ⟨f.a e1, e2, e3, e4, fun s hs => by rw [(cx s).1]; exact e5 s hs⟩
  · obtain ⟨e1, e2, e3, e4, e5⟩ := h.2.2.2.1.1 k hk
    have cx := c e1 (by decide) (by decide) (by decide) (by decide) (by decide)
    rw [eR, (cx 1).1, (cx 2).1, (cx 3).1]
    exact ⟨f.a e1, e2, e3, e4, e5⟩
  · have hl := h.l
    refine ⟨⟨by rw [f.2.2.2.2.1, f.1]; exact hl.1.1, by rw [f.2.2.2.2.1, f.2.2.1]; exact hl.1.2⟩, fun i hi => by rw [f.2.2.2.2.1]; exact hl.2.1 i hi, fun i hi => ?_, fun i hi a ha => (hl.2.2.2.1 i hi a ha).imp f.a (Or.imp f.a f.a), hl.2.2.2.2.1, fun i j hi hj e => by rw [f.2.2.2.2.1]; exact hl.2.2.2.2.2 i j hi hj e⟩
    have cx := c (hl.k hi) (by decide) (by decide) (by decide) (by decide) (by decide)
    rw [eR, (cx 2).1, f.2.2.2.2.1, f.2.2.1]
    exact ⟨f.a (hl.k hi), hl.e hi, hl.n hi, (hl.k14p hi).imp (fun y => ⟨f.a y.1, y.2⟩) id, hl.le hi, hl.cm hi, hl.mx hi, fun k hk => hl.el hi hk⟩
  · obtain ⟨e1, e2, e3, e4, e5, e6⟩ := h.f.2.2 a ha
    exact ⟨by rw [f.1]; exact e1, rfl, rfl, by rw [f.2.1]; exact e4, fun _ => ⟨rfl, rfl, rfl⟩, e6⟩
theorem frX.rf : frX m A S S := ⟨rfl, rfl, rfl, rfl, rfl, rfl, fun _ _ _ _ => ⟨rfl, rfl⟩⟩
theorem RM.bs (h : RM F S m A θ) : RM S S m A θ := ⟨h.1, h.2.1, h.2.2.1, h.2.2.2.1, h.2.2.2.2.1, h.2.2.2.2.2.1, frX.rf⟩
theorem RM.cg (h : RM F S m A θ) (e : ∀ g k : Nat, g ≤ 32 → τ g k = θ g k) : RM F S m A τ := by
  refine ⟨h.1, h.2.1, h.2.2.1, fun f hf => ?_, fun f j hf h8 hj => ?_, fun j hj => ?_, h.f⟩
  · rw [e f 0 (by unfold rS at hf; simp only [Bool.or_eq_true, beq_iff_eq] at hf; omega)]; exact h.s f hf
  · rw [e f j (by unfold rA at hf; simp only [Bool.or_eq_true, beq_iff_eq] at hf; omega)]; exact h.a f j hf h8 hj
  · rw [e 8 j (by omega)]; exact h.J j hj
/-- the reference over a call of the broker -/
theorem RM.br (h : RM F S m A θ) (hL : LB (pP m A o1 o2) S S' x σ n B) : RM S' S' m A θ := by
  have cm := hL.fr (a := m) (Or.inl rfl)
  have cA := fun f hf => hL.fr (a := A f) (Or.inr (Or.inl ⟨f, hf, rfl⟩))
  refine ⟨⟨cm.1, cm.2.1.trans h.m.2⟩, fun f hf => ⟨?_, ⟨(cA f hf).1, (cA f hf).2.1.trans (h.k f hf).2⟩, (cA f hf).2.2.1.trans (h.N f hf)⟩, h.2.2.1, fun f hf => ?_, fun f j hf h8 hj => ?_, fun j hj => ?_, frX.rf⟩
  · rw [(cm.2.2.2 f).2.2]; exact h.R f hf
  · rw [(cm.2.2.2 f).1]; exact h.s f hf
  · rw [((cA f hf).2.2.2 j).1]; exact h.a f j hf h8 hj
  · rw [((cA 8 rfl).2.2.2 j).2.1]; exact h.J j hj
theorem RM.wo (h : RM F S m A θ) (ho : o ≠ A 8) : RM (wJ S o 0 z) (wJ S o 0 z) m A θ :=
  ⟨h.1, h.2.1, h.2.2.1, h.2.2.2.1, h.2.2.2.2.1, fun j hj => (if_neg (fun y => ho y.1.symm)).trans (h.J j hj), frX.rf⟩
/-- both, at the edge of a call -/
def JB (x m o1 o2 : Nat) (A : Nat → Nat) (θ : fG2) (S : fMS) (n B : Nat) : Prop := ∃ (T J V L E : Nat → Nat) (al ln vi : List Nat), RB (pP m A o1 o2) S S x T J V L E θ al ln vi ∧ rmB S E n B ∧ al = alv θ ∧ okB θ ∧ h40 θ ∧ RM S S m A θ ∧ oK (pP m A o1 o2) S o1 12 ∧ oK (pP m A o1 o2) S o2 15 ∧ o1 ≠ A 8
theorem JB.join {σ2 : fG2} {S2 : fMS} (hO1 : oK (pP m A o1 o2) S o1 12) (hO2 : oK (pP m A o1 o2) S o2 15) (hne : o1 ≠ A 8) (hL : LB (pP m A o1 o2) S S' x σ' n B) (hK : frK S' S1) (hM : RM S1 S2 m A τ) (hτ : eqC σ2 τ) (hB : okB τ) (ag : ∀ g k : Nat, 1 ≤ g → g ≤ 26 → σ2 g k = σ' g k) : ∃ θ, JB x m o1 o2 A θ S2 n B ∧ eqC σ2 θ := by
  have w1 := hL.out hO1; have w2 := hL.out hO2
  obtain ⟨T, J, V, L, E, ρ, al, ln, vi, a1, a2, a3, a4, a5, a6⟩ := hL
  have f := hK.tr (frK.fX hM)
  obtain ⟨θ, hθ⟩ : ∃ θ : fG2, θ = fun g k => if g ≤ 32 then τ g k else ρ g k := ⟨_, rfl⟩
  have lo : ∀ g k : Nat, g ≤ 32 → θ g k = τ g k := fun g k h => by rw [hθ]; exact if_pos h
  have hi : ∀ g k : Nat, 32 < g → θ g k = ρ g k := fun g k h => by rw [hθ]; exact if_neg (by omega)
  have md : ∀ g k : Nat, 1 ≤ g → g ≤ 26 → θ g k = ρ g k := fun g k h1 h2 => by
    rw [lo g k (by omega), hτ g k h1 (by omega), ag g k h1 h2, a4 g k h1 (by omega)]
  have e12 := md 12 0 (by decide) (by decide)
  have e17 := fun k => md 17 k (by decide) (by decide)
  refine ⟨θ, ⟨T, J, V, L, E, al, ln, vi, ?_, ?_, ?_, ?_, ?_, ?_, ?_, ?_, hne⟩, fun g k h1 h2 => (lo g k (by omega)).trans (hτ g k h1 h2)⟩
  · exact (a1.ref f).cg (fun g k c0 _ _ _ c27 c28 c29 c30 c31 c32 => by
      by_cases c : g ≤ 26
      · exact md g k (by omega) c
      · exact hi g k (by omega))
  · exact a2.w f.2.2.1
  · rw [a3]; unfold alv; rw [e12]; refine List.filter_congr (fun i _ => ?_); rw [e17]
  · intro g k; rw [hθ]
    show -100000000 ≤ (if g ≤ 32 then τ g k else ρ g k) ∧ (if g ≤ 32 then τ g k else ρ g k) ≤ 100000000
    split
    · exact hB g k
    · exact a5 g k
  · intro j hj hs
    rw [e12] at hj
    rw [e17] at hs
    rw [hi 40 j (by decide), md 19 j (by decide) (by decide)]
    exact a6 j hj hs
  · exact hM.bs.cg (fun g k h => lo g k h)
  · exact ⟨hO1.1, f.a w1.1, by rw [f.2.2.1]; exact w1.2⟩
  · exact ⟨hO2.1, f.a w2.1, by rw [f.2.2.1]; exact w2.2⟩
end
