-- ===== new objects =====
section
variable {P : Nat → Prop} {F S S' : fMS} {x n B out q : Nat} {T J V L E E' : Nat → Nat} {ρ ρ' σ τ φ ψ : fG2} {al ln vi ln' vi' Q : List Nat}
/-- nothing but what is new changed -/
def frQ (S S' : fMS) (Q : List Nat) : Prop :=
  sL S' = sL S ++ Q ∧ sE S' = sE S ∧ sM S' = sM S ∧ (∀ q ∈ Q, q ∉ sL S ∧ q ≠ sE S) ∧
  ∀ a, a ∉ Q → sK S' a = sK S a ∧ sN S' a = sN S a ∧ ∀ i, sI S' a i = sI S a i ∧ sJ S' a i = sJ S a i ∧ sR S' a i = sR S a i
theorem frQ.rf : frQ S S [] := ⟨by simp, rfl, rfl, fun q hq => absurd hq List.not_mem_nil, fun a _ => ⟨rfl, rfl, fun i => ⟨rfl, rfl, rfl⟩⟩⟩
theorem frQ.mk {k N : Nat} (f : frQ S S' Q) (h1 : q ∉ sL S') (h2 : q ≠ sE S') : frQ S (wN S' q k N) (Q ++ [q]) := by
  obtain ⟨a1, a2, a3, a4, a5⟩ := f
  refine ⟨?_, a2, a3, fun p hp => ?_, fun a ha => ?_⟩
  · show sL S' ++ [q] = _
    rw [a1, List.append_assoc]
  · rcases List.mem_append.mp hp with h | h
    · exact a4 p h
    · rw [List.mem_singleton.mp h]
      exact ⟨fun z => h1 (by rw [a1]; exact List.mem_append_left _ z), fun z => h2 (by rw [a2]; exact z)⟩
  · have hne : a ≠ q := fun z => ha (by rw [z]; exact List.mem_append_right _ List.mem_cons_self)
    obtain ⟨b1, b2, b3⟩ := a5 a (fun z => ha (List.mem_append_left _ z))
    refine ⟨(va_up_ne _ _ hne).trans b1, (va_up_ne _ _ hne).trans b2, fun i => ⟨(if_neg hne).trans (b3 i).1, (if_neg hne).trans (b3 i).2.1, (if_neg hne).trans (b3 i).2.2⟩⟩
theorem frQ.wI {s : Nat} {v : Int32} (f : frQ S S' Q) (h : q ∈ Q) : frQ S (wI S' q s v) Q := by
  obtain ⟨a1, a2, a3, a4, a5⟩ := f
  refine ⟨a1, a2, a3, a4, fun a ha => ?_⟩
  have hne : a ≠ q := fun z => ha (z ▸ h)
  obtain ⟨b1, b2, b3⟩ := a5 a ha
  exact ⟨b1, b2, fun i => ⟨(if_neg (fun z => hne z.1)).trans (b3 i).1, (b3 i).2⟩⟩
theorem frQ.wJ {s : Nat} {v : Int64} (f : frQ S S' Q) (h : q ∈ Q) : frQ S (wJ S' q s v) Q := by
  obtain ⟨a1, a2, a3, a4, a5⟩ := f
  refine ⟨a1, a2, a3, a4, fun a ha => ?_⟩
  have hne : a ≠ q := fun z => ha (z ▸ h)
  obtain ⟨b1, b2, b3⟩ := a5 a ha
  exact ⟨b1, b2, fun i => ⟨(b3 i).1, (if_neg (fun z => hne z.1)).trans (b3 i).2.1, (b3 i).2.2⟩⟩
theorem frQ.wR {s : Nat} {v : Option Nat} (f : frQ S S' Q) (h : q ∈ Q) : frQ S (wR S' q s v) Q := by
  obtain ⟨a1, a2, a3, a4, a5⟩ := f
  refine ⟨a1, a2, a3, a4, fun a ha => ?_⟩
  have hne : a ≠ q := fun z => ha (z ▸ h)
  obtain ⟨b1, b2, b3⟩ := a5 a ha
  exact ⟨b1, b2, fun i => ⟨(b3 i).1, (b3 i).2.1, (if_neg (fun z => hne z.1)).trans (b3 i).2.2⟩⟩
theorem frQ.fl (f : frQ S S' Q) : frL S S' := by
  obtain ⟨a1, a2, a3, a4, a5⟩ := f
  have nq : ∀ a ∈ sL S, a ∉ Q := fun a ha hq => (a4 a hq).1 ha
  exact ⟨fun a ha => ⟨by rw [a1]; exact List.mem_append_left _ ha, (a5 a (nq a ha)).1, (a5 a (nq a ha)).2.1⟩, a2, a3, fun a ha _ _ => (a5 a (nq a ha)).2.2⟩
theorem frQ.nE {I : Nat → Prop} {ls : Nat → List Nat} (f : frQ S S' Q) (h : RLs I S L E ls) (i : Nat) : E i ∉ Q := by
  intro hq
  have := f.2.2.2.1 _ hq
  by_cases c : I i
  · rcases h.k14 c with z | z
    · exact this.1 z.1
    · exact this.2 z
  · exact this.2 (h.2.1 i c)
theorem frQ.rl {I : Nat → Prop} {ls : Nat → List Nat} (f : frQ S S' Q) (h : RLs I S L E ls) : RLs I S' L E ls := by
  have fL := f.fl
  have hE := f.nE h
  obtain ⟨a1, a2, a3, a4, a5⟩ := f
  have nE : sE S ∉ Q := fun z => (a4 _ z).2 rfl
  refine ⟨⟨?_, ?_⟩, fun i hi => by rw [a2]; exact h.2.1 i hi, fun i hi => ?_, fun i hi a ha => (h.2.2.2.1 i hi a ha).imp fL.a (Or.imp fL.a fL.a), h.2.2.2.2.1, fun i j hi hj e => by rw [a2]; exact h.2.2.2.2.2 i j hi hj e⟩
  · rw [a1, a2]; intro z; rcases List.mem_append.mp z with y | y
    · exact h.1.1 y
    · exact nE y
  · rw [a2, (a5 _ nE).2.1]; exact h.1.2
  · have nL : L i ∉ Q := fun z => (a4 _ z).1 (h.k hi).1
    have cL := a5 _ nL
    have cE := a5 _ (hE i)
    rw [a2, (cL.2.2 1).2.2, (cL.2.2 2).1, cE.2.1]
    refine ⟨fL.a (h.k hi), h.e hi, h.n hi, (h.k14p hi).imp (fun z => ⟨fL.a z.1, z.2⟩) id, h.le hi, h.cm hi, h.mx hi, fun k hk => ?_⟩
    rw [(cE.2.2 k).2.2]; exact h.el hi hk
theorem frQ.pt {I : Nat → Prop} {ls : Nat → List Nat} (f : frQ S S' Q) (h : RLs I S L E ls) : pot S' E = pot S E := potF_c 20 (fun k _ => (f.2.2.2.2 _ (f.nE h k)).2.1)
theorem RB.mk (h : RB P F S x T J V L E ρ al ln vi) (f : frQ S S' Q) : RB P F S' x T J V L E ρ al ln vi := h.fr f.fl (f.rl h.l)
theorem rmB.mk {k : Nat} {I : Nat → Prop} {ls : Nat → List Nat} (hn : rmB S E n B) (f : frQ S S' Q) (h : RLs I S L E ls) (hb : B + k ≤ 20000) : rmB S' E (n + k) (B + k) := ⟨by rw [f.pt h]; have := hn.1; omega, hb⟩
/-- serving, with the same objects -/
theorem cx_sv2 {c : Int} {B1 : Nat} (K : K0 c ρ) (hal : al = alv ρ) (hB : okB ρ) (h4 : h40 ρ) (h : RB P F S x T J V L E ρ al ln vi) (hn : rmB S E n B1) (hb : B1 ≤ B) (hb2 : B ≤ 20000) {post : fMS → Nat → Prop} (hp : ∀ S' n' E' ρ' ln' vi', RB P F S' x T J V L E' ρ' al ln' vi' → eqC (svS ρ) ρ' → LB P F S' x (svS ρ) n' B → post S' n') : wp_X3_serve S n x post := by
  refine cx_serve K.1 hB K.2.1 K.2.2.1 h4 K.2.2.2.1 K.2.2.2.2.1 K.2.2.2.2.2 hal h hn (fun S' n' E' ρ' ln' vi' a1 a2 a3 a4 a5 a6 => hp S' n' E' ρ' ln' vi' a1 a3 ?_)
  exact ⟨T, J, V, L, E', ρ', al, ln', vi', a1, ⟨by have := a2.1; omega, hb2⟩, a6, a3, a4, a5⟩
/-- one reservation more -/
def nV (V : Nat → Nat) (N q : Nat) : Nat → Nat := fun i => if i = N then q else V i
theorem RB.add4 {t : Nat} {f e : Int} (h : RB P F S x T J V L E ρ al ln vi) (hn : rmB S E n B) (h0 : 0 ≤ ρ 22 0) (h8 : ρ 22 0 < 8) (ht : (t : Int) < ρ 4 0) (hq : isA S 2 q) (hV : ∀ j : Nat, (j : Int) < ρ 22 0 → V j ≠ q) (hP : ¬ P q)
    (q0 : sR S q 0 = some (T t)) (q1 : sI S q 1 = iI f) (q2 : sI S q 2 = iI e) (q3 : sI S q 3 = iI 0) {post : Int32 → fMS → Nat → Prop}
    (hp : ∀ v S' n' E', RB P F S' x T J (nV V (ρ 22 0).toNat q) L E' (resA ρ t f e) al ln vi → rmB S' E' n' B → post v S' n') : wp_Jx4a65c_add_9ea2d S n (L 4) (some q) post := by
  have e4 : cnt T J V ρ al ln vi 4 = (List.range (ρ 22 0).toNat).map V := rfl
  refine h.l.add vid4 (by decide) (Or.inr (Or.inl hq)) (by rw [e4]; simp [lmx]; omega) (hn.n h.l) (fun S' n' E' h' fr hp' => hp _ S' n' E' ?_ (hn.to hp'))
  obtain ⟨b1, b2, b3, b4, b5⟩ := h.frX fr
  have g : ∀ {g k : Nat}, g < 22 ∨ 26 < g → resA ρ t f e g k = ρ g k := fun hg => by
    unfold resA; rw [up_ne (by omega), up_ne (by omega), up_ne (by omega), up_ne (by omega), up_ne (by omega)]
  obtain ⟨N, hN⟩ : ∃ N, N = (ρ 22 0).toNat := ⟨_, rfl⟩
  have e22 : resA ρ t f e 22 0 = ρ 22 0 + 1 := up_at
  have fq := fr.2.2.2 q hq.1 (by rw [hq.2]; decide) (by rw [hq.2]; decide)
  refine ⟨b1.c (g (by decide)) (g (by decide)) (g (by decide)) (g (by decide)), b2.c (g (by decide)) (fun a i _ hg => g (by omega)), b3.c (g (by decide)) (fun a i _ hg => g (by omega)), ⟨fun i hi => ?_, fun i j hi hj hij => ?_⟩, ?_, ⟨b5.1, b5.2.1, fun a ha => ?_⟩⟩
  · rw [e22] at hi
    rw [← hN]
    by_cases c : i = N
    · subst c
      have v1 : nV V i q i = q := if_pos rfl
      have w3 : resA ρ t f e 23 i = t := by unfold resA; rw [up_ne (by decide), up_ne (by decide), up_ne (by decide), up_ne (by decide), ← hN]; exact up_at
      have w4 : resA ρ t f e 24 i = 0 := by unfold resA; rw [up_ne (by decide), up_ne (by decide), up_ne (by decide), ← hN]; exact up_at
      have w5 : resA ρ t f e 25 i = f := by unfold resA; rw [up_ne (by decide), up_ne (by decide), ← hN]; exact up_at
      have w6 : resA ρ t f e 26 i = e := by unfold resA; rw [up_ne (by decide), ← hN]; exact up_at
      rw [v1, w3, w4, w5, w6, Int.toNat_natCast, (fq 0).2.2, (fq 1).1, (fq 2).1, (fq 3).1]
      exact ⟨fr.a hq, q0, q1, q2, q3⟩
    · have v1 : nV V N q i = V i := if_neg c
      have w : ∀ a, 23 ≤ a → a ≤ 26 → resA ρ t f e a i = ρ a i := fun a ha1 ha2 => by
        have hu : ∀ (σ : fG2) (b : Nat) (v : Int), up σ b (ρ 22 0).toNat v a i = σ a i := fun σ b v => by
          unfold up; rw [if_neg (by omega)]
        unfold resA; rw [up_ne (by omega), hu, hu, hu, hu]
      rw [v1, w 23 (by omega) (by omega), w 24 (by omega) (by omega), w 25 (by omega) (by omega), w 26 (by omega) (by omega)]
      exact b4.1 i (by omega)
  · rw [e22] at hi hj
    rw [← hN] at hij
    unfold nV at hij
    split at hij
    · split at hij
      · omega
      · exact absurd hij.symm (hV j (by omega))
    · split at hij
      · exact absurd hij (hV i (by omega))
      · exact b4.2 i j (by omega) (by omega) hij
  · have e3 : cnt T J (nV V (ρ 22 0).toNat q) (resA ρ t f e) al ln vi = lsU (cnt T J V ρ al ln vi) 4 (cnt T J V ρ al ln vi 4 ++ [q]) := by
      funext i; unfold lsU
      by_cases c : i = 4
      · subst c
        rw [if_pos rfl, e4]
        show (List.range (resA ρ t f e 22 0).toNat).map (nV V (ρ 22 0).toNat q) = _
        rw [e22, show (ρ 22 0 + 1).toNat = (ρ 22 0).toNat + 1 by omega, List.range_succ, List.map_append]
        congr 1
        · refine List.map_congr_left (fun i hi => ?_)
          have := List.mem_range.mp hi
          exact if_neg (by omega)
        · simp [nV]
      · rw [if_neg c]
        unfold cnt kdl
        simp only [if_neg c, g (g := 4) (Or.inl (by decide)), g (g := 5) (Or.inl (by decide)), g (g := 12) (Or.inl (by decide))]
    rw [e3, g (by decide)]; exact h'
  · obtain ⟨c1, c2, c3, c4, c5, c6⟩ := b5.2.2 a ha
    refine ⟨c1, c2, c3, c4, c5, fun j hj => ?_⟩
    rw [e22] at hj
    unfold nV; split
    · intro z; exact hP (z ▸ ha)
    · exact c6 j (by omega)
end
