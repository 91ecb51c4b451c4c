theorem RLs.wI {I : Nat → Prop} {S : fMS} {L E : Nat → Nat} {ls : Nat → List Nat} (h : RLs I S L E ls) {kk a s : Nat} {v : Int32} (ha : isA S kk a) (hk : kk ≠ 6) : RLs I (wI S a s v) L E ls := by
  refine ⟨h.1, h.2.1, fun i hi => ?_, h.2.2.2.1, h.2.2.2.2.1, h.2.2.2.2.2⟩
  obtain ⟨e1, e2, e3, e4⟩ := h.2.2.1 i hi
  exact ⟨e1, e2, (if_neg (fun z => (isA_ne e1 ha (Ne.symm hk)) z.1)).trans e3, e4⟩
theorem RLs.wJ {I : Nat → Prop} {S : fMS} {L E : Nat → Nat} {ls : Nat → List Nat} (h : RLs I S L E ls) {a s : Nat} {v : Int64} : RLs I (wJ S a s v) L E ls := h
theorem RF.wI {P : Nat → Prop} {F S : fMS} {V : Nat → Nat} {ρ : fG2} (h : RF P F S V ρ) {kk a s : Nat} {v : Int32} (ha : isA S kk a) (hk : kk = 1 ∨ kk = 3 ∨ kk = 4 ∨ ∃ j : Nat, (j : Int) < ρ 22 0 ∧ a = V j) : RF P F (wI S a s v) V ρ := by
  refine ⟨h.1, h.2.1, fun b hb => ?_⟩
  obtain ⟨e1, e2, e3, e4, e5, e6⟩ := h.2.2 b hb
  have hne : b ≠ a := by
    intro e; subst e
    have hK : sK S b = kk := ha.2
    rw [hK] at e4
    unfold okK at e4
    rcases hk with z | z | z | ⟨j, z1, z2⟩
    · omega
    · omega
    · omega
    · exact e6 j z1 z2.symm
  exact ⟨e1, e2, e3, e4, fun i => ⟨(if_neg (fun z => hne z.1)).trans (e5 i).1, (e5 i).2⟩, e6⟩
theorem RF.wJ {P : Nat → Prop} {F S : fMS} {V : Nat → Nat} {ρ : fG2} (h : RF P F S V ρ) {a s : Nat} {v : Int64} (ha : isA S 3 a) : RF P F (wJ S a s v) V ρ := by
  refine ⟨h.1, h.2.1, fun b hb => ?_⟩
  obtain ⟨e1, e2, e3, e4, e5, e6⟩ := h.2.2 b hb
  have hne : b ≠ a := by
    intro e; subst e
    have hK : sK S b = 3 := ha.2
    rw [hK] at e4
    unfold okK at e4; omega
  exact ⟨e1, e2, e3, e4, fun i => ⟨(e5 i).1, (if_neg (fun z => hne z.1)).trans (e5 i).2.1, (e5 i).2.2⟩, e6⟩
theorem cnt_up {T J V : Nat → Nat} {ρ : fG2} {al ln vi : List Nat} {f j : Nat} {v : Int} (h4 : f ≠ 4) (h5 : f ≠ 5) (h12 : f ≠ 12) (h22 : f ≠ 22) : cnt T J V (up ρ f j v) al ln vi = cnt T J V ρ al ln vi := by
  unfold cnt kdl; simp only [up_ne (Ne.symm h4), up_ne (Ne.symm h5), up_ne (Ne.symm h12), up_ne (Ne.symm h22)]
theorem RF.up {P : Nat → Prop} {F S : fMS} {V : Nat → Nat} {ρ : fG2} (h : RF P F S V ρ) {f j : Nat} {v : Int} (h22 : f ≠ 22) : RF P F S V (up ρ f j v) := by
  unfold RF; simp only [up_ne (Ne.symm h22)]; exact h
section
variable {P : Nat → Prop} {F S : fMS} {x : Nat} {T J V L E : Nat → Nat} {ρ : fG2} {al ln vi : List Nat}
theorem RB.wT (h : RB P F S x T J V L E ρ al ln vi) (s k : Nat) (v : Int) (hs : tS s = true) (hk : (k : Int) < ρ 4 0) : RB P F (wI S (T k) s (iI v)) x T J V L E (up ρ (tF s) k v) al ln vi := by
  have ha := (h.2.1.1 k hk).1
  obtain ⟨n1, n2, n3, n4, n5, n8, n12, n13, n14, n15, n16, n17, n18, n20, n22, n23, n24, n25, n26, n40⟩ := tF_ne hs
  have e : ∀ g i, g ≠ tF s → up ρ (tF s) k v g i = ρ g i := fun g i hg => up_ne hg
  refine ⟨?_, ⟨?_, ?_⟩, ⟨?_, ?_⟩, ⟨?_, ?_⟩, ?_, ?_⟩
  · have hx : x ≠ T k := isA_ne h.1.1 ha (by decide)
    have wi : ∀ s', sI (wI S (T k) s (iI v)) x s' = sI S x s' := fun s' => if_neg (fun z => hx z.1)
    unfold RX; rw [wi, wi, wi, wi, e 2 0 (Ne.symm n2), e 3 0 (Ne.symm n3), e 1 0 (Ne.symm n1), e 20 0 (Ne.symm n20)]
    exact h.1
  · intro l hl
    rw [e 4 0 (Ne.symm n4)] at hl
    obtain ⟨e1, e2, e3, e4, e5, e6⟩ := h.2.1.1 l hl
    rw [e 5 l (Ne.symm n5), e 8 l (Ne.symm n8)]
    refine ⟨e1, ?_, e3, e4, fun s' hs' => ?_, e6⟩
    · exact (if_neg (fun z => by have := z.2; rw [← this] at hs; exact absurd hs (by decide))).trans e2
    · show (if T l = T k ∧ s' = s then iI v else sI S (T l) s') = _
      by_cases c : s' = s
      · subst c
        by_cases d : l = k
        · subst d; rw [if_pos ⟨rfl, rfl⟩, up_at]
        · rw [if_neg (fun z => d (h.2.1.2 l k hl hk z.1)), up_nj d]; exact e5 s' hs'
      · rw [if_neg (fun z => c z.2), e _ l (fun z => c (congrArg Fin.val (tF_inj ⟨s', tS_lt hs'⟩ ⟨s, tS_lt hs⟩ hs' hs z)))]; exact e5 s' hs'
  · intro a b; rw [e 4 0 (Ne.symm n4)]; exact h.2.1.2 a b
  · intro l hl
    rw [e 12 0 (Ne.symm n12)] at hl
    obtain ⟨e1, e2, e3, e4, e5⟩ := h.2.2.1.1 l hl
    have hx : J l ≠ T k := isA_ne e1 ha (by decide)
    have wi : ∀ s', sI (wI S (T k) s (iI v)) (J l) s' = sI S (J l) s' := fun s' => if_neg (fun z => hx z.1)
    rw [wi, wi, e 13 l (Ne.symm n13), e 17 l (Ne.symm n17)]
    refine ⟨e1, e2, e3, e4, fun s' hs' => ?_⟩
    rw [wi, e _ l (Ne.symm (tjF ⟨s, tS_lt hs⟩ ⟨s', jS_lt hs'⟩ hs hs'))]; exact e5 s' hs'
  · intro a b; rw [e 12 0 (Ne.symm n12)]; exact h.2.2.1.2 a b
  · intro l hl
    rw [e 22 0 (Ne.symm n22)] at hl
    obtain ⟨e1, e2, e3, e4, e5⟩ := h.2.2.2.1.1 l hl
    have hx : V l ≠ T k := isA_ne e1 ha (by decide)
    have wi : ∀ s', sI (wI S (T k) s (iI v)) (V l) s' = sI S (V l) s' := fun s' => if_neg (fun z => hx z.1)
    rw [wi, wi, wi, e 23 l (Ne.symm n23), e 25 l (Ne.symm n25), e 26 l (Ne.symm n26), e 24 l (Ne.symm n24)]
    exact ⟨e1, e2, e3, e4, e5⟩
  · intro a b; rw [e 22 0 (Ne.symm n22)]; exact h.2.2.2.1.2 a b
  · rw [cnt_up n4 n5 n12 n22, e 4 0 (Ne.symm n4)]; exact h.l.wI ha (by decide)
  · exact (h.f.wI ha (by simp)).up n22
theorem RB.wU (h : RB P F S x T J V L E ρ al ln vi) (k : Nat) (v : Int) (hk : (k : Int) < ρ 4 0) : RB P F (wJ S (T k) 7 (jJ v)) x T J V L E (up ρ 8 k v) al ln vi := by
  have ha := (h.2.1.1 k hk).1
  have e : ∀ g i, g ≠ 8 → up ρ 8 k v g i = ρ g i := fun g i hg => up_ne hg
  refine ⟨?_, ⟨?_, ?_⟩, ⟨?_, ?_⟩, ⟨?_, ?_⟩, ?_, ?_⟩
  · unfold RX; rw [e 2 0 (by decide), e 3 0 (by decide), e 1 0 (by decide), e 20 0 (by decide)]; exact h.1
  · intro l hl
    rw [e 4 0 (by decide)] at hl
    obtain ⟨e1, e2, e3, e4, e5, e6⟩ := h.2.1.1 l hl
    rw [e 5 l (by decide)]
    refine ⟨e1, e2, e3, e4, fun s' hs' => ?_, ?_⟩
    · rw [e _ l (tF_ne hs').2.2.2.2.2.1]; exact e5 s' hs'
    · show (if T l = T k ∧ 7 = 7 then jJ v else sJ S (T l) 7) = _
      by_cases d : l = k
      · subst d; rw [if_pos ⟨rfl, rfl⟩, up_at]
      · rw [if_neg (fun z => d (h.2.1.2 l k hl hk z.1)), up_nj d]; exact e6
  · intro a b; rw [e 4 0 (by decide)]; exact h.2.1.2 a b
  · intro l hl
    rw [e 12 0 (by decide)] at hl
    obtain ⟨e1, e2, e3, e4, e5⟩ := h.2.2.1.1 l hl
    rw [e 13 l (by decide), e 17 l (by decide)]
    refine ⟨e1, e2, e3, e4, fun s' hs' => ?_⟩
    rw [e _ l (jF_ne hs').2.2.2.2.2.1]; exact e5 s' hs'
  · intro a b; rw [e 12 0 (by decide)]; exact h.2.2.1.2 a b
  · intro l hl
    rw [e 22 0 (by decide)] at hl
    rw [e 23 l (by decide), e 25 l (by decide), e 26 l (by decide), e 24 l (by decide)]
    exact h.2.2.2.1.1 l hl
  · intro a b; rw [e 22 0 (by decide)]; exact h.2.2.2.1.2 a b
  · rw [cnt_up (by decide) (by decide) (by decide) (by decide), e 4 0 (by decide)]; exact h.l.wJ
  · exact (h.f.wJ ha).up (by decide)
theorem RB.wJb (h : RB P F S x T J V L E ρ al ln vi) (s k : Nat) (v : Int) (hs : jS s = true) (h2 : jF s ≠ 14) (h3 : jF s ≠ 15) (hk : (k : Int) < ρ 12 0) : RB P F (wI S (J k) s (iI v)) x T J V L E (up ρ (jF s) k v) al ln vi := by
  have ha := (h.2.2.1.1 k hk).1
  obtain ⟨n1, n2, n3, n4, n5, n8, n12, n13, n17, n20, n22, n23, n24, n25, n26⟩ := jF_ne hs
  have e : ∀ g i, g ≠ jF s → up ρ (jF s) k v g i = ρ g i := fun g i hg => up_ne hg
  refine ⟨?_, ⟨?_, ?_⟩, ⟨?_, ?_⟩, ⟨?_, ?_⟩, ?_, ?_⟩
  · have hx : x ≠ J k := isA_ne h.1.1 ha (by decide)
    have wi : ∀ s', sI (wI S (J k) s (iI v)) x s' = sI S x s' := fun s' => if_neg (fun z => hx z.1)
    unfold RX; rw [wi, wi, wi, wi, e 2 0 (Ne.symm n2), e 3 0 (Ne.symm n3), e 1 0 (Ne.symm n1), e 20 0 (Ne.symm n20)]
    exact h.1
  · intro l hl
    rw [e 4 0 (Ne.symm n4)] at hl
    obtain ⟨e1, e2, e3, e4, e5, e6⟩ := h.2.1.1 l hl
    have hx : T l ≠ J k := isA_ne e1 ha (by decide)
    have wi : ∀ s', sI (wI S (J k) s (iI v)) (T l) s' = sI S (T l) s' := fun s' => if_neg (fun z => hx z.1)
    rw [wi, e 5 l (Ne.symm n5), e 8 l (Ne.symm n8)]
    refine ⟨e1, e2, e3, e4, fun s' hs' => ?_, e6⟩
    rw [wi, e _ l (tjF ⟨s', tS_lt hs'⟩ ⟨s, jS_lt hs⟩ hs' hs)]; exact e5 s' hs'
  · intro a b; rw [e 4 0 (Ne.symm n4)]; exact h.2.1.2 a b
  · intro l hl
    rw [e 12 0 (Ne.symm n12)] at hl
    obtain ⟨e1, e2, e3, e4, e5⟩ := h.2.2.1.1 l hl
    rw [e 13 l (Ne.symm n13), e 17 l (Ne.symm n17)]
    refine ⟨e1, ?_, e3, ?_, fun s' hs' => ?_⟩
    · exact (if_neg (fun z => by have := z.2; rw [← this] at hs; exact absurd hs (by decide))).trans e2
    · exact (if_neg (fun z => by have := z.2; rw [← this] at hs; exact absurd hs (by decide))).trans e4
    · show (if J l = J k ∧ s' = s then iI v else sI S (J l) s') = _
      by_cases c : s' = s
      · subst c
        by_cases d : l = k
        · subst d; rw [if_pos ⟨rfl, rfl⟩, up_at]
        · rw [if_neg (fun z => d (h.2.2.1.2 l k hl hk z.1)), up_nj d]; exact e5 s' hs'
      · rw [if_neg (fun z => c z.2), e _ l (fun z => c (congrArg Fin.val (jF_inj ⟨s', jS_lt hs'⟩ ⟨s, jS_lt hs⟩ hs' hs z)))]; exact e5 s' hs'
  · intro a b; rw [e 12 0 (Ne.symm n12)]; exact h.2.2.1.2 a b
  · intro l hl
    rw [e 22 0 (Ne.symm n22)] at hl
    obtain ⟨e1, e2, e3, e4, e5⟩ := h.2.2.2.1.1 l hl
    have hx : V l ≠ J k := isA_ne e1 ha (by decide)
    have wi : ∀ s', sI (wI S (J k) s (iI v)) (V l) s' = sI S (V l) s' := fun s' => if_neg (fun z => hx z.1)
    rw [wi, wi, wi, e 23 l (Ne.symm n23), e 25 l (Ne.symm n25), e 26 l (Ne.symm n26), e 24 l (Ne.symm n24)]
    exact ⟨e1, e2, e3, e4, e5⟩
  · intro a b; rw [e 22 0 (Ne.symm n22)]; exact h.2.2.2.1.2 a b
  · rw [cnt_up n4 n5 n12 n22, e 4 0 (Ne.symm n4)]; exact h.l.wI ha (by decide)
  · exact (h.f.wI ha (by simp)).up n22
theorem RB.wSt (h : RB P F S x T J V L E ρ al ln vi) (k : Nat) (v : Int) (hk : (k : Int) < ρ 12 0) : RB P F (wI S (J k) 4 (iI (stV v))) x T J V L E (up ρ 17 k v) al ln vi := by
  have ha := (h.2.2.1.1 k hk).1
  have e : ∀ g i, g ≠ 17 → up ρ 17 k v g i = ρ g i := fun g i hg => up_ne hg
  refine ⟨?_, ⟨?_, ?_⟩, ⟨?_, ?_⟩, ⟨?_, ?_⟩, ?_, ?_⟩
  · have hx : x ≠ J k := isA_ne h.1.1 ha (by decide)
    have wi : ∀ s', sI (wI S (J k) 4 (iI (stV v))) x s' = sI S x s' := fun s' => if_neg (fun z => hx z.1)
    unfold RX; rw [wi, wi, wi, wi, e 2 0 (by decide), e 3 0 (by decide), e 1 0 (by decide), e 20 0 (by decide)]
    exact h.1
  · intro l hl
    rw [e 4 0 (by decide)] at hl
    obtain ⟨e1, e2, e3, e4, e5, e6⟩ := h.2.1.1 l hl
    have hx : T l ≠ J k := isA_ne e1 ha (by decide)
    have wi : ∀ s', sI (wI S (J k) 4 (iI (stV v))) (T l) s' = sI S (T l) s' := fun s' => if_neg (fun z => hx z.1)
    rw [wi, e 5 l (by decide), e 8 l (by decide)]
    refine ⟨e1, e2, e3, e4, fun s' hs' => ?_, e6⟩
    rw [wi, e _ l (by have := (tF_ne hs').2.2.2.2.2.2.2.2.2.2.2.1; exact this)]; exact e5 s' hs'
  · intro a b; rw [e 4 0 (by decide)]; exact h.2.1.2 a b
  · intro l hl
    rw [e 12 0 (by decide)] at hl
    obtain ⟨e1, e2, e3, e4, e5⟩ := h.2.2.1.1 l hl
    rw [e 13 l (by decide)]
    refine ⟨e1, (if_neg (fun z => absurd z.2 (by decide))).trans e2, e3, ?_, fun s' hs' => ?_⟩
    · show (if J l = J k ∧ 4 = 4 then iI (stV v) else sI S (J l) 4) = _
      by_cases d : l = k
      · subst d; rw [if_pos ⟨rfl, rfl⟩, up_at]
      · rw [if_neg (fun z => d (h.2.2.1.2 l k hl hk z.1)), up_nj d]; exact e4
    · rw [e _ l (jF_ne hs').2.2.2.2.2.2.2.2.1]
      exact (if_neg (fun z => by have := z.2; rw [this] at hs'; exact absurd hs' (by decide))).trans (e5 s' hs')
  · intro a b; rw [e 12 0 (by decide)]; exact h.2.2.1.2 a b
  · intro l hl
    rw [e 22 0 (by decide)] at hl
    obtain ⟨e1, e2, e3, e4, e5⟩ := h.2.2.2.1.1 l hl
    have hx : V l ≠ J k := isA_ne e1 ha (by decide)
    have wi : ∀ s', sI (wI S (J k) 4 (iI (stV v))) (V l) s' = sI S (V l) s' := fun s' => if_neg (fun z => hx z.1)
    rw [wi, wi, wi, e 23 l (by decide), e 25 l (by decide), e 26 l (by decide), e 24 l (by decide)]
    exact ⟨e1, e2, e3, e4, e5⟩
  · intro a b; rw [e 22 0 (by decide)]; exact h.2.2.2.1.2 a b
  · rw [cnt_up (by decide) (by decide) (by decide) (by decide), e 4 0 (by decide)]; exact h.l.wI ha (by decide)
  · exact (h.f.wI ha (by simp)).up (by decide)
theorem RB.wX (h : RB P F S x T J V L E ρ al ln vi) (s f : Nat) (v : Int) (hs : (s = 7 ∧ f = 2) ∨ (s = 8 ∧ f = 3) ∨ (s = 9 ∧ f = 1) ∨ (s = 10 ∧ f = 20)) : RB P F (wI S x s (iI v)) x T J V L E (up ρ f 0 v) al ln vi := by
  have ha := h.1.1
  have e : ∀ g i, g ≠ 1 → g ≠ 2 → g ≠ 3 → g ≠ 20 → up ρ f 0 v g i = ρ g i := fun g i a b c d => up_ne (by omega)
  refine ⟨?_, ⟨?_, ?_⟩, ⟨?_, ?_⟩, ⟨?_, ?_⟩, ?_, ?_⟩
  · obtain ⟨e1, e2, e3, e4, e5, e6, e7⟩ := h.1
    have wi : ∀ s', sI (wI S x s (iI v)) x s' = if s' = s then iI v else sI S x s' := fun s' => by
      show (if x = x ∧ s' = s then iI v else sI S x s') = _
      by_cases c : s' = s
      · rw [if_pos ⟨rfl, c⟩, if_pos c]
      · rw [if_neg (fun z => c z.2), if_neg c]
    refine ⟨e1, e2, e3, ?_, ?_, ?_, ?_⟩
    · rw [wi]; rcases hs with ⟨a, b⟩ | ⟨a, b⟩ | ⟨a, b⟩ | ⟨a, b⟩ <;> rw [a, b]
      · rw [if_pos rfl, up_at]
      · rw [if_neg (by decide), up_ne (by decide)]; exact e4
      · rw [if_neg (by decide), up_ne (by decide)]; exact e4
      · rw [if_neg (by decide), up_ne (by decide)]; exact e4
    · rw [wi]; rcases hs with ⟨a, b⟩ | ⟨a, b⟩ | ⟨a, b⟩ | ⟨a, b⟩ <;> rw [a, b]
      · rw [if_neg (by decide), up_ne (by decide)]; exact e5
      · rw [if_pos rfl, up_at]
      · rw [if_neg (by decide), up_ne (by decide)]; exact e5
      · rw [if_neg (by decide), up_ne (by decide)]; exact e5
    · rw [wi]; rcases hs with ⟨a, b⟩ | ⟨a, b⟩ | ⟨a, b⟩ | ⟨a, b⟩ <;> rw [a, b]
      · rw [if_neg (by decide), up_ne (by decide)]; exact e6
      · rw [if_neg (by decide), up_ne (by decide)]; exact e6
      · rw [if_pos rfl, up_at]
      · rw [if_neg (by decide), up_ne (by decide)]; exact e6
    · rw [wi]; rcases hs with ⟨a, b⟩ | ⟨a, b⟩ | ⟨a, b⟩ | ⟨a, b⟩ <;> rw [a, b]
      · rw [if_neg (by decide), up_ne (by decide)]; exact e7
      · rw [if_neg (by decide), up_ne (by decide)]; exact e7
      · rw [if_neg (by decide), up_ne (by decide)]; exact e7
      · rw [if_pos rfl, up_at]
  · intro l hl
    rw [e 4 0 (by decide) (by decide) (by decide) (by decide)] at hl
    obtain ⟨e1, e2, e3, e4, e5, e6⟩ := h.2.1.1 l hl
    have hx : T l ≠ x := isA_ne e1 ha (by decide)
    have wi : ∀ s', sI (wI S x s (iI v)) (T l) s' = sI S (T l) s' := fun s' => if_neg (fun z => hx z.1)
    rw [wi, e 5 l (by decide) (by decide) (by decide) (by decide), e 8 l (by decide) (by decide) (by decide) (by decide)]
    refine ⟨e1, e2, e3, e4, fun s' hs' => ?_, e6⟩
    obtain ⟨m1, m2, m3, m4, m5, m8, m12, m13, m14, m15, m16, m17, m18, m20, -⟩ := tF_ne hs'
    rw [wi, e _ l m1 m2 m3 m20]; exact e5 s' hs'
  · intro a b; rw [e 4 0 (by decide) (by decide) (by decide) (by decide)]; exact h.2.1.2 a b
  · intro l hl
    rw [e 12 0 (by decide) (by decide) (by decide) (by decide)] at hl
    obtain ⟨e1, e2, e3, e4, e5⟩ := h.2.2.1.1 l hl
    have hx : J l ≠ x := isA_ne e1 ha (by decide)
    have wi : ∀ s', sI (wI S x s (iI v)) (J l) s' = sI S (J l) s' := fun s' => if_neg (fun z => hx z.1)
    rw [wi, wi, e 13 l (by decide) (by decide) (by decide) (by decide), e 17 l (by decide) (by decide) (by decide) (by decide)]
    refine ⟨e1, e2, e3, e4, fun s' hs' => ?_⟩
    obtain ⟨m1, m2, m3, m4, m5, m8, m12, m13, m17, m20, -⟩ := jF_ne hs'
    rw [wi, e _ l m1 m2 m3 m20]; exact e5 s' hs'
  · intro a b; rw [e 12 0 (by decide) (by decide) (by decide) (by decide)]; exact h.2.2.1.2 a b
  · intro l hl
    rw [e 22 0 (by decide) (by decide) (by decide) (by decide)] at hl
    obtain ⟨e1, e2, e3, e4, e5⟩ := h.2.2.2.1.1 l hl
    have hx : V l ≠ x := isA_ne e1 ha (by decide)
    have wi : ∀ s', sI (wI S x s (iI v)) (V l) s' = sI S (V l) s' := fun s' => if_neg (fun z => hx z.1)
    rw [wi, wi, wi, e 23 l (by decide) (by decide) (by decide) (by decide), e 25 l (by decide) (by decide) (by decide) (by decide), e 26 l (by decide) (by decide) (by decide) (by decide), e 24 l (by decide) (by decide) (by decide) (by decide)]
    exact ⟨e1, e2, e3, e4, e5⟩
  · intro a b; rw [e 22 0 (by decide) (by decide) (by decide) (by decide)]; exact h.2.2.2.1.2 a b
  · rw [cnt_up (by omega) (by omega) (by omega) (by omega), e 4 0 (by decide) (by decide) (by decide) (by decide)]; exact h.l.wI ha (by decide)
  · exact (h.f.wI ha (by simp)).up (by omega)
theorem RB.wV (h : RB P F S x T J V L E ρ al ln vi) (k : Nat) (v : Int) (hk : (k : Int) < ρ 22 0) : RB P F (wI S (V k) 3 (iI v)) x T J V L E (up ρ 24 k v) al ln vi := by
  have ha := (h.2.2.2.1.1 k hk).1
  have e : ∀ g i, g ≠ 24 → up ρ 24 k v g i = ρ g i := fun g i hg => up_ne hg
  refine ⟨?_, ⟨?_, ?_⟩, ⟨?_, ?_⟩, ⟨?_, ?_⟩, ?_, ?_⟩
  · have hx : x ≠ V k := isA_ne h.1.1 ha (by decide)
    have wi : ∀ s', sI (wI S (V k) 3 (iI v)) x s' = sI S x s' := fun s' => if_neg (fun z => hx z.1)
    unfold RX; rw [wi, wi, wi, wi, e 2 0 (by decide), e 3 0 (by decide), e 1 0 (by decide), e 20 0 (by decide)]
    exact h.1
  · intro l hl
    rw [e 4 0 (by decide)] at hl
    obtain ⟨e1, e2, e3, e4, e5, e6⟩ := h.2.1.1 l hl
    have hx : T l ≠ V k := isA_ne e1 ha (by decide)
    have wi : ∀ s', sI (wI S (V k) 3 (iI v)) (T l) s' = sI S (T l) s' := fun s' => if_neg (fun z => hx z.1)
    rw [wi, e 5 l (by decide), e 8 l (by decide)]
    refine ⟨e1, e2, e3, e4, fun s' hs' => ?_, e6⟩
    rw [wi, e _ l (by have := (tF_ne hs').2.2.2.2.2.2.2.2.2.2.2.2.2.2.2.2.1; exact this)]; exact e5 s' hs'
  · intro a b; rw [e 4 0 (by decide)]; exact h.2.1.2 a b
  · intro l hl
    rw [e 12 0 (by decide)] at hl
    obtain ⟨e1, e2, e3, e4, e5⟩ := h.2.2.1.1 l hl
    have hx : J l ≠ V k := isA_ne e1 ha (by decide)
    have wi : ∀ s', sI (wI S (V k) 3 (iI v)) (J l) s' = sI S (J l) s' := fun s' => if_neg (fun z => hx z.1)
    rw [wi, wi, e 13 l (by decide), e 17 l (by decide)]
    refine ⟨e1, e2, e3, e4, fun s' hs' => ?_⟩
    rw [wi, e _ l (by have := (jF_ne hs').2.2.2.2.2.2.2.2.2.2.2.2.1; exact this)]; exact e5 s' hs'
  · intro a b; rw [e 12 0 (by decide)]; exact h.2.2.1.2 a b
  · intro l hl
    rw [e 22 0 (by decide)] at hl
    obtain ⟨e1, e2, e3, e4, e5⟩ := h.2.2.2.1.1 l hl
    rw [e 23 l (by decide), e 25 l (by decide), e 26 l (by decide)]
    refine ⟨e1, e2, (if_neg (fun z => absurd z.2 (by decide))).trans e3, (if_neg (fun z => absurd z.2 (by decide))).trans e4, ?_⟩
    show (if V l = V k ∧ 3 = 3 then iI v else sI S (V l) 3) = _
    by_cases d : l = k
    · subst d; rw [if_pos ⟨rfl, rfl⟩, up_at]
    · rw [if_neg (fun z => d (h.2.2.2.1.2 l k hl hk z.1)), up_nj d]; exact e5
  · intro a b; rw [e 22 0 (by decide)]; exact h.2.2.2.1.2 a b
  · rw [cnt_up (by decide) (by decide) (by decide) (by decide), e 4 0 (by decide)]; exact h.l.wI ha (by decide)
  · exact (h.f.wI ha (Or.inr (Or.inr (Or.inr ⟨k, hk, rfl⟩)))).up (by decide)
theorem RB.w3 (h : RB P F S x T J V L E ρ al ln vi) (k : Nat) (v : Int) (hk : (k : Int) < ρ 4 0) : RB P F (wI S (T k) 3 (iI v)) x T J V L E (up ρ 6 k v) al ln vi := h.wT 3 k v rfl hk
theorem RB.w4 (h : RB P F S x T J V L E ρ al ln vi) (k : Nat) (v : Int) (hk : (k : Int) < ρ 4 0) : RB P F (wI S (T k) 4 (iI v)) x T J V L E (up ρ 7 k v) al ln vi := h.wT 4 k v rfl hk
theorem RB.w5 (h : RB P F S x T J V L E ρ al ln vi) (k : Nat) (v : Int) (hk : (k : Int) < ρ 4 0) : RB P F (wI S (T k) 5 (iI v)) x T J V L E (up ρ 9 k v) al ln vi := h.wT 5 k v rfl hk
theorem RB.w6 (h : RB P F S x T J V L E ρ al ln vi) (k : Nat) (v : Int) (hk : (k : Int) < ρ 4 0) : RB P F (wI S (T k) 6 (iI v)) x T J V L E (up ρ 10 k v) al ln vi := h.wT 6 k v rfl hk
theorem RB.w8 (h : RB P F S x T J V L E ρ al ln vi) (k : Nat) (v : Int) (hk : (k : Int) < ρ 4 0) : RB P F (wI S (T k) 8 (iI v)) x T J V L E (up ρ 41 k v) al ln vi := h.wT 8 k v rfl hk
theorem RB.w9 (h : RB P F S x T J V L E ρ al ln vi) (k : Nat) (v : Int) (hk : (k : Int) < ρ 4 0) : RB P F (wI S (T k) 9 (iI v)) x T J V L E (up ρ 42 k v) al ln vi := h.wT 9 k v rfl hk
theorem RB.w10 (h : RB P F S x T J V L E ρ al ln vi) (k : Nat) (v : Int) (hk : (k : Int) < ρ 4 0) : RB P F (wI S (T k) 10 (iI v)) x T J V L E (up ρ 43 k v) al ln vi := h.wT 10 k v rfl hk
theorem RB.w11 (h : RB P F S x T J V L E ρ al ln vi) (k : Nat) (v : Int) (hk : (k : Int) < ρ 4 0) : RB P F (wI S (T k) 11 (iI v)) x T J V L E (up ρ 44 k v) al ln vi := h.wT 11 k v rfl hk
theorem RB.w12 (h : RB P F S x T J V L E ρ al ln vi) (k : Nat) (v : Int) (hk : (k : Int) < ρ 4 0) : RB P F (wI S (T k) 12 (iI v)) x T J V L E (up ρ 45 k v) al ln vi := h.wT 12 k v rfl hk
theorem RB.w13 (h : RB P F S x T J V L E ρ al ln vi) (k : Nat) (v : Int) (hk : (k : Int) < ρ 4 0) : RB P F (wI S (T k) 13 (iI v)) x T J V L E (up ρ 46 k v) al ln vi := h.wT 13 k v rfl hk
theorem RB.wj5 (h : RB P F S x T J V L E ρ al ln vi) (k : Nat) (v : Int) (hk : (k : Int) < ρ 12 0) : RB P F (wI S (J k) 5 (iI v)) x T J V L E (up ρ 16 k v) al ln vi := h.wJb 5 k v rfl (by decide) (by decide) hk
theorem RB.wj6 (h : RB P F S x T J V L E ρ al ln vi) (k : Nat) (v : Int) (hk : (k : Int) < ρ 12 0) : RB P F (wI S (J k) 6 (iI v)) x T J V L E (up ρ 18 k v) al ln vi := h.wJb 6 k v rfl (by decide) (by decide) hk
theorem RB.wj7 (h : RB P F S x T J V L E ρ al ln vi) (k : Nat) (v : Int) (hk : (k : Int) < ρ 12 0) : RB P F (wI S (J k) 7 (iI v)) x T J V L E (up ρ 40 k v) al ln vi := h.wJb 7 k v rfl (by decide) (by decide) hk
end
