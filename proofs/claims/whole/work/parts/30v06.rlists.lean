section
variable {P : Nat → Prop} {F S S' : fMS} {x : Nat} {T J V L E E' : Nat → Nat} {ρ : fG2} {al ln vi al' ln' vi' : List Nat}
theorem RB.fr (h : RB P F S x T J V L E ρ al ln vi) (f : frL S S') (hl : RLs (vid (ρ 4 0)) S' L E' (cnt T J V ρ al' ln' vi')) : RB P F S' x T J V L E' ρ al' ln' vi' := by
  have c : ∀ {k a}, isA S k a → k ≠ 6 → k ≠ 14 → ∀ i, sI S' a i = sI S a i ∧ sJ S' a i = sJ S a i ∧ sR S' a i = sR S a i := fun {k a} ha h6 h14 i => f.2.2.2 a ha.1 (by rw [ha.2]; exact h6) (by rw [ha.2]; exact h14) i
  refine ⟨?_, ⟨?_, h.2.1.2⟩, ⟨?_, h.2.2.1.2⟩, ⟨?_, h.2.2.2.1.2⟩, hl, ?_⟩
  · obtain ⟨e1, e2, e3, e4, e5, e6, e7⟩ := h.1
    have cx := c e1 (by decide) (by decide)
    unfold RX
    rw [(cx 1).2.2, (cx 0).2.2, (cx 2).2.2, (cx 3).2.2, (cx 4).2.2, (cx 5).2.2, (cx 6).2.2, (cx 7).1, (cx 8).1, (cx 9).1, (cx 10).1]
    exact ⟨f.a e1, e2, e3, e4, e5, e6, e7⟩
  · intro k hk
    obtain ⟨e1, e2, e3, e4, e5, e6⟩ := h.2.1.1 k hk
    have cx := c e1 (by decide) (by decide)
    rw [(cx 0).1, (cx 1).2.2, (cx 2).2.2, (cx 7).2.1]
    exact ⟨f.a e1, e2, e3, e4, fun s hs => by rw [(cx s).1]; exact e5 s hs, e6⟩
  · intro k hk
    obtain ⟨e1, e2, e3, e4, e5⟩ := h.2.2.1.1 k hk
    have cx := c e1 (by decide) (by decide)
    rw [(cx 0).1, (cx 1).2.2, (cx 4).1]
    exact ⟨f.a e1, e2, e3, e4, fun s hs => by rw [(cx s).1]; exact e5 s hs⟩
  · intro k hk
    obtain ⟨e1, e2, e3, e4, e5⟩ := h.2.2.2.1.1 k hk
    have cx := c e1 (by decide) (by decide)
    rw [(cx 0).2.2, (cx 1).1, (cx 2).1, (cx 3).1]
    exact ⟨f.a e1, e2, e3, e4, e5⟩
  · refine ⟨f.2.1.trans h.f.1, f.2.2.1.trans h.f.2.1, fun a ha => ?_⟩
    obtain ⟨e1, e2, e3, e4, e5, e6⟩ := h.f.2.2 a ha
    have f1 := f.1 a e1
    have f2 := f.2.2.2 a e1 (by unfold okK at e4; omega) (by unfold okK at e4; omega)
    exact ⟨f1.1, f1.2.1.trans e2, f1.2.2.trans e3, by rw [f1.2.1]; exact e4, fun i => ⟨(f2 i).1.trans (e5 i).1, (f2 i).2.1.trans (e5 i).2.1, (f2 i).2.2.trans (e5 i).2.2⟩, e6⟩
theorem cnt5 : lsU (cnt T J V ρ al ln vi) 5 (ln'.map J) = cnt T J V ρ al ln' vi := by
  funext i; unfold lsU cnt
  by_cases c : i = 5
  · subst c; rfl
  · rw [if_neg c]
    by_cases c0 : i = 0
    · rw [if_pos c0, if_pos c0]
    · rw [if_neg c0, if_neg c0]
      by_cases c2 : i = 2
      · rw [if_pos c2, if_pos c2]
      · rw [if_neg c2, if_neg c2]
        by_cases c3 : i = 3
        · rw [if_pos c3, if_pos c3]
        · rw [if_neg c3, if_neg c3]
          by_cases c4 : i = 4
          · rw [if_pos c4, if_pos c4]
          · rw [if_neg c4, if_neg c4, if_neg c, if_neg c]
theorem cnt6 : lsU (cnt T J V ρ al ln vi) 6 (vi'.map J) = cnt T J V ρ al ln vi' := by
  funext i; unfold lsU cnt
  by_cases c : i = 6
  · subst c; rfl
  · rw [if_neg c]
    by_cases c0 : i = 0
    · rw [if_pos c0, if_pos c0]
    · rw [if_neg c0, if_neg c0]
      by_cases c2 : i = 2
      · rw [if_pos c2, if_pos c2]
      · rw [if_neg c2, if_neg c2]
        by_cases c3 : i = 3
        · rw [if_pos c3, if_pos c3]
        · rw [if_neg c3, if_neg c3]
          by_cases c4 : i = 4
          · rw [if_pos c4, if_pos c4]
          · rw [if_neg c4, if_neg c4]
            by_cases c5 : i = 5
            · rw [if_pos c5, if_pos c5]
            · rw [if_neg c5, if_neg c5, if_neg c, if_neg c]
theorem cnt3 : lsU (cnt T J V ρ al ln vi) 3 (al'.map J) = cnt T J V ρ al' ln vi := by
  funext i; unfold lsU cnt
  by_cases c : i = 3
  · subst c; rfl
  · rw [if_neg c]
    by_cases c0 : i = 0
    · rw [if_pos c0, if_pos c0]
    · rw [if_neg c0, if_neg c0]
      by_cases c2 : i = 2
      · rw [if_pos c2, if_pos c2]
      · rw [if_neg c2, if_neg c2, if_neg c, if_neg c]
theorem RLs.potb {nt : Int} {ls : Nat → List Nat} (h : RLs (vid nt) S L E ls) : pot S E ≤ 8520 := by
  have key : ∀ d, potF S E d ≤ 4 * (70 * d + (if 2 < d then 730 else 0)) := by
    intro d; induction d with
    | zero => simp [potF]
    | succ d ih =>
      simp only [potF]
      have hb : sN S (E d) ≤ lcp d := by
        by_cases c : vid nt d
        · exact h.cm c
        · rw [h.2.1 d c, h.1.2]; exact Nat.zero_le _
      unfold lcp at hb
      by_cases e : d = 2
      · subst e; simp only [if_true] at hb; simp at ih ⊢; omega
      · rw [if_neg e] at hb
        by_cases e2 : 2 < d
        · rw [if_pos e2] at ih; rw [if_pos (by omega)]; omega
        · rw [if_neg e2] at ih; rw [if_neg (by omega)]; omega
  have := key 20
  unfold pot; simp at this; omega
/-- the room: what is used, but for the rows, is at most B -/
def rmB (S : fMS) (E : Nat → Nat) (n B : Nat) : Prop := n ≤ B + pot S E ∧ B ≤ 20000
theorem rmB.n {n B : Nat} {nt : Int} {ls : Nat → List Nat} (h : rmB S E n B) (hl : RLs (vid nt) S L E ls) : n + 900 ≤ 30000 := by
  have := hl.potb; have := h.1; have := h.2; omega
theorem rmB.to {n n' B : Nat} (h : rmB S E n B) (hp : n' + pot S E ≤ n + pot S' E') : rmB S' E' n' B := ⟨by have := h.1; omega, h.2⟩
theorem rmB.pe {n B : Nat} (h : rmB S E n B) (hp : pot S' E = pot S E) : rmB S' E n B := ⟨by rw [hp]; exact h.1, h.2⟩
theorem RB.clr5 {n B : Nat} (h : RB P F S x T J V L E ρ al ln vi) (hn : rmB S E n B) {post : fMS → Nat → Prop} (hp : ∀ S', RB P F S' x T J V L E ρ al [] vi → rmB S' E n B → post S' n) : wp_Jx4a65c_clear_da8c8 S n (L 5) post :=
  h.l.clear vid5 (fun S' h' f p => hp S' (h.fr f (by rw [← cnt5 (ln := ln)]; exact h')) (hn.pe p))
theorem RB.clr6 {n B : Nat} (h : RB P F S x T J V L E ρ al ln vi) (hn : rmB S E n B) {post : fMS → Nat → Prop} (hp : ∀ S', RB P F S' x T J V L E ρ al ln [] → rmB S' E n B → post S' n) : wp_Jx4a65c_clear_da8c8 S n (L 6) post :=
  h.l.clear vid6 (fun S' h' f p => hp S' (h.fr f (by rw [← cnt6 (vi := vi)]; exact h')) (hn.pe p))
theorem map_insAt {f : Nat → Nat} {l : List Nat} {p a : Nat} : (insAt l p a).map f = insAt (l.map f) p (f a) := by
  unfold insAt; simp [List.map_take, List.map_drop]
theorem lsC {i : Nat} {l : List Nat} (e : cnt T J V ρ al ln vi i = l) : (cnt T J V ρ al ln vi i).length = l.length := by rw [e]
theorem RB.ins5 {n B j p : Nat} (h : RB P F S x T J V L E ρ al ln vi) (hn : rmB S E n B) (hj : (j : Int) < ρ 12 0) (hp : p ≤ ln.length) (hl : ln.length + 1 ≤ 40) {post : fMS → Nat → Prop}
    (hq : ∀ S' n' E', RB P F S' x T J V L E' ρ al (insAt ln p j) vi → rmB S' E' n' B → post S' n') : wp_Jx4a65c_add_7a177 S n (L 5) (iI p) (some (J j)) post := by
  have e : cnt T J V ρ al ln vi 5 = ln.map J := rfl
  refine h.l.ins vid5 (by decide) (Or.inl (h.2.2.1.1 j hj).1) (by rw [e]; simp; exact hl) (by rw [e]; simpa using hp) (hn.n h.l) (fun S' n' E' h' f hp' => hq S' n' E' (h.fr f ?_) (hn.to hp'))
  rw [← cnt5 (ln := ln), map_insAt]; rw [e] at h'; exact h'
theorem RB.add6 {n B j : Nat} (h : RB P F S x T J V L E ρ al ln vi) (hn : rmB S E n B) (hj : (j : Int) < ρ 12 0) (hl : vi.length + 1 ≤ 40) {post : Int32 → fMS → Nat → Prop}
    (hq : ∀ S' n' E', RB P F S' x T J V L E' ρ al ln (vi ++ [j]) → rmB S' E' n' B → post (iI 1) S' n') : wp_Jx4a65c_add_9ea2d S n (L 6) (some (J j)) post := by
  have e : cnt T J V ρ al ln vi 6 = vi.map J := rfl
  refine h.l.add vid6 (by decide) (Or.inl (h.2.2.1.1 j hj).1) (by rw [e]; simp; exact hl) (hn.n h.l) (fun S' n' E' h' f hp' => hq S' n' E' (h.fr f ?_) (hn.to hp'))
  rw [← cnt6 (vi := vi), List.map_append]; rw [e] at h'; exact h'
theorem map_del {f : Nat → Nat} {l : List Nat} {p : Nat} : (l.eraseIdx p).map f = (l.map f).eraseIdx p := by
  induction l generalizing p with
  | nil => rfl
  | cons a l ih =>
    cases p with
    | zero => rfl
    | succ p => simp only [List.eraseIdx_cons_succ, List.map_cons, ih]
theorem RB.del3 {n B p : Nat} (h : RB P F S x T J V L E ρ al ln vi) (hn : rmB S E n B) (hp : p < al.length) {post : Option Nat → fMS → Nat → Prop}
    (hq : ∀ S', RB P F S' x T J V L E ρ (al.eraseIdx p) ln vi → rmB S' E n B → post (some (J (al.getD p 0))) S' n) : wp_Jx4a65c_remove_915e3 S n (L 3) (iI p) post := by
  have e : cnt T J V ρ al ln vi 3 = al.map J := rfl
  refine h.l.del vid3 (by rw [e]; simpa using hp) (fun S' h' f hp' => ?_)
  have e2 : (cnt T J V ρ al ln vi 3).getD p 0 = J (al.getD p 0) := by rw [e]; simp [List.getD_eq_getElem?_getD, hp]
  rw [e2]
  refine hq S' (h.fr f ?_) (hn.pe hp')
  rw [← cnt3 (al := al), map_del]; rw [e] at h'; exact h'
/-- 27 and 28 are free, and all that the broker doesn't hold -/
theorem RB.cg {τ : fG2} (h : RB P F S x T J V L E ρ al ln vi) (he : ∀ g k, g ≠ 0 → g ≠ 11 → g ≠ 19 → g ≠ 21 → g ≠ 27 → g ≠ 28 → g ≠ 29 → g ≠ 30 → g ≠ 31 → g ≠ 32 → τ g k = ρ g k) : RB P F S x T J V L E τ al ln vi := by
  have e : ∀ g k, (g ≤ 10 ∧ 1 ≤ g) ∨ (12 ≤ g ∧ g ≤ 18) ∨ g = 20 ∨ (22 ≤ g ∧ g ≤ 26) ∨ (40 ≤ g) → τ g k = ρ g k := fun g k hg => he g k (by omega) (by omega) (by omega) (by omega) (by omega) (by omega) (by omega) (by omega) (by omega) (by omega)
  have e1 := fun k => e 1 k (by omega); have e2 := fun k => e 2 k (by omega); have e3 := fun k => e 3 k (by omega); have e4 := fun k => e 4 k (by omega); have e5 := fun k => e 5 k (by omega)
  have e8 := fun k => e 8 k (by omega); have e12 := fun k => e 12 k (by omega); have e13 := fun k => e 13 k (by omega); have e17 := fun k => e 17 k (by omega); have e20 := fun k => e 20 k (by omega)
  have e22 := fun k => e 22 k (by omega); have e23 := fun k => e 23 k (by omega); have e24 := fun k => e 24 k (by omega); have e25 := fun k => e 25 k (by omega); have e26 := fun k => e 26 k (by omega)
  have eT : ∀ s, tS s = true → ∀ k, τ (tF s) k = ρ (tF s) k := by
    intro s hs k
    refine e _ _ ?_
    have : ∀ s : Fin 14, tS s = true → (tF s ≤ 10 ∧ 1 ≤ tF s) ∨ (12 ≤ tF s ∧ tF s ≤ 18) ∨ tF s = 20 ∨ (22 ≤ tF s ∧ tF s ≤ 26) ∨ 40 ≤ tF s := by decide
    exact this ⟨s, tS_lt hs⟩ hs
  have eJ : ∀ s, jS s = true → ∀ k, τ (jF s) k = ρ (jF s) k := by
    intro s hs k
    refine e _ _ ?_
    have : ∀ s : Fin 8, jS s = true → (jF s ≤ 10 ∧ 1 ≤ jF s) ∨ (12 ≤ jF s ∧ jF s ≤ 18) ∨ jF s = 20 ∨ (22 ≤ jF s ∧ jF s ≤ 26) ∨ 40 ≤ jF s := by decide
    exact this ⟨s, jS_lt hs⟩ hs
  refine ⟨?_, ⟨fun k hk => ?_, ?_⟩, ⟨fun k hk => ?_, ?_⟩, ⟨fun k hk => ?_, ?_⟩, ?_, ?_⟩
  · unfold RX; rw [e2, e3, e1, e20]; exact h.1
  · rw [e4] at hk
    obtain ⟨a1, a2, a3, a4, a5, a6⟩ := h.2.1.1 k hk
    rw [e5, e8]
    exact ⟨a1, a2, a3, a4, fun s hs => by rw [eT s hs]; exact a5 s hs, a6⟩
  · rw [e4]; exact h.2.1.2
  · rw [e12] at hk
    obtain ⟨a1, a2, a3, a4, a5⟩ := h.2.2.1.1 k hk
    rw [e13, e17]
    exact ⟨a1, a2, a3, a4, fun s hs => by rw [eJ s hs]; exact a5 s hs⟩
  · rw [e12]; exact h.2.2.1.2
  · rw [e22] at hk; rw [e23, e24, e25, e26]; exact h.2.2.2.1.1 k hk
  · rw [e22]; exact h.2.2.2.1.2
  · have : cnt T J V τ al ln vi = cnt T J V ρ al ln vi := by unfold cnt kdl; simp only [e4, e5, e12, e22]
    rw [this, e4]; exact h.l
  · unfold RF; rw [e22]; exact h.f
end
