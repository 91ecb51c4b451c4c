-- ===== a new broker =====
section
variable {S S' S1 : fMS} {n o e t q s i0 : Nat} {I : Nat → Prop} {L : Nat → Nat}
/-- nothing of S changed but a link of o -/
def frO (o s : Nat) (S S' : fMS) : Prop := ∀ a ∈ sL S, a ∈ sL S' ∧ sK S' a = sK S a ∧ ∀ i, sI S' a i = sI S a i ∧ sJ S' a i = sJ S a i ∧ ((a = o ∧ i = s) ∨ sR S' a i = sR S a i)
/-- the lists so far, all without places -/
def IN (I : Nat → Prop) (e o : Nat) (L : Nat → Nat) (S : fMS) : Prop := sE S = e ∧ isA S 4 o ∧ RLs I S L (fun _ => e) (fun _ => [])
theorem RLs.wRo {E : Nat → Nat} {ls : Nat → List Nat} {r : Option Nat} (h : RLs I S L E ls) (ho : isA S 4 o) : RLs I (wR S o s r) L E ls := by
  refine ⟨h.1, h.2.1, fun i hi => ?_, h.2.2.2.1, h.2.2.2.2.1, h.2.2.2.2.2⟩
  have n1 : L i ≠ o := isA_ne (h.k hi) ho (by decide)
  have n2 : E i ≠ o := by
    rcases h.k14 hi with z | z
    · exact isA_ne z ho (by decide)
    · rw [z]; exact fun y => h.1.1 (y ▸ ho.1)
  refine ⟨h.k hi, (sR_ne n1).trans (h.e hi), h.n hi, h.k14p hi, h.le hi, h.cm hi, h.mx hi, fun k hk => (sR_ne n2).trans (h.el hi hk)⟩
theorem RLs.one {E : Nat → Nat} (h : RLs I S L E (fun _ => [])) (hi : ¬ I i0) (hq : isA S 6 q) (hL : ∀ i, I i → L i ≠ q) (s1 : sR S q 1 = some (sE S)) (s2 : sI S q 2 = iI 0) : RLs (fun i => i = i0 ∨ I i) S (nV L i0 q) E (fun _ => []) := by
  have nh : ∀ {i}, I i → i ≠ i0 := fun hh z => hi (by rw [← z]; exact hh)
  have ev : ∀ {i}, I i → nV L i0 q i = L i := fun hh => if_neg (nh hh)
  have eN : nV L i0 q i0 = q := if_pos rfl
  have eE : E i0 = sE S := h.2.1 _ hi
  refine ⟨h.1, fun i hh => h.2.1 i (fun z => hh (Or.inr z)), fun i hh => ?_, fun i hh a ha => absurd ha List.not_mem_nil, fun i j hh hj e => ?_, fun i j hh hj e => ?_⟩
  · rcases hh with z | z
    · subst z
      rw [eN, eE]
      exact ⟨hq, s1, s2, Or.inr rfl, Nat.zero_le _, by rw [h.1.2]; exact Nat.zero_le _, Nat.zero_le _, fun k hk => absurd hk (Nat.not_lt_zero k)⟩
    · rw [ev z]; exact h.2.2.1 i z
  · rcases hh with z | z
    · rcases hj with y | y
      · rw [z, y]
      · subst z; rw [ev y, eN] at e; exact absurd e.symm (hL j y)
    · rcases hj with y | y
      · subst y; rw [ev z, eN] at e; exact absurd e (hL i z)
      · rw [ev z, ev y] at e; exact h.2.2.2.2.1 i j z y e
  · rcases hh with z | z
    · subst z; right; exact eE
    · rcases hj with y | y
      · subst y; right; rw [e, eE]
      · exact h.2.2.2.2.2 i j z y e
theorem frO_Q {Q : List Nat} (f : frQ S S' Q) {r : Option Nat} : frO o s S (wR S' o s r) := by
  intro a ha
  have nq : a ∉ Q := fun hq => (f.2.2.2.1 a hq).1 ha
  obtain ⟨b1, b2, b3⟩ := f.2.2.2.2 a nq
  refine ⟨(f.fl.1 a ha).1, b1, fun i => ⟨(b3 i).1, (b3 i).2.1, ?_⟩⟩
  by_cases c : a = o ∧ i = s
  · exact Or.inl c
  · exact Or.inr ((if_neg c).trans (b3 i).2.2)
theorem ini_list (h : IN I e o L S) (hi : ¬ I i0) (hn : n + 4 ≤ 30000) {post : fMS → Nat → Prop}
    (hp : ∀ q S10, q ∉ sL S → IN (fun i => i = i0 ∨ I i) e o (nV L i0 q) S10 → sR S10 o s = some q → frO o s S S10 → post S10 (n + 4)) :
    n + (3 + 1) ≤ 30000 ∧ ∀ q2 : Nat, q2 ∉ sL S → q2 ≠ sE S → ∀ S5 : fMS, S5 = wN S q2 6 0 → wp_Jx4a65c_init_da8c8 S5 (n + (3 + 1)) q2 (fun S7 n8 => isA S7 4 o ∧ ∀ S10 : fMS, S10 = wR S7 o s (some q2) → post S10 n8) := by
  refine ⟨hn, fun q hq hqE S5 e5 => ?_⟩
  unfold wp_Jx4a65c_init_da8c8 wp_Jxc12de_init_da8c8 wp_Jxa1e45_init_da8c8
  obtain ⟨h1, h2, h3⟩ := h
  have f5 : frQ S S5 [q] := by rw [e5]; exact (frQ.rf (S := S)).mk hq hqE
  have k5 : isA S5 6 q := by rw [e5]; exact isA_made
  have z5 : sI S5 q 2 = iI 0 := by rw [e5]; exact sI_wN
  obtain ⟨S7, e7⟩ : ∃ S7, S7 = wR (wI S5 q 0 (0 : Int32)) q 1 (some (sE (wI S5 q 0 (0 : Int32)))) := ⟨_, rfl⟩
  have hQ : q ∈ [q] := List.mem_cons_self
  have f7 : frQ S S7 [q] := by rw [e7]; exact (f5.wI hQ).wR hQ
  have k7 : isA S7 6 q := by rw [e7]; exact k5
  have r7 : sR S7 q 1 = some (sE S7) := by rw [e7]; exact sR_eq
  have z7 : sI S7 q 2 = iI 0 := by rw [e7]; exact (sI_sl (by decide)).trans z5
  refine ⟨k5, k5, ?_⟩
  rw [← e7]
  have ko : isA S7 4 o := f7.fl.a h2
  refine ⟨ko, ?_⟩
  rintro _ rfl
  have hl := (f7.rl h3).one hi k7 (fun i hh z => hq (z ▸ (h3.k hh).1)) r7 z7
  exact hp q (wR S7 o s (some q)) hq ⟨(show sE S7 = e from f7.2.1.trans h1), ko, hl.wRo ko⟩ sR_eq (frO_Q f7)
/-- a root just made -/
def TF (S : fMS) (t c : Nat) : Prop := isA S 3 t ∧ sI S t 0 = iI 0 ∧ sR S t 1 = none ∧ sR S t 2 = some c ∧ sI S t 3 = iI 1 ∧ sI S t 4 = iI 500 ∧ (∀ s, s = 5 ∨ s = 6 ∨ (8 ≤ s ∧ s ≤ 13) → sI S t s = iI 0) ∧ sJ S t 7 = jJ 0
theorem TF.k {c : Nat} (h : TF S t c) (f : frO o s S S') (hne : t ≠ o) : TF S' t c := by
  obtain ⟨a1, a2, a3, a4, a5, a6, a7, a8⟩ := h
  obtain ⟨b1, b2, b3⟩ := f t a1.1
  have nR : ∀ i, sR S' t i = sR S t i := fun i => (b3 i).2.2.resolve_left (fun z => hne z.1)
  exact ⟨⟨b1, b2.trans a1.2⟩, (b3 0).1.trans a2, (nR 1).trans a3, (nR 2).trans a4, (b3 3).1.trans a5, (b3 4).1.trans a6, fun s hs => (b3 s).1.trans (a7 s hs), (b3 7).2.1.trans a8⟩
theorem frO.ok {s' : Nat} (f : frO o s S S') (ho : isA S 4 o) (hs : s' ≠ s) {r : Option Nat} (h : sR S o s' = r) : sR S' o s' = r :=
  (((f o ho.1).2.2 s').2.2.resolve_left (fun z => hs z.2)).trans h
theorem ini_team (h : IN I e o L S) (hi : ¬ I 10) (hn : n + 19 ≤ 30000) {post : fMS → Nat → Prop}
    (hp : ∀ t c S22, t ∉ sL S → t ≠ o → IN (fun i => i = 10 ∨ I i) e o (nV L 10 c) S22 → sR S22 o 1 = some t → TF S22 t c → frO o 1 S S22 → post S22 (n + 19)) :
    n + (14 + 1) ≤ 30000 ∧ ∀ q13 : Nat, q13 ∉ sL S → q13 ≠ sE S → ∀ S16 : fMS, S16 = wN S q13 3 0 → wp_X2_init S16 (n + (14 + 1)) q13 (0 : Int32) none (1 : Int32) (fun S19 n20 => isA S19 4 o ∧ ∀ S22 : fMS, S22 = wR S19 o 1 (some q13) → post S22 n20) := by
  refine ⟨by omega, fun q hq hqE S1 e1 => ?_⟩
  obtain ⟨h1, h2, h3⟩ := h
  have hqo : q ≠ o := fun z => hq (z ▸ h2.1)
  unfold wp_X2_init
  refine ⟨by omega, fun q2 hq2 hq2E => ?_⟩
  intro S5 e5
  unfold wp_Jx4a65c_init_da8c8 wp_Jxc12de_init_da8c8 wp_Jxa1e45_init_da8c8
  obtain ⟨S7, e7⟩ : ∃ S7, S7 = wR (wI S5 q2 0 (0 : Int32)) q2 1 (some (sE (wI S5 q2 0 (0 : Int32)))) := ⟨_, rfl⟩
  have m7 := mkT.st hq hqE e1 hq2 hq2E e5 e7
  have kq2 : isA S5 6 q2 := by rw [e5]; exact isA_made
  refine ⟨kq2, kq2, ?_⟩
  rw [← e7]
  refine ⟨m7.2.2.1, ?_⟩
  intro S10 e10 S12 e12 S14 e14 S16 e16 S18 e18 S20 e20 S22 e22 S24 e24 S26 e26 S28 e28 S30 e30 S32 e32 S34 e34 S36 e36
  have m36 := (((((((((((((m7.aR e10).aI e12).aI e14).aI e16).aJ e18).aI e20).aI e22).aI e24).aI e26).aI e28).aI e30).aI e32).aR e34).aI e36
  have fq := m36.1
  have s3 : sI S36 q 3 = iI 1 := by rw [e36, sI_eq]; rfl
  have s1 : sR S36 q 1 = none := by rw [e36, sR_wI, e34, sR_eq]
  have d0 : ∀ {s}, s ≠ 3 → sI S36 q s = sI S32 q s := fun hs => by rw [e36, sI_sl hs, e34, sI_wR]
  have s0 : sI S36 q 0 = iI 0 := by rw [d0 (by decide), e32, sI_eq]; rfl
  have d1 : ∀ {s}, s ≠ 3 → s ≠ 0 → sI S36 q s = sI S30 q s := fun hs h0 => by rw [d0 hs, e32, sI_sl h0]
  have s13 : sI S36 q 13 = iI 0 := by rw [d1 (by decide) (by decide), e30, sI_eq]; rfl
  have s12 : sI S36 q 12 = iI 0 := by rw [d1 (by decide) (by decide), e30, sI_sl (by decide), e28, sI_eq]; rfl
  have s11 : sI S36 q 11 = iI 0 := by rw [d1 (by decide) (by decide), e30, sI_sl (by decide), e28, sI_sl (by decide), e26, sI_eq]; rfl
  have d2 : ∀ {s}, s ≠ 3 → s ≠ 0 → s ≠ 13 → s ≠ 12 → s ≠ 11 → sI S36 q s = sI S24 q s := fun h3 h0 a b c => by rw [d1 h3 h0, e30, sI_sl a, e28, sI_sl b, e26, sI_sl c]
  have s10 : sI S36 q 10 = iI 0 := by rw [d2 (by decide) (by decide) (by decide) (by decide) (by decide), e24, sI_eq]; rfl
  have s9 : sI S36 q 9 = iI 0 := by rw [d2 (by decide) (by decide) (by decide) (by decide) (by decide), e24, sI_sl (by decide), e22, sI_eq]; rfl
  have s8 : sI S36 q 8 = iI 0 := by rw [d2 (by decide) (by decide) (by decide) (by decide) (by decide), e24, sI_sl (by decide), e22, sI_sl (by decide), e20, sI_eq]; rfl
  have d3 : ∀ {s}, s ≠ 3 → s ≠ 0 → s ≠ 13 → s ≠ 12 → s ≠ 11 → s ≠ 10 → s ≠ 9 → s ≠ 8 → sI S36 q s = sI S16 q s := fun h3 h0 a b c d e f => by rw [d2 h3 h0 a b c, e24, sI_sl d, e22, sI_sl e, e20, sI_sl f, e18, sI_wJ]
  have s6 : sI S36 q 6 = iI 0 := by rw [d3 (by decide) (by decide) (by decide) (by decide) (by decide) (by decide) (by decide) (by decide), e16, sI_eq]; rfl
  have s5 : sI S36 q 5 = iI 0 := by rw [d3 (by decide) (by decide) (by decide) (by decide) (by decide) (by decide) (by decide) (by decide), e16, sI_sl (by decide), e14, sI_eq]; rfl
  have s4 : sI S36 q 4 = iI 500 := by rw [d3 (by decide) (by decide) (by decide) (by decide) (by decide) (by decide) (by decide) (by decide), e16, sI_sl (by decide), e14, sI_sl (by decide), e12, sI_eq]; rfl
  have s2 : sR S36 q 2 = some q2 := by rw [e36, sR_wI, e34, sR_sl (by decide), e32, sR_wI, e30, sR_wI, e28, sR_wI, e26, sR_wI, e24, sR_wI, e22, sR_wI, e20, sR_wI, e18, sR_wJ, e16, sR_wI, e14, sR_wI, e12, sR_wI, e10, sR_eq]
  have s7 : sJ S36 q 7 = jJ 0 := by rw [e36, sJ_wI, e34, sJ_wR, e32, sJ_wI, e30, sJ_wI, e28, sJ_wI, e26, sJ_wI, e24, sJ_wI, e22, sJ_wI, e20, sJ_wI, e18, sJ_eq]; rfl
  clear e10 e12 e14 e16 e18 e20 e22 e24 e26 e28 e30 e32 e34 e36 d0 d1 d2 d3
  have ko : isA S36 4 o := fq.fl.a h2
  refine ⟨ko, ?_⟩
  rintro _ rfl
  have hl := (fq.rl h3).one hi m36.2.2.2.1 (fun i hh z => (fq.2.2.2.1 q2 (List.mem_cons_of_mem _ List.mem_cons_self)).1 (z ▸ (h3.k hh).1)) m36.2.2.2.2.1 m36.2.2.2.2.2
  refine hp q q2 (wR S36 o 1 (some q)) hq hqo ⟨(show sE S36 = e from fq.2.1.trans h1), ko, hl.wRo ko⟩ sR_eq ⟨m36.2.2.1, s0, (sR_ne hqo).trans s1, (sR_ne hqo).trans s2, s3, s4, fun s hs => ?_, s7⟩ (frO_Q fq)
  show sI S36 q s = iI 0
  have : s = 5 ∨ s = 6 ∨ s = 8 ∨ s = 9 ∨ s = 10 ∨ s = 11 ∨ s = 12 ∨ s = 13 := by omega
  rcases this with e | e | e | e | e | e | e | e <;> subst e <;> assumption
end
