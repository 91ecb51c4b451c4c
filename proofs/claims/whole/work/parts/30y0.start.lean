-- ===== the start of the law =====
section
variable {S S' S1 S2 : fMS} {n m q k N : Nat} {A : Nat → Nat} {θ : fG2} {x o1 o2 B : Nat}
theorem s0_ok : MI 0 s0S := by
  have z : ∀ {g k : Nat}, g ≠ 2 ∧ g ≠ 3 ∧ g ≠ 4 ∧ g ≠ 5 ∧ g ≠ 6 ∧ g ≠ 7 → s0S g k = 0 := fun h => s0_z (Or.inr h)
  have z4 : s0S 4 0 = 1 := rfl
  have z12 : s0S 12 0 = 0 := rfl
  have z22 : s0S 22 0 = 0 := rfl
  have z6 : ∀ k, 0 ≤ s0S 6 k ∧ s0S 6 k ≤ 9 := fun k => by
    by_cases e : k = 0
    · subst e; exact ⟨by decide, by decide⟩
    · rw [s0_z (Or.inl e)]; omega
  have hinv : inv s0S := by
    have en : njN s0S = 0 := rfl
    refine ⟨⟨by decide, by decide, rfl, fun k k1 hk => by rw [z4] at hk; omega⟩, ⟨by decide, by decide, fun j hj => by rw [z12] at hj; omega⟩, ⟨by decide, by decide, fun k => by rw [z (by decide)]; omega⟩, fun k => by rw [z (by decide)]; omega, fun k => ?_, z6, ⟨by decide, by decide⟩, ⟨fun k => ?_, fun k => ?_, ?_⟩, by decide⟩
    · by_cases e : k = 0
      · subst e; exact ⟨by decide, by decide⟩
      · rw [s0_z (Or.inl e)]; omega
    · rw [z (by decide), en]; rfl
    · rw [z (by decide), en]; rfl
    · rw [z (by decide), en]; rfl
  have hi : iS s0S := ⟨hinv, ⟨fun i j h => by rw [z12] at h; omega, fun i h => by rw [z12] at h; omega⟩, fun j h => by rw [z12] at h; omega⟩
  refine ⟨⟨⟨hi, fun i h => by rw [z22] at h; omega, fun k hk => ?_, fun k => ?_, ⟨⟨by decide, by decide⟩, fun j => by rw [z (by decide)]; omega⟩, fun j h => by rw [z12] at h; omega, ⟨⟨by decide, fun k => ?_⟩, by decide, by decide⟩, fun k _ _ => z (by decide)⟩, ⟨fun j h => by rw [z12] at h; omega, fun i h => by rw [z22] at h; omega, fun k _ _ => z (by decide), fun k _ => ⟨z (by decide), z (by decide)⟩⟩, fun j _ => ⟨z (by decide), z (by decide)⟩⟩, ?_, by decide, by decide⟩
  · rw [z4] at hk
    have e : k = 0 := by omega
    subst e; decide
  · have := z6 k
    rw [z (by decide), z (by decide)]; omega
  · rw [z (by decide)]; decide
  · unfold setl
    cases hx : nxS (lyS s0S) with
    | none => rfl
    | some j =>
      have := (nxS_ok (lyS_iS hi).1 hx).1
      rw [lyS_ne (by decide) (by decide), z12] at this; omega
theorem RM.nw (h : RM S S m A θ) (hq : q ∉ sL S) : RM (wN S q k N) (wN S q k N) m A θ := by
  have hm : m ≠ q := fun z => hq (z ▸ h.m.1)
  have hA : ∀ f, rA f = true → A f ≠ q := fun f hf z => hq (z ▸ (h.k f hf).1)
  refine ⟨isA_new hq h.m, fun f hf => ⟨(if_neg hm).trans (h.R f hf), isA_new hq (h.k f hf), (va_up_ne _ _ (hA f hf)).trans (h.N f hf)⟩, h.2.2.1, fun f hf => (if_neg hm).trans (h.s f hf), fun f j hf h8 hj => (if_neg (hA f hf)).trans (h.a f j hf h8 hj), fun j hj => (if_neg (hA 8 rfl)).trans (h.J j hj), frX.rf⟩
theorem JB.on2 (h : JB x m o1 o2 A θ S n B) : o2 ≠ A 8 := by
  obtain ⟨_, _, _, _, _, _, _, _, a⟩ := h
  intro z
  have h1 := a.2.2.2.2.2.2.2.1.2.1.2
  have h2 := (a.2.2.2.2.2.1.k 8 rfl).2
  rw [z, h2] at h1
  exact absurd h1 (by decide)
theorem jb_start {Q : List Nat} {T J V L E : Nat → Nat} {S3 S4 : fMS} {q14 q18 : Nat} (h : RB (fun _ => False) S S x T J V L E s0S [] [] []) (f : frQ S S3 Q) (hM : RM S3 S3 m A s0S) (h1 : q14 ∉ sL S3) (h2 : q14 ≠ sE S3) (e4 : S4 = wN S3 q14 12 1) (h3 : q18 ∉ sL S4) (h4 : q18 ≠ sE S4) (hn : n ≤ B + pot S E) (hB : B ≤ 20000) : JB x m q14 q18 A s0S (wN S4 q18 15 1) n B := by
  have f4 : frQ S S4 (Q ++ [q14]) := by rw [e4]; exact f.mk h1 h2
  have f5 : frQ S (wN S4 q18 15 1) (Q ++ [q14] ++ [q18]) := f4.mk h3 h4
  have hM4 : RM S4 S4 m A s0S := by rw [e4]; exact hM.nw h1
  have hM5 := hM4.nw (k := 15) (N := 1) h3
  have k14 : isA S4 12 q14 := by rw [e4]; exact (isA_made (N := 1) : isA (wN S3 q14 12 1) 12 q14)
  have k14' : isA (wN S4 q18 15 1) 12 q14 := isA_new h3 k14
  have k18 : isA (wN S4 q18 15 1) 15 q18 := isA_made
  have n14 : sN (wN S4 q18 15 1) q14 = 1 := by
    refine (va_up_ne _ _ (fun z : q14 = q18 => h3 (by rw [← z]; exact k14.1))).trans ?_
    rw [e4]; exact va_up_self _ _ _
  have hr := h.mk f5
  have z22 : s0S 22 0 = 0 := rfl
  refine ⟨T, J, V, L, E, [], [], [], ⟨hr.1, hr.2.1, hr.2.2.1, hr.2.2.2.1, hr.l, ⟨rfl, rfl, fun a ha => ?_⟩⟩, ⟨by rw [f5.pt h.l]; exact hn, hB⟩, rfl, ?_, ?_, hM5, ⟨Or.inr (Or.inr (Or.inl rfl)), k14', n14⟩, ⟨Or.inr (Or.inr (Or.inr rfl)), k18, va_up_self _ _ _⟩, ?_⟩
  · have key : ∀ {kk : Nat}, isA (wN S4 q18 15 1) kk a → okK kk → a ∈ sL (wN S4 q18 15 1) ∧ sK (wN S4 q18 15 1) a = sK (wN S4 q18 15 1) a ∧ sN (wN S4 q18 15 1) a = sN (wN S4 q18 15 1) a ∧ okK (sK (wN S4 q18 15 1) a) ∧ (∀ i, sI (wN S4 q18 15 1) a i = sI (wN S4 q18 15 1) a i ∧ sJ (wN S4 q18 15 1) a i = sJ (wN S4 q18 15 1) a i ∧ sR (wN S4 q18 15 1) a i = sR (wN S4 q18 15 1) a i) ∧ ∀ j : Nat, (j : Int) < s0S 22 0 → V j ≠ a :=
      fun {kk} hk ok => ⟨hk.1, rfl, rfl, by rw [hk.2]; exact ok, fun _ => ⟨rfl, rfl, rfl⟩, fun j hj => by rw [z22] at hj; omega⟩
    rcases ha with e | ⟨g, hg, e⟩ | e | e
    · subst e; exact key hM5.m (Or.inr (Or.inl rfl))
    · subst e
      refine key (hM5.k g hg) ?_
      unfold rK okK; split
      · omega
      · split <;> omega
    · subst e; exact key k14' (by unfold okK; omega)
    · subst e; exact key k18 (by unfold okK; omega)
  · have z0 : okB (fun _ _ => 0) := fun _ _ => ⟨(by decide : (-100000000 : Int) ≤ 0), (by decide : (0 : Int) ≤ 100000000)⟩
    unfold s0S
    exact (((((z0.w (by omega)).w (by omega)).w (by omega)).w (by omega)).w (by omega)).w (by omega)
  · intro j hj; have : s0S 12 0 = 0 := rfl; omega
  · exact fun z => h1 (z ▸ (hM.k 8 rfl).1)
end
