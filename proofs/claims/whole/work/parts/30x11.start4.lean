-- ===== a new reference =====
section
variable {S0 S S' S1 S2 : fMS} {n m q f0 : Nat} {l Q : List Nat} {A : Nat → Nat} {θ : fG2}
/-- the reference with the rows of l made -/
def RI (l : List Nat) (S0 S : fMS) (m : Nat) (A : Nat → Nat) (Q : List Nat) : Prop :=
  frQ S0 S Q ∧ m ∈ Q ∧ isA S 5 m ∧ (∀ f ∈ l, sR S m f = some (A f) ∧ isA S (rK f) (A f) ∧ sN S (A f) = rN f ∧ A f ∈ Q ∧ ∀ j, sI S (A f) j = 0 ∧ sJ S (A f) j = 0) ∧ (∀ f ∈ l, ∀ g ∈ l, A f = A g → f = g) ∧
  (sI S m 2 = iI 20 ∧ sI S m 3 = iI 10 ∧ sI S m 4 = iI 1) ∧ ∀ s, s ≠ 2 → s ≠ 3 → s ≠ 4 → sI S m s = 0
theorem RI.st (h : RI l S0 S m A Q) (hf : f0 ∉ l) {k N : Nat} (hk : k = rK f0) (hN : N = rN f0) (hq : q ∉ sL S) (hqE : q ≠ sE S) (e1 : S1 = wN S q k N) (e2 : S2 = wR S1 m f0 (some q)) : RI (f0 :: l) S0 S2 m (nV A f0 q) (Q ++ [q]) := by
  obtain ⟨a1, a2, a3, a4, a5, a6, a7⟩ := h
  have hm : m ∈ sL S := a3.1
  have hmq : m ≠ q := fun z => hq (z ▸ hm)
  have f1 : frQ S0 S1 (Q ++ [q]) := by rw [e1]; exact a1.mk hq hqE
  have f2 : frQ S0 S2 (Q ++ [q]) := by rw [e2]; exact f1.wR (List.mem_append_left _ a2)
  have old : ∀ {f : Nat}, f ∈ l → nV A f0 q f = A f := fun {f} hh => if_neg (fun z : f = f0 => hf (by rw [← z]; exact hh))
  have new : nV A f0 q f0 = q := if_pos rfl
  have nq : ∀ f ∈ l, A f ≠ q := fun f hh z => hq (z ▸ (a4 f hh).2.1.1)
  have up : ∀ {kk a : Nat}, isA S kk a → isA S2 kk a := fun {kk a} ha => by rw [e2, e1]; exact (isA_new (N := N) (k := k) hq ha : isA (wN S q k N) kk a)
  have i2 : ∀ a i, a ≠ q → sI S2 a i = sI S a i := fun a i ha => by rw [e2, sI_wR, e1, sI_wNn ha]
  have j2 : ∀ a i, a ≠ q → sJ S2 a i = sJ S a i := fun a i ha => by rw [e2, e1]; exact if_neg ha
  have n2 : ∀ a, a ≠ q → sN S2 a = sN S a := fun a ha => by rw [e2, e1]; exact va_up_ne _ _ ha
  refine ⟨f2, List.mem_append_left _ a2, up a3, fun f hf' => ?_, fun f hf' g hg' e => ?_, ⟨?_, ?_, ?_⟩, fun s h2 h3 h4 => ?_⟩
  · rcases List.mem_cons.mp hf' with z | z
    · subst z
      rw [new]
      refine ⟨by rw [e2]; exact sR_eq, ?_, ?_, List.mem_append_right _ List.mem_cons_self, fun j => ⟨?_, ?_⟩⟩
      · rw [e2, e1, ← hk]; exact (isA_made (N := N) : isA (wN S q k N) k q)
      · rw [e2, e1, ← hN]; exact va_up_self _ _ _
      · rw [e2, e1]; exact if_pos rfl
      · rw [e2, e1]; exact if_pos rfl
    · obtain ⟨b1, b2, b3, b4, b5⟩ := a4 f z
      rw [old z]
      refine ⟨?_, up b2, (n2 _ (nq f z)).trans b3, List.mem_append_left _ b4, fun j => ⟨(i2 _ j (nq f z)).trans (b5 j).1, (j2 _ j (nq f z)).trans (b5 j).2⟩⟩
      rw [e2, sR_sl (fun y => hf (by rw [← y]; exact z)), e1]
      exact (if_neg hmq).trans b1
  · rcases List.mem_cons.mp hf' with z | z
    · rcases List.mem_cons.mp hg' with y | y
      · rw [z, y]
      · rw [z, new, old y] at e; exact absurd e.symm (nq g y)
    · rcases List.mem_cons.mp hg' with y | y
      · rw [y, new, old z] at e; exact absurd e (nq f z)
      · rw [old z, old y] at e; exact a5 f z g y e
  · exact (i2 m 2 hmq).trans a6.1
  · exact (i2 m 3 hmq).trans a6.2.1
  · exact (i2 m 4 hmq).trans a6.2.2
  · exact (i2 m s hmq).trans (a7 s h2 h3 h4)
def s1S : fG2 := up (up (up (fun _ _ => 0) 2 0 20) 3 0 10) 4 0 1
theorem RI.rm (h : RI l S0 S m A Q) (hl : ∀ f, rA f = true → f ∈ l) : RM S S m A s1S := by
  obtain ⟨a1, a2, a3, a4, a5, a6, a7⟩ := h
  refine ⟨a3, fun f hf => ⟨(a4 f (hl f hf)).1, (a4 f (hl f hf)).2.1, (a4 f (hl f hf)).2.2.1⟩, fun f g hf hg e => a5 f (hl f hf) g (hl g hg) e, fun f hf => ?_, fun f j hf h8 hj => ?_, fun j hj => ?_, frX.rf⟩
  · by_cases c2 : f = 2
    · subst c2; exact a6.1
    · by_cases c3 : f = 3
      · subst c3; exact a6.2.1
      · by_cases c4 : f = 4
        · subst c4; exact a6.2.2
        · rw [a7 f c2 c3 c4]
          have : s1S f 0 = 0 := by unfold s1S; rw [up_ne c4, up_ne c3, up_ne c2]
          rw [this]; rfl
  · rw [((a4 f (hl f hf)).2.2.2.2 j).1]
    have : s1S f j = 0 := by
      unfold rA at hf; simp only [Bool.or_eq_true, beq_iff_eq] at hf
      unfold s1S; rw [up_ne (by omega), up_ne (by omega), up_ne (by omega)]
    rw [this]; rfl
  · rw [((a4 8 (hl 8 rfl)).2.2.2.2 j).2]; rfl
theorem x4_init (hq8 : q ∉ sL S) (hqE : q ≠ sE S) (hn : n ≤ 20000) {post : fMS → Nat → Prop}
    (hp : ∀ S' n' A Q, frQ S S' Q → RM S' S' q A s0S → n' ≤ n + 5000 → post S' n') : wp_X4_init (wN S q 5 0) n q post := by
  unfold wp_X4_init
  have f0 : frQ S (wN S q 5 0) [q] := (frQ.rf (S := S)).mk hq8 hqE
  refine ⟨isA_made, ?_⟩
  intro S2 e2 S4 e4 S6 e6
  have hQ : q ∈ [q] := List.mem_cons_self
  have r0 : RI [] S S6 q (fun _ => 0) [q] := by
    refine ⟨?_, hQ, ?_, fun f hf => absurd hf List.not_mem_nil, fun f hf => absurd hf List.not_mem_nil, ⟨?_, ?_, ?_⟩, fun s h2 h3 h4 => ?_⟩
    · rw [e6, e4, e2]; exact ((f0.wI hQ).wI hQ).wI hQ
    · rw [e6, e4, e2]; exact (isA_made (N := 0) : isA (wN S q 5 0) 5 q)
    · rw [e6, sI_sl (by decide), e4, sI_sl (by decide), e2, sI_eq]; rfl
    · rw [e6, sI_sl (by decide), e4, sI_eq]; rfl
    · rw [e6, sI_eq]; rfl
    · rw [e6, sI_sl h4, e4, sI_sl h3, e2, sI_sl h2, sI_wN]
  refine ⟨by omega, fun a5 ha5 hb5 => ?_⟩
  intro Sa5 ea5 Sb5 eb5
  have r1 := r0.st (f0 := 5) (by decide) rfl rfl ha5 hb5 ea5 eb5
  clear r0 ea5 eb5
  refine ⟨by omega, fun a6 ha6 hb6 => ?_⟩
  intro Sa6 ea6 Sb6 eb6
  have r2 := r1.st (f0 := 6) (by decide) rfl rfl ha6 hb6 ea6 eb6
  clear r1 ea6 eb6
  refine ⟨by omega, fun a7 ha7 hb7 => ?_⟩
  intro Sa7 ea7 Sb7 eb7
  have r3 := r2.st (f0 := 7) (by decide) rfl rfl ha7 hb7 ea7 eb7
  clear r2 ea7 eb7
  refine ⟨by omega, fun a8 ha8 hb8 => ?_⟩
  intro Sa8 ea8 Sb8 eb8
  have r4 := r3.st (f0 := 8) (by decide) rfl rfl ha8 hb8 ea8 eb8
  clear r3 ea8 eb8
  refine ⟨by omega, fun a9 ha9 hb9 => ?_⟩
  intro Sa9 ea9 Sb9 eb9
  have r5 := r4.st (f0 := 9) (by decide) rfl rfl ha9 hb9 ea9 eb9
  clear r4 ea9 eb9
  refine ⟨by omega, fun a10 ha10 hb10 => ?_⟩
  intro Sa10 ea10 Sb10 eb10
  have r6 := r5.st (f0 := 10) (by decide) rfl rfl ha10 hb10 ea10 eb10
  clear r5 ea10 eb10
  refine ⟨by omega, fun a11 ha11 hb11 => ?_⟩
  intro Sa11 ea11 Sb11 eb11
  have r7 := r6.st (f0 := 11) (by decide) rfl rfl ha11 hb11 ea11 eb11
  clear r6 ea11 eb11
  refine ⟨by omega, fun a13 ha13 hb13 => ?_⟩
  intro Sa13 ea13 Sb13 eb13
  have r8 := r7.st (f0 := 13) (by decide) rfl rfl ha13 hb13 ea13 eb13
  clear r7 ea13 eb13
  refine ⟨by omega, fun a14 ha14 hb14 => ?_⟩
  intro Sa14 ea14 Sb14 eb14
  have r9 := r8.st (f0 := 14) (by decide) rfl rfl ha14 hb14 ea14 eb14
  clear r8 ea14 eb14
  refine ⟨by omega, fun a15 ha15 hb15 => ?_⟩
  intro Sa15 ea15 Sb15 eb15
  have r10 := r9.st (f0 := 15) (by decide) rfl rfl ha15 hb15 ea15 eb15
  clear r9 ea15 eb15
  refine ⟨by omega, fun a16 ha16 hb16 => ?_⟩
  intro Sa16 ea16 Sb16 eb16
  have r11 := r10.st (f0 := 16) (by decide) rfl rfl ha16 hb16 ea16 eb16
  clear r10 ea16 eb16
  refine ⟨by omega, fun a17 ha17 hb17 => ?_⟩
  intro Sa17 ea17 Sb17 eb17
  have r12 := r11.st (f0 := 17) (by decide) rfl rfl ha17 hb17 ea17 eb17
  clear r11 ea17 eb17
  refine ⟨by omega, fun a18 ha18 hb18 => ?_⟩
  intro Sa18 ea18 Sb18 eb18
  have r13 := r12.st (f0 := 18) (by decide) rfl rfl ha18 hb18 ea18 eb18
  clear r12 ea18 eb18
  refine ⟨by omega, fun a19 ha19 hb19 => ?_⟩
  intro Sa19 ea19 Sb19 eb19
  have r14 := r13.st (f0 := 19) (by decide) rfl rfl ha19 hb19 ea19 eb19
  clear r13 ea19 eb19
  refine ⟨by omega, fun a23 ha23 hb23 => ?_⟩
  intro Sa23 ea23 Sb23 eb23
  have r15 := r14.st (f0 := 23) (by decide) rfl rfl ha23 hb23 ea23 eb23
  clear r14 ea23 eb23
  refine ⟨by omega, fun a24 ha24 hb24 => ?_⟩
  intro Sa24 ea24 Sb24 eb24
  have r16 := r15.st (f0 := 24) (by decide) rfl rfl ha24 hb24 ea24 eb24
  clear r15 ea24 eb24
  refine ⟨by omega, fun a25 ha25 hb25 => ?_⟩
  intro Sa25 ea25 Sb25 eb25
  have r17 := r16.st (f0 := 25) (by decide) rfl rfl ha25 hb25 ea25 eb25
  clear r16 ea25 eb25
  refine ⟨by omega, fun a26 ha26 hb26 => ?_⟩
  intro Sa26 ea26 Sb26 eb26
  have r18 := r17.st (f0 := 26) (by decide) rfl rfl ha26 hb26 ea26 eb26
  clear r17 ea26 eb26
  refine ⟨by omega, fun a27 ha27 hb27 => ?_⟩
  intro Sa27 ea27 Sb27 eb27
  have r19 := r18.st (f0 := 27) (by decide) rfl rfl ha27 hb27 ea27 eb27
  clear r18 ea27 eb27
  refine ⟨by omega, fun a28 ha28 hb28 => ?_⟩
  intro Sa28 ea28 Sb28 eb28
  have r20 := r19.st (f0 := 28) (by decide) rfl rfl ha28 hb28 ea28 eb28
  clear r19 ea28 eb28
  refine ⟨by omega, fun a29 ha29 hb29 => ?_⟩
  intro Sa29 ea29 Sb29 eb29
  have r21 := r20.st (f0 := 29) (by decide) rfl rfl ha29 hb29 ea29 eb29
  clear r20 ea29 eb29
  refine ⟨by omega, fun a31 ha31 hb31 => ?_⟩
  intro Sa31 ea31 Sb31 eb31
  have r22 := r21.st (f0 := 31) (by decide) rfl rfl ha31 hb31 ea31 eb31
  clear r21 ea31 eb31
  have fin : ∀ (A : Nat → Nat) (Q : List Nat), RI [31, 29, 28, 27, 26, 25, 24, 23, 19, 18, 17, 16, 15, 14, 13, 11, 10, 9, 8, 7, 6, 5] S Sb31 q A Q → ∃ a690 : Nat, sR Sb31 q 6 = some a690 ∧ isA Sb31 11 a690 ∧ vp_in (0 : Int32) (sN Sb31 a690) ∧ ∀ S694 : fMS, S694 = wI Sb31 a690 (Int32.toNatClampNeg (0 : Int32)) (1 : Int32) → ∃ a719 : Nat, sR S694 q 5 = some a719 ∧ isA S694 11 a719 ∧ vp_in (0 : Int32) (sN S694 a719) ∧ ∀ S723 : fMS, S723 = wI S694 a719 (Int32.toNatClampNeg (0 : Int32)) (-1 : Int32) → ∃ a749 : Nat, sR S723 q 7 = some a749 ∧ isA S723 11 a749 ∧ vp_in (0 : Int32) (sN S723 a749) ∧ ∀ S753 : fMS, S753 = wI S723 a749 (Int32.toNatClampNeg (0 : Int32)) (500 : Int32) → post S753 (n + (10 + 1) + (10 + 1) + (10 + 1) + (10 + 1) + (10 + 1) + (10 + 1) + (10 + 1) + (640 + 1) + (640 + 1) + (640 + 1) + (640 + 1) + (640 + 1) + (640 + 1) + (640 + 1) + (8 + 1) + (8 + 1) + (8 + 1) + (8 + 1) + (10 + 1) + (10 + 1) + (10 + 1) + (40 + 1)) := by
    intro A Q hr
    have hm := hr.rm (fun f hf => by
      unfold rA at hf; simp only [Bool.or_eq_true, beq_iff_eq] at hf
      simp only [List.mem_cons, List.not_mem_nil, or_false]; omega)
    have v10 : ∀ N : Nat, N = 10 → vp_in (0 : Int32) N := fun N h => by rw [h]; exact (iI_in (a := 0) (by omega) (by omega)).mpr ⟨by omega, by omega⟩
    have fr := hr.1
    have q6 := (hr.2.2.2.1 6 (by decide)).2.2.2.1
    have q5 := (hr.2.2.2.1 5 (by decide)).2.2.2.1
    have q7 := (hr.2.2.2.1 7 (by decide)).2.2.2.1
    have w6 := hm.wA 6 0 1 rfl (by decide)
    have w5 := w6.wA 5 0 (-1) rfl (by decide)
    have w7 := w5.wA 7 0 500 rfl (by decide)
    have g6 := fr.wI (s := 0) (v := iI 1) q6
    have g5 := g6.wI (s := 0) (v := iI (-1)) q5
    have g7 := g5.wI (s := 0) (v := iI 500) q7
    refine ⟨A 6, hm.R 6 rfl, of_eq_true (hm.kI 6 rfl rfl), v10 _ (hm.N 6 rfl), ?_⟩
    rintro _ rfl
    refine ⟨A 5, w6.R 5 rfl, of_eq_true (w6.kI 5 rfl rfl), v10 _ (w6.N 5 rfl), ?_⟩
    rintro _ rfl
    refine ⟨A 7, w5.R 7 rfl, of_eq_true (w5.kI 7 rfl rfl), v10 _ (w5.N 7 rfl), ?_⟩
    rintro _ rfl
    exact hp _ _ A Q g7 w7.bs (by omega)
  exact fin _ _ r22
end
