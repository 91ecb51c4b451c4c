-- ===== a new broker, whole =====
section
variable {S S' S1 : fMS} {n o e t q s i0 : Nat} {I : Nat → Prop} {L : Nat → Nat}
/-- the state at the start -/
def s0S : fG2 := up (up (up (up (up (up (fun _ _ => 0) 2 0 20) 3 0 10) 4 0 1) 6 0 1) 5 0 (-1)) 7 0 500
theorem s0_z {g k : Nat} (h : k ≠ 0 ∨ (g ≠ 2 ∧ g ≠ 3 ∧ g ≠ 4 ∧ g ≠ 5 ∧ g ≠ 6 ∧ g ≠ 7)) : s0S g k = 0 := by
  unfold s0S up
  rw [if_neg (by omega), if_neg (by omega), if_neg (by omega), if_neg (by omega), if_neg (by omega), if_neg (by omega)]
theorem TF.w {c : Nat} {v : Int32} (h : TF S t c) (hne : t ≠ o) : TF (wI S o s v) t c := by
  obtain ⟨a1, a2, a3, a4, a5, a6, a7, a8⟩ := h
  exact ⟨a1, (sI_ne hne).trans a2, a3, a4, (sI_ne hne).trans a5, (sI_ne hne).trans a6, fun s hs => (sI_ne hne).trans (a7 s hs), a8⟩
theorem x3_init (hE1 : sE S ∉ sL S) (hE2 : sN S (sE S) = 0) (ho : isA S 4 o) (hn : n ≤ 1000) {post : fMS → Nat → Prop}
    (hp : ∀ S' n' T J V L E, RB (fun _ => False) S' S' o T J V L E s0S [] [] [] → n' ≤ n + 100 + pot S' E → post S' n') : wp_X3_init S n o post := by
  have h0 : IN (fun _ => False) (sE S) o (fun _ => 0) S := ⟨rfl, ho, ⟨hE1, hE2⟩, fun _ _ => rfl, fun _ h => h.elim, fun _ h => h.elim, fun _ _ h => h.elim, fun _ _ h => h.elim⟩
  unfold wp_X3_init
  refine ini_list (s := 0) (i0 := 0) h0 (fun z => z) (by omega) (fun q0 S1 _ h1 r0 f1 => ?_)
  refine ini_team h1 (by simp) (by omega) (fun t c S2 ht hto h2 rt tf2 f2 => ?_)
  refine ini_list (s := 2) (i0 := 2) h2 (by simp) (by omega) (fun q2 S3 _ h3 r2 f3 => ?_)
  refine ini_list (s := 3) (i0 := 3) h3 (by simp) (by omega) (fun q3 S4 _ h4 r3 f4 => ?_)
  refine ini_list (s := 4) (i0 := 4) h4 (by simp) (by omega) (fun q4 S5 _ h5 r4 f5 => ?_)
  refine ini_list (s := 5) (i0 := 5) h5 (by simp) (by omega) (fun q5 S6 _ h6 r5 f6 => ?_)
  refine ini_list (s := 6) (i0 := 6) h6 (by simp) (by omega) (fun q6 S7 _ h7 r6 f7 => ?_)
  have l0 : sR S7 o 0 = some q0 := f7.ok h6.2.1 (by decide) (f6.ok h5.2.1 (by decide) (f5.ok h4.2.1 (by decide) (f4.ok h3.2.1 (by decide) (f3.ok h2.2.1 (by decide) (f2.ok h1.2.1 (by decide) r0)))))
  have lt : sR S7 o 1 = some t := f7.ok h6.2.1 (by decide) (f6.ok h5.2.1 (by decide) (f5.ok h4.2.1 (by decide) (f4.ok h3.2.1 (by decide) (f3.ok h2.2.1 (by decide) rt))))
  have l2 : sR S7 o 2 = some q2 := f7.ok h6.2.1 (by decide) (f6.ok h5.2.1 (by decide) (f5.ok h4.2.1 (by decide) (f4.ok h3.2.1 (by decide) r2)))
  have l3 : sR S7 o 3 = some q3 := f7.ok h6.2.1 (by decide) (f6.ok h5.2.1 (by decide) (f5.ok h4.2.1 (by decide) r3))
  have l4 : sR S7 o 4 = some q4 := f7.ok h6.2.1 (by decide) (f6.ok h5.2.1 (by decide) r4)
  have l5 : sR S7 o 5 = some q5 := f7.ok h6.2.1 (by decide) r5
  have tf7 : TF S7 t c := ((((tf2.k f3 hto).k f4 hto).k f5 hto).k f6 hto).k f7 hto
  obtain ⟨Lf, hLf⟩ : ∃ Lf, Lf = nV (nV (nV (nV (nV (nV (nV (fun _ => 0) 0 q0) 10 c) 2 q2) 3 q3) 4 q4) 5 q5) 6 q6 := ⟨_, rfl⟩
  have L0 : Lf 0 = q0 := by rw [hLf]; rfl
  have L2 : Lf 2 = q2 := by rw [hLf]; rfl
  have L3 : Lf 3 = q3 := by rw [hLf]; rfl
  have L4 : Lf 4 = q4 := by rw [hLf]; rfl
  have L5 : Lf 5 = q5 := by rw [hLf]; rfl
  have L6 : Lf 6 = q6 := by rw [hLf]; rfl
  have L10 : Lf 10 = c := by rw [hLf]; rfl
  have hI : RLs (vid 1) S7 Lf (fun _ => sE S) (fun _ => []) := by
    have e : vid 1 = fun i => i = 6 ∨ i = 5 ∨ i = 4 ∨ i = 3 ∨ i = 2 ∨ i = 10 ∨ i = 0 ∨ False := by
      funext i; apply propext; unfold vid; simp only [or_false]; omega
    rw [e, hLf]; exact h7.2.2
  have ko := h7.2.1
  intro S8 e8 S9 e9 S10 e10 S11 e11
  have k8 : isA S8 4 o := by rw [e8]; exact ko
  have k9 : isA S9 4 o := by rw [e9]; exact k8
  have k10 : isA S10 4 o := by rw [e10]; exact k9
  have k11 : isA S11 4 o := by rw [e11]; exact k10
  have hI11 : RLs (vid 1) S11 Lf (fun _ => sE S) (fun _ => []) := by
    rw [e11]; refine RLs.wI ?_ k10 (by decide)
    rw [e10]; refine RLs.wI ?_ k9 (by decide)
    rw [e9]; refine RLs.wI ?_ k8 (by decide)
    rw [e8]; exact RLs.wI hI ko (by decide)
  have tf11 : TF S11 t c := by rw [e11]; refine TF.w ?_ hto; rw [e10]; refine TF.w ?_ hto; rw [e9]; refine TF.w ?_ hto; rw [e8]; exact TF.w tf7 hto
  have rr : ∀ k, sR S11 o k = sR S7 o k := fun k => by rw [e11, sR_wI, e10, sR_wI, e9, sR_wI, e8, sR_wI]
  have i10 : sI S11 o 10 = iI 0 := by rw [e11, sI_eq]; rfl
  have i9 : sI S11 o 9 = iI 0 := by rw [e11, sI_sl (by decide), e10, sI_eq]; rfl
  have i8 : sI S11 o 8 = iI 10 := by rw [e11, sI_sl (by decide), e10, sI_sl (by decide), e9, sI_eq]; rfl
  have i7 : sI S11 o 7 = iI 20 := by rw [e11, sI_sl (by decide), e10, sI_sl (by decide), e9, sI_sl (by decide), e8, sI_eq]; rfl
  have m11 : sE S11 = sE S := by rw [e11, e10, e9, e8]; exact h7.1
  refine ⟨Lf 0, by rw [rr, l0, L0], hI11.k (Or.inl rfl), ?_⟩
  rw [rr, lt]
  have pz : pot S11 (fun _ => sE S) = 0 := by
    have z : sN S11 (sE S) = 0 := by rw [← m11]; exact hI11.1.2
    unfold pot
    have : ∀ d, potF S11 (fun _ => sE S) d = 0 := by
      intro d; induction d with
      | zero => rfl
      | succ d ih => simp only [potF, ih, z]
    exact this 20
  refine hI11.add (Or.inl rfl) (by decide) (Or.inr (Or.inr tf11.1)) (by decide) (by omega) (fun S' n' E' hl fr hpot => hp S' n' (fun _ => t) (fun _ => 0) (fun _ => 0) Lf E' ?_ (by rw [pz] at hpot; omega))
  have co := fr.2.2.2 o k11.1 (by rw [k11.2]; decide) (by rw [k11.2]; decide)
  have ct := fr.2.2.2 t tf11.1.1 (by rw [tf11.1.2]; decide) (by rw [tf11.1.2]; decide)
  have z4 : s0S 4 0 = 1 := rfl
  have z12 : s0S 12 0 = 0 := rfl
  have z22 : s0S 22 0 = 0 := rfl
  obtain ⟨a1, a2, a3, a4, a5, a6, a7, a8⟩ := tf11
  refine ⟨?_, ⟨fun k hk => ?_, fun k l hk hl' _ => by rw [z4] at hk hl'; omega⟩, ⟨fun j hj => by rw [z12] at hj; omega, fun k l hk _ _ => by rw [z12] at hk; omega⟩, ⟨fun j hj => by rw [z22] at hj; omega, fun k l hk _ _ => by rw [z22] at hk; omega⟩, ?_, ⟨rfl, rfl, fun a ha => ha.elim⟩⟩
  · unfold RX
    rw [(co 1).2.2, (co 0).2.2, (co 2).2.2, (co 3).2.2, (co 4).2.2, (co 5).2.2, (co 6).2.2, (co 7).1, (co 8).1, (co 9).1, (co 10).1, rr, rr, rr, rr, rr, rr, rr, L0, L2, L3, L4, L5, L6]
    exact ⟨fr.a k11, lt, ⟨l0, l2, l3, l4, l5, r6⟩, i7, i8, i9, i10⟩
  · rw [z4] at hk
    have k0 : k = 0 := by omega
    subst k0
    rw [if_pos rfl, (ct 0).1, (ct 1).2.2, (ct 2).2.2, (ct 7).2.1, L10]
    refine ⟨fr.a a1, a2, a3, a4, fun s hs => ?_, a8⟩
    rw [(ct s).1]
    have : s = 3 ∨ s = 4 ∨ s = 5 ∨ s = 6 ∨ (8 ≤ s ∧ s ≤ 13) := by
      have : ∀ s : Fin 14, tS s = true → s.val = 3 ∨ s.val = 4 ∨ s.val = 5 ∨ s.val = 6 ∨ (8 ≤ s.val ∧ s.val ≤ 13) := by decide
      exact this ⟨s, tS_lt hs⟩ hs
    rcases this with e | e | e | e | e
    · subst e; rw [a5]; rfl
    · subst e; rw [a6]; rfl
    · subst e; rw [a7 5 (by omega)]; rfl
    · subst e; rw [a7 6 (by omega)]; rfl
    · have : s = 8 ∨ s = 9 ∨ s = 10 ∨ s = 11 ∨ s = 12 ∨ s = 13 := by omega
      rw [a7 s (by omega)]
      rcases this with e | e | e | e | e | e <;> subst e <;> rfl
  · rw [z4]
    refine hl.c (fun i hi => ?_)
    have : i = 0 ∨ i = 2 ∨ i = 3 ∨ i = 4 ∨ i = 5 ∨ i = 6 ∨ i = 10 := by unfold vid at hi; omega
    rcases this with e | e | e | e | e | e | e <;> subst e <;> rfl
end
