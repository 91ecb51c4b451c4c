section
variable {ρ σ τ : fG2}
/-- what the broker's serving rests on -/
def cI (ρ : fG2) : Prop := inv ρ ∧ okB ρ ∧ okE ρ ∧ okZ ρ ∧ (∀ k : Nat, (k : Int) < ρ 4 0 → 1 ≤ ρ 6 k) ∧ (∀ k : Nat, (k : Int) < ρ 4 0 → ρ 44 k = rsvS ρ k) ∧ (∀ k : Nat, (k : Int) < ρ 4 0 → ρ 45 k = dueS ρ k) ∧ ∀ j : Nat, (j : Int) < ρ 12 0 → ρ 17 j = 1 → ρ 40 j = ρ 19 j + 1
theorem cI.i (h : cI ρ) : inv ρ := h.1
theorem cI.B (h : cI ρ) : okB ρ := h.2.1
theorem cI.E (h : cI ρ) : okE ρ := h.2.2.1
theorem cI.Z (h : cI ρ) : okZ ρ := h.2.2.2.1
theorem cI.w (h : cI ρ) (k : Nat) (hk : (k : Int) < ρ 4 0) : 1 ≤ ρ 6 k := h.2.2.2.2.1 k hk
theorem cI.h44 (h : cI ρ) (k : Nat) (hk : (k : Int) < ρ 4 0) : ρ 44 k = rsvS ρ k := h.2.2.2.2.2.1 k hk
theorem cI.h45 (h : cI ρ) (k : Nat) (hk : (k : Int) < ρ 4 0) : ρ 45 k = dueS ρ k := h.2.2.2.2.2.2.1 k hk
theorem cI.h40 (h : cI ρ) (j : Nat) (hj : (j : Int) < ρ 12 0) (hs : ρ 17 j = 1) : ρ 40 j = ρ 19 j + 1 := h.2.2.2.2.2.2.2 j hj hs
theorem rsv_no (hZ : okZ ρ) (hP : okP ρ) {t : Int} (h : kidsN ρ t ≠ 0) : rsvS ρ t = 0 := by
  have p1 := hP.1
  have : ∀ d k : Nat, (k + d : Nat) ≤ (ρ 22 0).toNat → fSum (rsvF ρ t) k d = 0 := by
    intro d; induction d with
    | zero => intro k _; rfl
    | succ d ih =>
      intro k hk
      simp only [fSum]
      rw [ih (k + 1) (by omega)]
      have z := hZ k (by omega)
      have : rsvF ρ t k = 0 := if_neg (fun y => h (by rw [← y.1]; exact z.2))
      omega
  exact this _ 0 (by omega)
noncomputable def loL (ρ : fG2) (t : Int) : List Nat → Int → Int
  | [], b => b
  | j :: l, b => haveI := Classical.propDecidable; loL ρ t l (if ovP ρ t j ∧ (b = -1 ∨ ρ 19 b.toNat < ρ 19 j) then (j : Int) else b)
theorem loL_F (t : Int) : ∀ (d j : Nat) (b : Int), loL ρ t ((List.range' j d).filter (fun j => decide (ρ 17 j = 0 ∨ ρ 17 j = 1))) b = loF ρ t j d b := by
  intro d; induction d with
  | zero => intro j b; rfl
  | succ d ih =>
    intro j b
    rw [List.range'_succ, List.filter_cons]
    simp only [loF]
    by_cases c : ρ 17 j = 0 ∨ ρ 17 j = 1
    · rw [if_pos (c := decide (ρ 17 j = 0 ∨ ρ 17 j = 1) = true) (by rw [decide_eq_true_iff]; exact c)]
      simp only [loL]
      rw [ih]
    · rw [if_neg (c := decide (ρ 17 j = 0 ∨ ρ 17 j = 1) = true) (by rw [decide_eq_true_iff]; exact c), ih, if_neg (fun z => c (Or.inr z.1.1))]
theorem loL_S (t : Int) : loL ρ t (alv ρ) (-1) = loS ρ t := by
  unfold alv loS; rw [List.range_eq_range', loL_F]
theorem gon_cI {G : List Nat} (h : cI ρ) (hg : gon ρ τ G) : cI τ := by
  obtain ⟨g1, g2, g3, g4, g5, g6⟩ := hg
  have e : ∀ g k : Nat, g ≠ 10 → g ≠ 11 → g ≠ 17 → g ≠ 31 → g ≠ 32 → τ g k = ρ g k := g1
  have e4 := e 4 0 (by decide) (by decide) (by decide) (by decide) (by decide)
  have e12 := e 12 0 (by decide) (by decide) (by decide) (by decide) (by decide)
  have er : ∀ t, rsvS τ t = rsvS ρ t := fun t => by
    unfold rsvS rsvF
    simp only [e 22 _ (by decide) (by decide) (by decide) (by decide) (by decide), e 23 _ (by decide) (by decide) (by decide) (by decide) (by decide), e 24 _ (by decide) (by decide) (by decide) (by decide) (by decide), e 25 _ (by decide) (by decide) (by decide) (by decide) (by decide), e 26 _ (by decide) (by decide) (by decide) (by decide) (by decide), e 1 _ (by decide) (by decide) (by decide) (by decide) (by decide)]
  have ek : kidsN τ = kidsN ρ := kids_c (fun k => e 4 k (by decide) (by decide) (by decide) (by decide) (by decide)) (fun k => e 5 k (by decide) (by decide) (by decide) (by decide) (by decide))
  refine ⟨g2, g3, ?_, ?_, fun k hk => ?_, fun k hk => ?_, fun k hk => ?_, fun j hj hs => ?_⟩
  · unfold okE; rw [ek, e12]; simp only [e 13 _ (by decide) (by decide) (by decide) (by decide) (by decide)]; exact h.E
  · unfold okZ; rw [ek, e4]; simp only [e 22 _ (by decide) (by decide) (by decide) (by decide) (by decide), e 23 _ (by decide) (by decide) (by decide) (by decide) (by decide)]; exact h.Z
  · rw [e 6 k (by decide) (by decide) (by decide) (by decide) (by decide)]; exact h.w k (by omega)
  · rw [e 44 k (by decide) (by decide) (by decide) (by decide) (by decide), er]; exact h.h44 k (by omega)
  · rw [e 45 k (by decide) (by decide) (by decide) (by decide) (by decide), h.h45 k (by omega)]
    unfold dueS; rw [er, e 28 k (by decide) (by decide) (by decide) (by decide) (by decide)]
  · have hs' : ρ 17 j = 1 := by
      rw [g6] at hs; split at hs
      · exact absurd hs (by decide)
      · exact hs
    rw [e 40 j (by decide) (by decide) (by decide) (by decide) (by decide), e 19 j (by decide) (by decide) (by decide) (by decide) (by decide)]
    exact h.h40 j (by omega) hs'
theorem gon_alv {G : List Nat} (hJ : okJ ρ) (hg : gon ρ τ G) : alv τ = alv ρ := by
  obtain ⟨g1, g2, g3, g4, g5, g6⟩ := hg
  unfold alv
  rw [g1 12 0 (by decide) (by decide) (by decide) (by decide) (by decide)]
  refine List.filter_congr (fun j _ => ?_)
  rw [g6]
  by_cases c : j ∈ G
  · have := (g5 j c).2
    rw [if_pos c, this]; decide
  · rw [if_neg c]
end
section
variable {P : Nat → Prop} {F S S' : fMS} {x n B : Nat} {T J V L E E' : Nat → Nat} {ρ : fG2} {al ln vi : List Nat}
theorem cx_free (hc : cI ρ) (h : RB P F S x T J V L E ρ al ln vi) {t : Nat} (ht : (t : Int) < ρ 4 0) {post : Int32 → Prop} (hp : post (iI (freS ρ t))) : wp_X3_freeUnits S x (some (T t)) post := by
  have hi := hc.i; have hB := hc.B
  obtain ⟨q1, q2, q3, q4⟩ := hi.B4
  have bc := hB 2 0; have b0 := hB 10 0
  have t0 : ((0 : Nat) : Int) < ρ 4 0 := by omega
  have key : ∀ d k : Nat, ∀ acc : Int, (k + d : Int) = ρ 4 0 → -200000000 + 10000 * d ≤ acc → acc ≤ 200000000 → post (iI (acc - fSum (freF ρ t) k d)) → wB_X3_freeUnits_15 S post x (some (T t)) (d + 1) (iI acc) (iI k) := by
    intro d; induction d with
    | zero =>
      intro k acc hk h0 ha hp
      simp only [wB_X3_freeUnits_15]
      simp (disch := omega) only [h.X, h.x0, Option.some.injEq, exists_eq_left', h.k0, true_and, h.s0 (by omega), iI_le]
      exact ⟨fun _ => by simpa [fSum] using hp, fun c => absurd c (by omega)⟩
    | succ d ih =>
      intro k acc hk h0 ha hp
      have kn : (k : Int) < ρ 4 0 := by omega
      have b1 := hi.U k; have b2 := rsv_b hi.P k
      have e44 := hc.h44 k kn
      simp only [fSum] at hp
      have go : ∀ y : Int, y = freF ρ t k → wB_X3_freeUnits_15 S post x (some (T t)) (d + 1) (iI (acc - y)) (iI ((k : Int) + 1)) := by
        intro y hy
        have hyb : 0 ≤ y ∧ y ≤ 1600 := by rw [hy]; unfold freF; split <;> (try split) <;> omega
        refine ih (k + 1) (acc - y) (by omega) (by omega) (by omega) ?_
        rw [show acc - y - fSum (freF ρ t) (k + 1) d = acc - (freF ρ t k + fSum (freF ρ t) (k + 1) d) by omega]; exact hp
      rw [wB_X3_freeUnits_15]
      simp (disch := omega) only [h.X, h.x0, Option.some.injEq, exists_eq_left', h.k0, true_and, h.s0 (by omega), iI_le]
      refine ⟨fun c => absurd c (by omega), fun _ => ?_⟩
      rw [h.g0 k kn]
      simp (disch := omega) only [Option.some.injEq, exists_eq_left', h.Tk k kn, true_and, h.Te k t kn ht, h.t11 k kn, h.t6 k kn, iI_le, iI_1, iI_add, iI_sub]
      refine ⟨?_, fun c1 => ⟨?_, ?_⟩⟩
      · rintro c1 _ rfl
        have := go 0 (by unfold freF; rw [if_pos (Or.inl (by omega))])
        rw [Int.sub_zero] at this; exact this
      · rintro c2 _ rfl
        have := go 0 (by
          unfold freF
          split
          · rfl
          · rw [if_neg (by omega)])
        rw [Int.sub_zero] at this; exact this
      · rintro c2 _ rfl _ rfl
        have hz : ¬ kidsN ρ k ≠ 0 := fun z => by have := rsv_no hc.Z hi.P z; omega
        exact go _ (by unfold freF; rw [if_neg (by rintro (z | z)
                                                   · omega
                                                   · exact hz z), if_pos (by omega)]; omega)
  unfold wp_X3_freeUnits
  simp (disch := omega) only [h.X, h.xT, Option.some.injEq, exists_eq_left', h.Tk 0 t0, true_and, h.x7, h.t6 0 t0, iI_sub]
  rintro _ rfl
  have cc := hi.c; have u0 := hi.U 0
  obtain ⟨N, hN⟩ : ∃ N : Nat, ρ 4 0 = N := ⟨(ρ 4 0).toNat, by omega⟩
  have hp' : post (iI (ρ 2 0 - ρ 10 0 - fSum (freF ρ t) 0 N)) := by unfold freS at hp; rw [show (ρ 4 0).toNat = N by omega] at hp; exact hp
  exact ⟨_, key N 0 _ (by omega) (by omega) (by omega) hp'⟩
theorem cx_youngest (hc : cI ρ) (hal : al = alv ρ) (h : RB P F S x T J V L E ρ al ln vi) {t : Nat} (ht : (t : Int) < ρ 4 0) {post : Option Nat → Prop} (hp : post (lnJ J (loS ρ t))) : wp_X3_youngestBorrower S x (some (T t)) post := by
  have hi := hc.i; have hB := hc.B
  obtain ⟨q1, q2, q3, q4⟩ := hi.B4
  have alm : ∀ j ∈ al, (j : Int) < ρ 12 0 := fun j hj => by rw [hal] at hj; exact ((alv_mem hi.J).mp hj).1
  have all : al.length ≤ 40 := by rw [hal]; exact alv_l hi
  have key : ∀ (d i : Nat) (b : Int), i + d = al.length → (b = -1 ∨ ∃ m : Nat, b = m ∧ (m : Int) < ρ 12 0 ∧ ρ 17 m = 1) → loL ρ t (al.drop i) b = loS ρ t → wB_X3_youngestBorrower_4 S post x (some (T t)) (d + 1) (lnJ J b) (iI i) := by
    intro d; induction d with
    | zero =>
      intro i b hi' hb hx
      rw [List.drop_eq_nil_of_le (by omega)] at hx
      have hx : b = loS ρ t := hx
      simp only [wB_X3_youngestBorrower_4]
      simp (disch := omega) only [h.X, h.x3, Option.some.injEq, exists_eq_left', h.k3, true_and, h.s3, iI_le]
      refine ⟨fun _ => ?_, fun c => absurd c (by omega)⟩
      rw [hx]; exact hp
    | succ d ih =>
      intro i b hi' hb hx
      have hdr : al.drop i = al[i] :: al.drop (i + 1) := List.drop_eq_getElem_cons (by omega)
      have hgd : al.getD i 0 = al[i] := by rw [List.getD_eq_getElem?_getD, List.getElem?_eq_getElem (by omega)]; rfl
      obtain ⟨j, hj⟩ : ∃ j, j = al[i] := ⟨_, rfl⟩
      rw [← hj] at hdr hgd
      have jn := alm j (by rw [hj]; exact List.getElem_mem _)
      have bj := hi.J.2.2 j jn
      obtain ⟨l, hl⟩ : ∃ l : Nat, ρ 13 j = l := ⟨(ρ 13 j).toNat, by omega⟩
      have ll : (l : Int) < ρ 4 0 := by omega
      have sb := stV_b (ρ 17 j)
      have b10 := hB 10 l; have b45 := hB 45 l; have e45 := hc.h45 l ll
      rw [hdr] at hx
      simp only [loL] at hx
      have ho : ovP ρ t j ↔ (ρ 17 j = 1 ∧ (l : Int) ≠ t ∧ dueS ρ l < ρ 10 l) := by unfold ovP; rw [hl]; rfl
      have no : ¬ (ovP ρ t j ∧ (b = -1 ∨ ρ 19 b.toNat < ρ 19 j)) → wB_X3_youngestBorrower_4 S post x (some (T t)) (d + 1) (lnJ J b) (iI ((i : Int) + 1)) := by
        intro c
        rw [if_neg c] at hx
        exact ih (i + 1) b (by omega) hb hx
      have yes : (ovP ρ t j ∧ (b = -1 ∨ ρ 19 b.toNat < ρ 19 j)) → wB_X3_youngestBorrower_4 S post x (some (T t)) (d + 1) (some (J j)) (iI ((i : Int) + 1)) := by
        intro c
        rw [if_pos c] at hx
        have e : some (J j) = lnJ J (j : Int) := by unfold lnJ; rw [if_neg (by omega)]; rfl
        rw [e]
        exact ih (i + 1) j (by omega) (Or.inr ⟨j, rfl, jn, c.1.1⟩) hx
      rw [wB_X3_youngestBorrower_4]
      simp (disch := omega) only [h.X, h.x3, Option.some.injEq, exists_eq_left', h.k3, true_and, h.s3, iI_le]
      refine ⟨fun c => absurd c (by omega), fun _ => ?_⟩
      rw [h.g3 i (by omega), hgd]
      simp (disch := omega) only [Option.some.injEq, exists_eq_left', h.Jk j jn, true_and, h.jl j jn, hl, Int.toNat_natCast, h.Te l t ll ht, h.j4 j jn, show (114 : Int32) = iI 114 from rfl, iI_eq, stV_r, iI_1, iI_add, h.Tk l ll, h.t6 l ll, h.t12 l ll, iI_le]
      refine ⟨?_, fun c1 => ⟨?_, fun c2 => ⟨?_, fun c3 => ⟨?_, fun c4 => ?_⟩⟩⟩⟩
      · rintro c1 _ rfl; exact no (fun z => c1 z.1.1)
      · rintro c2 _ rfl; exact no (fun z => (ho.mp z.1).2.1 (by omega))
      · rintro c3 _ rfl; exact no (fun z => by have := (ho.mp z.1).2.2; omega)
      · rintro c4 _ rfl
        have hb1 : b = -1 := by
          unfold lnJ at c4; split at c4
          · assumption
          · cases c4
        exact yes ⟨ho.mpr ⟨c1, by omega, by omega⟩, Or.inl hb1⟩
      · have hbn : b ≠ -1 := fun z => c4 (by unfold lnJ; rw [if_pos z])
        obtain ⟨m, rfl, m1, m2⟩ := hb.resolve_left hbn
        clear hb
        have em : lnJ J (m : Int) = some (J m) := by unfold lnJ; rw [if_neg hbn]; rfl
        have b40 := hB 40 m; have b40' := hB 40 j
        have a1 := hc.h40 m m1 m2; have a2 := hc.h40 j jn c1
        rw [em] at no ⊢
        simp (disch := omega) only [Option.some.injEq, exists_eq_left', h.Jk m m1, true_and, h.j7 m m1, h.j7 j jn, iI_le]
        simp only [Int.toNat_natCast] at no yes
        refine ⟨?_, ?_⟩
        · rintro c5 _ rfl; exact no (by rintro ⟨-, z | z⟩ <;> omega)
        · rintro c5 _ rfl; exact yes ⟨ho.mpr ⟨c1, by omega, by omega⟩, Or.inr (by omega)⟩
  exact ⟨_, key al.length 0 (-1) (by omega) (Or.inl rfl) (by rw [List.drop_zero, hal]; exact loL_S _)⟩
end
