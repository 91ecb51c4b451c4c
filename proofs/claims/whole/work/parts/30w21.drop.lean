-- ===== drop by the broker =====
section
variable {P : Nat → Prop} {F S S' : fMS} {x n B out : Nat} {T J V L E E' : Nat → Nat} {ρ ρ' σ τ φ ψ : fG2} {al ln vi ln' vi' : List Nat}
theorem RX.c (h : RX S x T L ρ) (e1 : τ 1 0 = ρ 1 0) (e2 : τ 2 0 = ρ 2 0) (e3 : τ 3 0 = ρ 3 0) (e20 : τ 20 0 = ρ 20 0) : RX S x T L τ := by
  unfold RX; rw [e1, e2, e3, e20]; exact h
theorem tF_r : ∀ s : Fin 14, tS s = true → (5 ≤ tF s ∧ tF s ≤ 10) ∨ (41 ≤ tF s ∧ tF s ≤ 46) := by decide
theorem jF_r : ∀ s : Fin 8, jS s = true → (13 ≤ jF s ∧ jF s ≤ 18) ∨ jF s = 40 := by decide
theorem RT.c (h : RT S T L ρ) (e4 : τ 4 0 = ρ 4 0) (e : ∀ g k : Nat, (k : Int) < ρ 4 0 → (5 ≤ g ∧ g ≤ 10) ∨ (41 ≤ g ∧ g ≤ 46) → τ g k = ρ g k) : RT S T L τ := by
  refine ⟨fun k hk => ?_, by rw [e4]; exact h.2⟩
  rw [e4] at hk
  obtain ⟨a1, a2, a3, a4, a5, a6⟩ := h.1 k hk
  rw [e 5 k hk (by omega), e 8 k hk (by omega)]
  exact ⟨a1, a2, a3, a4, fun s hs => by rw [e _ k hk (tF_r ⟨s, tS_lt hs⟩ hs)]; exact a5 s hs, a6⟩
theorem RJ.c (h : RJ S T J ρ) (e12 : τ 12 0 = ρ 12 0) (e : ∀ g k : Nat, (k : Int) < ρ 12 0 → (13 ≤ g ∧ g ≤ 18) ∨ g = 40 → τ g k = ρ g k) : RJ S T J τ := by
  refine ⟨fun k hk => ?_, by rw [e12]; exact h.2⟩
  rw [e12] at hk
  obtain ⟨a1, a2, a3, a4, a5⟩ := h.1 k hk
  rw [e 13 k hk (by omega), e 17 k hk (by omega)]
  exact ⟨a1, a2, a3, a4, fun s hs => by rw [e _ k hk (jF_r ⟨s, jS_lt hs⟩ hs)]; exact a5 s hs⟩
/-- all but the lists -/
theorem RB.frX (h : RB P F S x T J V L E ρ al ln vi) (f : frL S S') : RX S' x T L ρ ∧ RT S' T L ρ ∧ RJ S' T J ρ ∧ RV S' T V ρ ∧ RF P F S' V ρ := by
  have c : ∀ {k a}, isA S k a → k ≠ 6 → k ≠ 14 → ∀ i, sI S' a i = sI S a i ∧ sJ S' a i = sJ S a i ∧ sR S' a i = sR S a i := fun {k a} ha h6 h14 i => f.2.2.2 a ha.1 (by rw [ha.2]; exact h6) (by rw [ha.2]; exact h14) i
  refine ⟨?_, ⟨?_, h.2.1.2⟩, ⟨?_, h.2.2.1.2⟩, ⟨?_, h.2.2.2.1.2⟩, ?_⟩
  · obtain ⟨e1, e2, e3, e4, e5, e6, e7⟩ := h.1
    have cx := c e1 (by decide) (by decide)
    unfold RX
    rw [(cx 1).2.2, (cx 0).2.2, (cx 2).2.2, (cx 3).2.2, (cx 4).2.2, (cx 5).2.2, (cx 6).2.2, (cx 7).1, (cx 8).1, (cx 9).1, (cx 10).1]
    exact ⟨f.a e1, e2, e3, e4, e5, e6, e7⟩
  · intro k hk
    obtain ⟨e1, e2, e3, e4, e5, e6⟩ := h.2.1.1 k hk
    have cx := c e1 (by decide) (by decide)
    rw [(cx 0).1, (cx 1).2.2, (cx 2).2.2, (cx 7).2.1]
    exact ⟨f.a e1, e2, e3, e4, fun s hs => by rw [(cx s).1]; exact e5 s hs, e6⟩
  · intro k hk
    obtain ⟨e1, e2, e3, e4, e5⟩ := h.2.2.1.1 k hk
    have cx := c e1 (by decide) (by decide)
    rw [(cx 0).1, (cx 1).2.2, (cx 4).1]
    exact ⟨f.a e1, e2, e3, e4, fun s hs => by rw [(cx s).1]; exact e5 s hs⟩
  · intro k hk
    obtain ⟨e1, e2, e3, e4, e5⟩ := h.2.2.2.1.1 k hk
    have cx := c e1 (by decide) (by decide)
    rw [(cx 0).2.2, (cx 1).1, (cx 2).1, (cx 3).1]
    exact ⟨f.a e1, e2, e3, e4, e5⟩
  · refine ⟨f.2.1.trans h.f.1, f.2.2.1.trans h.f.2.1, fun a ha => ?_⟩
    obtain ⟨e1, e2, e3, e4, e5, e6⟩ := h.f.2.2 a ha
    have f1 := f.1 a e1
    have f2 := f.2.2.2 a e1 (by unfold okK at e4; omega) (by unfold okK at e4; omega)
    exact ⟨f1.1, f1.2.1.trans e2, f1.2.2.trans e3, by rw [f1.2.1]; exact e4, fun i => ⟨(f2 i).1.trans (e5 i).1, (f2 i).2.1.trans (e5 i).2.1, (f2 i).2.2.trans (e5 i).2.2⟩, e6⟩
theorem LB.le {P' : Nat → Prop} {F' : fMS} (h : LB P' F S x σ n B) (hP : ∀ a, P a → P' a) : LB P F S x σ n B := by
  obtain ⟨T, J, V, L, E, ρ, al, ln, vi, a1, a2⟩ := h
  exact ⟨T, J, V, L, E, ρ, al, ln, vi, ⟨a1.1, a1.2.1, a1.2.2.1, a1.2.2.2.1, a1.l, ⟨a1.f.1, a1.f.2.1, fun a ha => a1.f.2.2 a (hP a ha)⟩⟩, a2⟩
theorem LB.fr (h : LB P F S x σ n B) {a : Nat} (ha : P a) : a ∈ sL S ∧ sK S a = sK F a ∧ sN S a = sN F a ∧ ∀ i, sI S a i = sI F a i ∧ sJ S a i = sJ F a i ∧ sR S a i = sR F a i := by
  obtain ⟨T, J, V, L, E, ρ, al, ln, vi, a1, a2⟩ := h
  obtain ⟨e1, e2, e3, e4, e5, e6⟩ := a1.f.2.2 a ha
  exact ⟨e1, e2, e3, e5⟩
/-- the reservations without the one at k -/
def dV (V : Nat → Nat) (k : Nat) : Nat → Nat := fun i => if i < k then V i else V (i + 1)
theorem dr_g {g i k : Nat} (h : g < 22 ∨ 26 < g) : drS ρ k g i = ρ g i := drF_ne h
theorem dr_22 (k : Nat) : drS ρ k 22 0 = ρ 22 0 - 1 := by unfold drS drF; rw [if_pos ⟨rfl, rfl⟩]
theorem dr_i {g i k : Nat} (h : 23 ≤ g ∧ g ≤ 26) (hi : (i : Int) < ρ 22 0 - 1) : drS ρ k g i = if i < k then ρ g i else ρ g (i + 1) := by
  unfold drS drF
  rw [if_neg (by omega)]
  by_cases c : i < k
  · rw [if_neg (by omega), if_pos c]
  · rw [if_pos (by omega), if_neg c]
theorem RB.del4 (h : RB P S S x T J V L E ρ al ln vi) (hn : rmB S E n B) {k : Nat} (hk : (k : Int) < ρ 22 0) {post : Option Nat → fMS → Nat → Prop}
    (hq : ∀ S', RB (fun a => P a ∨ a = V k) S S' x T J (dV V k) L E (drS ρ k) al ln vi → rmB S' E n B → post (some (V k)) S' n) : wp_Jx4a65c_remove_915e3 S n (L 4) (iI k) post := by
  have e : cnt T J V ρ al ln vi 4 = (List.range (ρ 22 0).toNat).map V := rfl
  have hkN : k < (ρ 22 0).toNat := by omega
  refine h.l.del vid4 (by rw [e]; simpa using hkN) (fun S' h' f hp' => ?_)
  have e2 : (cnt T J V ρ al ln vi 4).getD k 0 = V k := by rw [e]; simp [List.getD_eq_getElem?_getD, hkN]
  rw [e2]
  obtain ⟨b1, b2, b3, b4, b5⟩ := h.frX f
  refine hq S' ⟨b1.c (dr_g (by decide)) (dr_g (by decide)) (dr_g (by decide)) (dr_g (by decide)), b2.c (dr_g (by decide)) (fun g i _ hg => dr_g (by omega)), b3.c (dr_g (by decide)) (fun g i _ hg => dr_g (by omega)), ⟨fun i hi => ?_, fun i j hi hj hij => ?_⟩, ?_, ?_⟩ (hn.pe hp')
  · rw [dr_22] at hi
    rw [dr_i (by omega) hi, dr_i (by omega) hi, dr_i (by omega) hi, dr_i (by omega) hi]
    unfold dV
    by_cases c : i < k
    · simp only [if_pos c]; exact b4.1 i (by omega)
    · simp only [if_neg c]; exact b4.1 (i + 1) (by omega)
  · rw [dr_22] at hi hj
    unfold dV at hij
    split at hij
    · split at hij
      · exact b4.2 i j (by omega) (by omega) hij
      · have := b4.2 i (j + 1) (by omega) (by omega) hij; omega
    · split at hij
      · have := b4.2 (i + 1) j (by omega) (by omega) hij; omega
      · have := b4.2 (i + 1) (j + 1) (by omega) (by omega) hij; omega
  · have e3 : cnt T J (dV V k) (drS ρ k) al ln vi = lsU (cnt T J V ρ al ln vi) 4 ((cnt T J V ρ al ln vi 4).eraseIdx k) := by
      funext i; unfold lsU
      by_cases c : i = 4
      · subst c
        rw [if_pos rfl, e]
        show (List.range (drS ρ k 22 0).toNat).map (dV V k) = _
        rw [dr_22]
        refine List.ext_getElem (by rw [List.length_eraseIdx_of_lt (by simpa using hkN)]; simp only [List.length_map, List.length_range]; omega) (fun i h1 h2 => ?_)
        rw [List.getElem_eraseIdx]
        simp only [List.getElem_map, List.getElem_range]
        unfold dV
        split <;> rfl
      · rw [if_neg c]
        unfold cnt kdl
        simp only [if_neg c, dr_g (ρ := ρ) (k := k) (g := 4) (by decide), dr_g (ρ := ρ) (k := k) (g := 5) (by decide), dr_g (ρ := ρ) (k := k) (g := 12) (by decide)]
    rw [e3, dr_g (by decide)]; exact h'
  · refine ⟨b5.1, b5.2.1, fun a ha => ?_⟩
    rcases ha with ha | ha
    · obtain ⟨c1, c2, c3, c4, c5, c6⟩ := b5.2.2 a ha
      refine ⟨c1, c2, c3, c4, c5, fun j hj => ?_⟩
      rw [dr_22] at hj
      unfold dV; split
      · exact c6 j (by omega)
      · exact c6 (j + 1) (by omega)
    · subst ha
      have kV := (h.2.2.2.1.1 k hk).1
      have f1 := f.1 _ kV.1
      have f2 := f.2.2.2 _ kV.1 (by rw [kV.2]; decide) (by rw [kV.2]; decide)
      refine ⟨f1.1, f1.2.1, f1.2.2, by rw [f1.2.1, kV.2]; exact Or.inl rfl, f2, fun j hj => ?_⟩
      rw [dr_22] at hj
      unfold dV; split
      · intro z; have := h.2.2.2.1.2 j k (by omega) hk z; omega
      · intro z; have := h.2.2.2.1.2 (j + 1) k (by omega) hk z; omega
theorem cx_resFor (hP : okP ρ) (hZ : okZ ρ) (hB : okB ρ) (h : RB P F S x T J V L E ρ al ln vi) {t f e : Int} (ht : i32 t) (hf : i32 f) (he : i32 e) {post : Option Nat → Prop} (hp : post (lnJ V (spS ρ t f e))) : wp_X3_reservationFor S x (iI t) (iI f) (iI e) post := by
  have q1 := hP.1; have q2 := hP.2.1
  have t1 := ht.1; have t2 := ht.2; have f1 := hf.1; have f2 := hf.2; have e1 := he.1; have e2 := he.2
  have key : ∀ d k : Nat, (k + d : Int) = ρ 22 0 → spF ρ t f e k d = spS ρ t f e → wB_X3_reservationFor_3 S post x (iI t) (iI f) (iI e) (d + 1) (iI k) := by
    intro d; induction d with
    | zero =>
      intro k hk hx
      simp only [wB_X3_reservationFor_3]
      simp (disch := omega) only [h.X, h.x4, Option.some.injEq, exists_eq_left', h.k4, true_and, h.s4 q1, iI_le]
      refine ⟨fun _ => ?_, fun c => absurd c (by omega)⟩
      rw [← hx] at hp; exact hp
    | succ d ih =>
      intro k hk hx
      have kn : (k : Int) < ρ 22 0 := by omega
      have b1 := hB 23 k; have b2 := hB 25 k; have b3 := hB 26 k
      have bz := (hZ k kn).1
      obtain ⟨l, hl⟩ : ∃ l : Nat, ρ 23 k = l := ⟨(ρ 23 k).toNat, by omega⟩
      have ln' : (l : Int) < ρ 4 0 := by omega
      simp only [spF] at hx
      have go : ¬ (ρ 23 k = t ∧ ρ 25 k = f ∧ ρ 26 k = e) → wB_X3_reservationFor_3 S post x (iI t) (iI f) (iI e) (d + 1) (iI ((k : Int) + 1)) := by
        intro c
        rw [if_neg c] at hx
        exact ih (k + 1) (by omega) hx
      rw [wB_X3_reservationFor_3]
      simp (disch := omega) only [h.X, h.x4, Option.some.injEq, exists_eq_left', h.k4, true_and, h.s4 q1, iI_le]
      refine ⟨fun c => absurd c (by omega), fun _ => ?_⟩
      rw [h.g4 k kn]
      simp (disch := omega) only [Option.some.injEq, exists_eq_left', h.Vk k kn, true_and, h.vl k kn, hl, Int.toNat_natCast, h.Tk l ln', h.t0 l ln', h.v1 k kn, h.v2 k kn, iI_eq, iI_1, iI_add]
      rw [hl] at go hx
      refine ⟨?_, fun c1 => ⟨?_, fun c2 => ⟨?_, fun c3 => ?_⟩⟩⟩
      · rintro c1 _ rfl; exact go (fun z => c1 z.1)
      · rintro c2 _ rfl; exact go (fun z => c2 z.2.1)
      · rintro c3 _ rfl; exact go (fun z => c3 z.2.2)
      · rw [if_pos ⟨c1, c2, c3⟩] at hx
        rw [← hx] at hp
        unfold lnJ at hp
        rw [if_neg (by omega)] at hp
        exact hp
  exact ⟨_, key (ρ 22 0).toNat 0 (by omega) rfl⟩
theorem cx_forgetRes (hP : okP ρ) (h : RB P S S x T J V L E ρ al ln vi) (hn : rmB S E n B) {k : Nat} (hk : (k : Int) < ρ 22 0) {post : fMS → Nat → Prop}
    (hq : ∀ S', RB (fun a => P a ∨ a = V k) S S' x T J (dV V k) L E (drS ρ k) al ln vi → rmB S' E n B → post S' n) : wp_X3_forgetReservation S n x (some (V k)) post := by
  have q1 := hP.1; have q2 := hP.2.1
  have key2 : ∀ (i : Nat) (S1 : fMS), i ≤ k → RB (fun a => P a ∨ a = V k) S S1 x T J (dV V k) L E (drS ρ k) al ln vi → rmB S1 E n B → wB_X3_forgetReservation_10 post x (some (V k)) (i + 1) S1 n (iI ((i : Int) - 1)) := by
    intro i; induction i with
    | zero =>
      intro S1 hi h1 hn1
      rw [wB_X3_forgetReservation_10]
      have e : (iI (((0 : Nat) : Int) - 1) < (0 : Int32)) = (((0 : Nat) : Int) - 1 < 0) := iI_lt (b := 0) (by omega) (by omega) (by omega) (by omega)
      rw [e]
      exact ⟨fun _ => hq S1 h1 hn1, fun c => absurd (by omega) c⟩
    | succ i ih =>
      intro S1 hi h1 hn1
      have e0 : (((i + 1 : Nat) : Int) - 1) = (i : Int) := by omega
      rw [wB_X3_forgetReservation_10, e0]
      have e : (iI (i : Int) < (0 : Int32)) = ((i : Int) < 0) := iI_lt (b := 0) (by omega) (by omega) (by omega) (by omega)
      have e9 : iI (i : Int) + (-1) = iI ((i : Int) - 1) := by rw [iI_m1, iI_add, show (i : Int) + -1 = (i : Int) - 1 by omega]
      rw [e]
      refine ⟨fun c => absurd c (by omega), fun _ => ⟨h1.1.1, L 4, h1.x4, of_eq_true h1.k4, ?_⟩⟩
      rw [h1.g4 i (by rw [dr_22]; omega)]
      have ev : dV V k i = V i := if_pos (by omega)
      rw [ev]
      refine ⟨fun _ => ?_, fun c => ?_⟩
      · rintro _ rfl
        rw [e9]; exact ih S1 (by omega) h1 hn1
      · have := h.2.2.2.1.2 i k (by omega) hk (Option.some.inj c); omega
  have key1 : ∀ (i : Nat), k < i → (i : Int) ≤ ρ 22 0 → wB_X3_forgetReservation_10 post x (some (V k)) (i + 1) S n (iI ((i : Int) - 1)) := by
    intro i; induction i with
    | zero => intro hi; omega
    | succ i ih =>
      intro hi hiN
      have e0 : (((i + 1 : Nat) : Int) - 1) = (i : Int) := by omega
      rw [wB_X3_forgetReservation_10, e0]
      have e : (iI (i : Int) < (0 : Int32)) = ((i : Int) < 0) := iI_lt (b := 0) (by omega) (by omega) (by omega) (by omega)
      have e9 : iI (i : Int) + (-1) = iI ((i : Int) - 1) := by rw [iI_m1, iI_add, show (i : Int) + -1 = (i : Int) - 1 by omega]
      rw [e]
      refine ⟨fun c => absurd c (by omega), fun _ => ⟨h.1.1, L 4, h.x4, of_eq_true h.k4, ?_⟩⟩
      rw [h.g4 i (by omega)]
      refine ⟨fun c => ?_, fun c => ?_⟩
      · rintro _ rfl
        have : i ≠ k := fun z => c (by rw [z])
        rw [e9]; exact ih (by omega) (by omega)
      · have := h.2.2.2.1.2 i k (by omega) hk (Option.some.inj c)
        subst this
        refine h.del4 hn hk (fun S1 h1 hn1 => ?_)
        rintro _ rfl
        rw [e9]; exact key2 i S1 (Nat.le_refl _) h1 hn1
  obtain ⟨N, hN⟩ : ∃ N : Nat, ρ 22 0 = N := ⟨(ρ 22 0).toNat, by omega⟩
  unfold wp_X3_forgetReservation
  refine ⟨h.1.1, L 4, h.x4, of_eq_true h.k4, ?_⟩
  rw [h.s4 q1]
  rintro _ rfl
  rw [iI_1, iI_sub, hN]
  exact ⟨_, key1 N (by omega) (by omega)⟩
theorem xl_drop {c : Int} {t f e : Int} (K : cdDrop ρ t f e = 0 → K0 c (drS ρ (spS ρ t f e).toNat)) (hP : okP ρ) (hZ : okZ ρ) (h : BB P S S x T J V L E ρ al ln vi n B) (hO : oK P S out 12) (ht : i32 t) (hf : i32 f) (he : i32 e) {post : Int32 → fMS → Nat → Prop}
    (hp : xP P S x B out (svS (drS ρ (spS ρ t f e).toNat)) ρ (cdDrop ρ t f e) (Int32.toInt64 (iI (ρ 24 (spS ρ t f e).toNat))) post) : wp_L_drop S n (some x) (iI t) (iI f) (iI e) (some out) post := by
  have hr := h.r
  have X := hp.no h
  have hB := h.2.2.2.1
  unfold wp_L_drop wp_X3_drop
  refine ⟨x, rfl, h.1.1.1, h.1.1.1, cx_resFor hP hZ hB h.1 ht hf he ?_⟩
  unfold lnJ
  rcases spS_ok hP t f e with d | ⟨k, z1, z2, z3, -⟩
  · rw [if_pos d]
    exact ⟨fun z => absurd rfl z, fun _ => ⟨by omega, rfl, fun _ => X 1 (if_pos d) (by decide)⟩⟩
  · have d : ¬ spS ρ t f e = -1 := by omega
    have cd : cdDrop ρ t f e = 0 := if_neg d
    have K := K cd
    have hp := hp.1 cd
    rw [z1, Int.toNat_natCast] at K hp
    rw [if_neg d, z1, Int.toNat_natCast]
    refine ⟨fun _ => ?_, fun z => by cases z⟩
    refine cx_forgetRes hP h.1 h.2.1 z2 (fun S1 h1 hn1 => ⟨h1.1.1, ?_⟩)
    have hb : BB (fun a => P a ∨ a = V k) S S1 x T J (dV V k) L E (drS ρ k) al ln vi n B := by
      refine ⟨h1, hn1, ?_, ?_, ?_, h.2.2.2.2.2⟩
      · rw [h.2.2.1]; unfold alv; rw [dr_g (by decide)]
        refine List.filter_congr (fun i _ => ?_)
        rw [dr_g (by decide)]
      · intro g i; unfold drS drF
        split
        · have := hP.1; have := hP.2.1; omega
        · split
          · exact hB g (i + 1)
          · exact hB g i
      · unfold h40; simp only [dr_g (ρ := ρ) (k := k) (g := 12) (by decide), dr_g (ρ := ρ) (k := k) (g := 17) (by decide), dr_g (ρ := ρ) (k := k) (g := 19) (by decide), dr_g (ρ := ρ) (k := k) (g := 40) (by decide)]; exact h.2.2.2.2.1
    refine cx_sv K hb (fun S' n' hL => ?_)
    obtain ⟨c1, c2, c3, c4⟩ := hL.fr (a := V k) (Or.inr rfl)
    have hL2 : LB P S S' x (svS (drS ρ k)) n' (B + 20) := LB.le (F' := S) hL (fun a ha => Or.inl ha)
    refine ⟨V k, rfl, ⟨c1, c2.trans (h.1.2.2.2.1.1 k z2).1.2⟩, ?_⟩
    rw [(c4 3).1, h.1.v3 k z2]
    exact wr_end hL2 hO (hp S' n' hL2)
end
