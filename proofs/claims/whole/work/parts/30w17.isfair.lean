-- ===== the broker's isFair =====
section
variable {P : Nat → Prop} {F S S' : fMS} {x n B out : Nat} {T J V L E E' : Nat → Nat} {ρ ρ' σ τ φ ψ : fG2} {al ln vi ln' vi' : List Nat}
theorem cx_some (hc : cI ρ) (hal : al = alv ρ) (h : RB P F S x T J V L E ρ al ln vi) (hn : rmB S E n B) {post : Int32 → fMS → Nat → Prop}
    (p0 : nxS ρ = none → ∀ S' n' E' ln' vi', RB P F S' x T J V L E' ρ al ln' vi' → rmB S' E' n' B → post (iI 0) S' n')
    (p1 : nxS ρ ≠ none → ∀ S' n' E' ln' vi', RB P F S' x T J V L E' ρ al ln' vi' → rmB S' E' n' B → post (iI 1) S' n') : wp_X3_someFirstJobCanBeServed S n x post := by
  obtain ⟨l, hl⟩ : ∃ l, l = lnS ρ := ⟨_, rfl⟩
  have l10 : l.length ≤ 40 ∧ True := by
    refine ⟨?_, trivial⟩
    have : ∀ (d t : Nat) (l : List Nat), (lnF ρ t d l).length ≤ l.length + d := by
      intro d; induction d with
      | zero => intro t l; exact Nat.le_refl _
      | succ d ih =>
        intro t l
        unfold lnF
        split
        · have := ih (t + 1) (insAt l (atB ρ l t l.length) t)
          rw [insAt_len (atB_le ρ l t _)] at this; omega
        · have := ih (t + 1) l; omega
    have := this (ρ 4 0).toNat 0 []
    have := hc.i.T.2.1
    rw [hl]; unfold lnS; simp at *; omega
  have key : ∀ (d k : Nat) (S : fMS) (n : Nat) (E : Nat → Nat) (vi : List Nat), k + d = l.length → RB P F S x T J V L E ρ al (l.map (fjS ρ)) vi → rmB S E n B → nxL ρ (l.drop k) = nxS ρ → wB_X3_someFirstJobCanBeServed_6 post x (d + 1) S n (iI k) := by
    have len : (l.map (fjS ρ)).length = l.length := List.length_map _
    intro d; induction d with
    | zero =>
      intro k S n E vi hk h hn hx
      rw [List.drop_eq_nil_of_le (by omega)] at hx
      simp only [wB_X3_someFirstJobCanBeServed_6]
      simp (disch := omega) only [h.X, h.x5, Option.some.injEq, exists_eq_left', h.k5, true_and, h.s5, len, iI_le]
      exact ⟨fun _ => p0 hx.symm S n E _ _ h hn, fun c => absurd c (by omega)⟩
    | succ d ih =>
      intro k S n E vi hk h hn hx
      have hd : l.drop k = l[k] :: l.drop (k + 1) := List.drop_eq_getElem_cons (by omega)
      obtain ⟨t, ht⟩ : ∃ t, t = l[k] := ⟨_, rfl⟩
      have hgd : (l.map (fjS ρ)).getD k 0 = fjS ρ t := by rw [List.getD_eq_getElem?_getD, List.getElem?_eq_getElem (by omega), ht]; simp
      rw [← ht] at hd
      have htm : t ∈ lnS ρ := by rw [← hl, ht]; exact List.getElem_mem _
      have ht3 := lnS_mem hc.i.T htm
      obtain ⟨j, j1, j2, j3, j4⟩ := fstS_ok hc.i.J t ht3.2.2
      have ej : fjS ρ t = j := by unfold fjS; rw [j1]; rfl
      rw [ej] at hgd
      rw [hd] at hx
      rw [wB_X3_someFirstJobCanBeServed_6]
      simp (disch := omega) only [h.X, h.x5, Option.some.injEq, exists_eq_left', h.k5, true_and, h.s5, len, iI_le]
      refine ⟨fun c => absurd c (by omega), fun _ => ?_⟩
      rw [h.g5 k (by omega), hgd]
      simp only [Option.some.injEq, exists_eq_left', h.Jk j j2, true_and]
      refine cx_can hc hal h hn j2 (fun c S1 n1 E1 h1 hn1 => ⟨fun z => absurd z (by decide), fun _ => ?_⟩) (fun c S1 n1 E1 vi1 h1 hn1 => ⟨fun _ => ?_, fun z => absurd rfl z⟩)
      · rw [nxL_y j1 c] at hx
        exact p1 (by rw [← hx]; simp) S1 n1 E1 _ _ h1 hn1
      · rw [nxL_n j1 c] at hx
        simp only [iI_1, iI_add]
        rintro _ rfl
        exact ih (k + 1) S1 n1 E1 vi1 (by omega) h1 hn1 hx
  unfold wp_X3_someFirstJobCanBeServed
  rw [h.X, true_and]
  refine cx_formLine hc.i hc.B hc.E hc.w hal h hn (fun S' n' E' h' hn' => ⟨_, key l.length 0 S' n' E' vi (by omega) ?_ hn' ?_⟩)
  · unfold jlS at h'; rw [← hl] at h'; exact h'
  · rw [List.drop_zero, hl]; rfl
/-- the broker's numbers with the reference's shares beside -/
def mixT (ρ φ : fG2) : fG2 := fun g k => if g = 27 ∨ g = 28 then lyS ρ g k else φ g k
theorem mixT_cI (hi : iS ρ) (hB : okB ρ) (hBd : okB φ) (hZ : okZ ρ) (hW : okW1 ρ) (h4 : h40 ρ) (hS : okS ρ) (he : ∀ g k, g < 41 → φ g k = ρ g k) (e44 : ∀ k : Nat, (k : Int) < ρ 4 0 → φ 44 k = rsvS ρ k) (e45 : ∀ k : Nat, (k : Int) < ρ 4 0 → φ 45 k = dueS (lyS ρ) k) : eqC (lyS ρ) (mixT ρ φ) ∧ cI (mixT ρ φ) := by
  have hl := lyS_iS hi
  have e : eqC (lyS ρ) (mixT ρ φ) := by
    intro g k a b
    unfold mixT
    by_cases c : g = 27 ∨ g = 28
    · rw [if_pos c]
    · rw [if_neg c, he g k (by omega), lyS_ne (by omega) (by omega)]
  have ne : ∀ g k, g < 41 → g ≠ 27 → g ≠ 28 → mixT ρ φ g k = ρ g k := fun g k a b c => by unfold mixT; rw [if_neg (by omega), he g k a]
  have e4 : mixT ρ φ 4 0 = ρ 4 0 := ne 4 0 (by decide) (by decide) (by decide)
  have e12 : mixT ρ φ 12 0 = ρ 12 0 := ne 12 0 (by decide) (by decide) (by decide)
  have eZ : okZ (lyS ρ) := by
    unfold okZ; rw [lyS_K.kids]; simp only [lyS_ne (σ := ρ) (g := 22) (by decide) (by decide), lyS_ne (σ := ρ) (g := 23) (by decide) (by decide), lyS_ne (σ := ρ) (g := 4) (by decide) (by decide)]; exact hZ
  refine ⟨e, e.I hl.1, ?_, e.E hl.2.2, e.Z eZ, fun k hk => ?_, fun k hk => ?_, fun k hk => ?_, fun j hj hs => ?_⟩
  · intro g k
    unfold mixT
    split
    · exact lyS_B hi.1 hS hB g k
    · exact hBd g k
  · rw [ne 6 k (by decide) (by decide) (by decide)]; exact hW k (by omega)
  · have a : mixT ρ φ 44 k = φ 44 k := by unfold mixT; rw [if_neg (by omega)]
    rw [a, e44 k (by omega), e.K.rsv, lyS_K.rsv]
  · have a : mixT ρ φ 45 k = φ 45 k := by unfold mixT; rw [if_neg (by omega)]
    rw [a, e45 k (by omega), due_cong e.K e.e28]
  · rw [ne 17 j (by decide) (by decide) (by decide)] at hs
    rw [ne 40 j (by decide) (by decide) (by decide), ne 19 j (by decide) (by decide) (by decide)]
    exact h4 j (by omega) hs
theorem fairV_1 (h : fairS σ) : fairV σ = 1 := by unfold fairV; exact if_pos h
theorem fairV_0 (h : ¬ fairS σ) : fairV σ = 0 := by unfold fairV; exact if_neg h
theorem shL_B (h1 : 1 ≤ φ 4 0) (e4 : ψ 4 0 = φ 4 0) (e5 : ∀ k, ψ 5 k = φ 5 k) (e50 : φ 5 0 = -1) (e42 : ∀ k : Nat, (k : Int) < φ 4 0 → φ 42 k = ψ 28 k) (t : Nat) : shL φ t = shB ψ t := by
  unfold shL kdl shB nt1
  rw [e4]
  obtain ⟨N, hN⟩ : ∃ N : Nat, φ 4 0 = (N + 1 : Nat) := ⟨(φ 4 0).toNat - 1, by omega⟩
  rw [show (φ 4 0).toNat = N + 1 by omega, List.range_eq_range', lsm_filter, Nat.add_sub_cancel]
  simp only [fSum, Nat.zero_add]
  rw [if_neg (by rw [decide_eq_true_eq, e50]; omega), Int.zero_add]
  refine fSum_cong N 1 (fun i a b => ?_)
  unfold shF
  rw [e5 i]
  by_cases c : φ 5 i = (t : Int)
  · rw [if_pos (by rw [decide_eq_true_eq]; exact c), if_pos c, e42 i (by omega)]
  · rw [if_neg (by rw [decide_eq_true_eq]; exact c), if_neg c]
theorem cx_isFair (hi : iS ρ) (hZ : okZ ρ) (hW : okW1 ρ) (hS : okS ρ) (h : BB P F S x T J V L E ρ al ln vi n B) {post : Int32 → fMS → Nat → Prop}
    (hp : ∀ S' n', LB P F S' x ρ n' (B + 20) → post (iI (fairV ρ)) S' n') : wp_X3_isFair S n x post := by
  obtain ⟨q1, q2, q3, q4⟩ := hi.1.B4
  have hc := hi.1.c; have u0 := hi.1.U 0
  unfold wp_X3_isFair
  refine ⟨h.1.1.1, cx_dues hi.1 h.2.2.2.1 hi.2.2 hZ h.2.2.1 h.1 h.2.1 (fun S1 h1 hn1 hB1 => ⟨h1.1.1, ?_⟩)⟩
  refine fi_ok hi.1 h.2.2.2.1 hB1 (fun g k hg => duS_ne hg) (fun k hk => duS_41 hk) h1 hn1 (fun S2 h2 hn2 hB2 => ⟨h2.1.1, T 0, h2.xT, ?_, ?_⟩)
  · refine of_eq_true (h2.Tk 0 ?_)
    rw [fiS_ne (by decide) (by decide), duS_ne (by decide)]; omega
  obtain ⟨φ, hφ⟩ : ∃ φ, φ = fiS (duS ρ) := ⟨_, rfl⟩
  rw [← hφ] at h2 hB2
  have he : ∀ g k, g < 41 → φ g k = ρ g k := fun g k hg => by rw [hφ, fiS_ne (by omega) (by omega), duS_ne hg]
  have e4 := he 4 0 (by decide)
  have hb := h.re h2 hn2 he hB2
  have done : LB P F S2 x ρ n (B + 20) := hb.toE (k := 0) he (by omega)
  rw [h2.x7, h2.t6 0 (by omega), he 2 0 (by decide), he 10 0 (by decide)]
  have c1 : (iI (ρ 2 0) < iI (ρ 10 0)) = (ρ 2 0 < ρ 10 0) := iI_lt (by omega) (by omega) (by omega) (by omega)
  rw [c1]
  refine ⟨fun c => ?_, fun c => ?_⟩
  · have e := fairV_0 (σ := ρ) (fun z => by have := z.1; omega)
    rw [e] at hp; exact hp S2 n done
  have e42 : ∀ k : Nat, (k : Int) < φ 4 0 → φ 42 k = lyS ρ 28 k := fun k hk => by
    rw [hφ, fiS_ne (by decide) (by decide), duS_42 hi.1.T (by omega)]
  have e43 : ∀ k : Nat, (k : Int) < φ 4 0 → φ 43 k = lyS ρ 28 k := fun k hk => by
    rw [hφ, fiS_43 hi.1 hS hW (fun g k hg => duS_ne (by omega)) (fun k hk => duS_41 hk) (by omega)]
  have e44 : ∀ k : Nat, (k : Int) < ρ 4 0 → φ 44 k = rsvS ρ k := fun k hk => by
    rw [hφ, fiS_ne (by decide) (by decide), duS_44 hk]
  have e45 : ∀ k : Nat, (k : Int) < ρ 4 0 → φ 45 k = dueS (lyS ρ) k := fun k hk => by
    rw [hφ, fiS_ne (by decide) (by decide), duS_45 hi.1.T hk]
  have hlS := lyS_okS hi.1 hS
  have sb : ∀ t, 0 ≤ shB (lyS ρ) t ∧ shB (lyS ρ) t ≤ 200000 := by
    intro t
    have := fSum_bd (f := shF (lyS ρ) t) (c := 20000) (by omega) (nt1 (lyS ρ)) 1 (fun i _ _ => by unfold shF; have := hlS i; split <;> omega)
    have h3 : nt1 (lyS ρ) ≤ 9 := by unfold nt1; rw [lyS_ne (by decide) (by decide)]; omega
    unfold shB; omega
  refine cx_shFair (ψ := lyS ρ) (by omega) (by omega) h2 e42 e43 (fun k hk => shL_B (by omega) ?_ (fun k => ?_) ?_ e42 k) (fun k => ⟨(hlS k).2.2.1, (hlS k).2.2.2.1⟩) (fun t => sb t) (fun y => ⟨fun z => absurd z (by decide), fun _ => ?_⟩) (fun y => ⟨fun _ => ?_, fun z => absurd rfl z⟩)
  · rw [lyS_ne (by decide) (by decide), e4]
  · rw [lyS_ne (by decide) (by decide), he 5 k (by decide)]
  · rw [he 5 0 (by decide)]; exact hi.1.T.2.2.1
  · obtain ⟨em, hm⟩ := mixT_cI hi h.2.2.2.1 hB2 hZ hW h.2.2.2.2.1 hS he e44 e45
    have h3 : RB P F S2 x T J V L E (mixT ρ φ) al ln vi := h2.cg (fun g k _ _ _ _ a b _ _ _ _ => by unfold mixT; rw [if_neg (by omega)])
    have ha : al = alv (mixT ρ φ) := by
      rw [em.alv, h.2.2.1]; unfold alv; rw [lyS_ne (by decide) (by decide)]
      refine List.filter_congr (fun i _ => ?_)
      rw [lyS_ne (by decide) (by decide)]
    have fin : ∀ (S' : fMS) (n' : Nat) (E' : Nat → Nat) (ln' vi' : List Nat), RB P F S' x T J V L E' (mixT ρ φ) al ln' vi' → rmB S' E' n' B → LB P F S' x ρ n' (B + 20) := by
      intro S' n' E' ln' vi' h' hn'
      have h4 : RB P F S' x T J V L E' φ al ln' vi' := h'.cg (fun g k _ _ _ _ a b _ _ _ _ => by unfold mixT; rw [if_neg (by omega)])
      exact (h.re h4 hn' he hB2).toE (k := 0) he (by omega)
    have hnx : nxS (mixT ρ φ) = nxS (lyS ρ) := em.nx
    refine cx_some hm ha h3 hn2 (fun z S' n' E' ln' vi' h' hn' => ⟨fun w => absurd rfl w, fun _ => ?_⟩) (fun z S' n' E' ln' vi' h' hn' => ⟨fun _ => ?_, fun w => absurd w (by decide)⟩)
    · have e := fairV_1 (σ := ρ) ⟨by omega, hnx.symm.trans z, fun t ht => y t (by omega)⟩
      rw [e] at hp; exact hp S' n' (fin S' n' E' ln' vi' h' hn')
    · have e := fairV_0 (σ := ρ) (fun w => z (hnx.trans w.2.1))
      rw [e] at hp; exact hp S' n' (fin S' n' E' ln' vi' h' hn')
  · have e := fairV_0 (σ := ρ) (fun w => y (fun t ht => w.2.2 t (by omega)))
    rw [e] at hp; exact hp S2 n done
end
