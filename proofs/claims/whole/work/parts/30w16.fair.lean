-- ===== the broker's calls: the line, the quotients, isFair =====
section
variable {P : Nat → Prop} {F S S' : fMS} {x n B out : Nat} {T J V L E E' : Nat → Nat} {ρ ρ' σ τ φ ψ : fG2} {al ln vi ln' vi' : List Nat}
theorem xl_inLine {p : Int} (hi : inv ρ) (hE : okE ρ) (hW : okW1 ρ) (h : BB P S S x T J V L E ρ al ln vi n B) (hO : oK P S out 12) (ht : i32 p) {post : Int32 → fMS → Nat → Prop}
    (hp : xP P S x B out ρ ρ (cdLn ρ p) (Int32.toInt64 (iI ((lnS ρ).getD p.toNat 0 : Nat))) post) : wp_L_inLine S n (some x) (iI p) (some out) post := by
  obtain ⟨q1, q2, q3, q4⟩ := hi.B4
  have p1 := ht.1; have p2 := ht.2
  unfold wp_L_inLine wp_X3_inLine
  refine ⟨x, rfl, h.1.1.1, h.1.1.1, cx_formLine hi h.2.2.2.1 hE hW h.2.2.1 h.1 h.2.1 (fun S1 n1 E1 h1 hn1 => ?_)⟩
  have hb : BB P S S1 x T J V L E1 ρ al (jlS ρ) vi n1 B := h.re h1 hn1 (fun _ _ _ => rfl) h.2.2.2.1
  have hr := hb.r
  have len : (jlS ρ).length = (lnS ρ).length := List.length_map _
  have mx := h1.l.mx (vid5 (n := ρ 4 0))
  have mx2 : (lnS ρ).length ≤ 40 := by rw [← len]; simpa [cnt, lmx] using mx
  have e1 : (iI p < (0 : Int32)) = (p < 0) := iI_lt (b := 0) (by omega) (by omega) (by omega) (by omega)
  rw [e1]
  have X : ¬ (0 ≤ p ∧ p < ((lnS ρ).length : Int)) → post (iI 1) S1 (n1 + 7) := by
    intro c
    have e : cdLn ρ p = 1 := if_neg c
    have := hp.2 (by rw [e]; decide) S1 (n1 + 7) (hb.toL (by omega))
    rw [e] at this; exact this
  refine ⟨fun c => ⟨by omega, rfl, fun _ => X (by omega)⟩, fun c => ⟨h1.1.1, L 5, h1.x5, of_eq_true h1.k5, ?_⟩⟩
  rw [h1.s5, len]
  have e2 : (iI p < iI ((lnS ρ).length : Nat)) = (p < ((lnS ρ).length : Int)) := iI_lt (by omega) (by omega) (by omega) (by omega)
  rw [e2]
  refine ⟨fun d => ?_, fun d => ⟨by omega, rfl, fun _ => X (by omega)⟩⟩
  obtain ⟨k, rfl⟩ : ∃ k : Nat, p = k := ⟨p.toNat, by omega⟩
  have hk : k < (lnS ρ).length := by omega
  have hp := hp.1 (if_pos (by omega))
  rw [Int.toNat_natCast] at hp
  rw [h1.g5 k (by rw [len]; exact hk)]
  obtain ⟨t, htt⟩ : ∃ t, t = (lnS ρ).getD k 0 := ⟨_, rfl⟩
  have htm : t ∈ lnS ρ := by rw [htt, List.getD_eq_getElem?_getD, List.getElem?_eq_getElem hk]; exact List.getElem_mem _
  have hg : (jlS ρ).getD k 0 = fjS ρ t := by
    rw [htt]; unfold jlS; simp [List.getD_eq_getElem?_getD, List.getElem?_eq_getElem hk]
  have ht3 := lnS_mem hi.T htm
  obtain ⟨j, j1, j2, j3, j4⟩ := fstS_ok hi.J t ht3.2.2
  have ej : fjS ρ t = j := by unfold fjS; rw [j1]; rfl
  rw [hg, ej]
  rw [← htt] at hp
  refine ⟨J j, rfl, of_eq_true (h1.Jk j j2), T t, ?_, of_eq_true (h1.Tk t ht3.1), ?_⟩
  · rw [h1.jl j j2, j3, Int.toNat_natCast]
  · rw [h1.t0 t ht3.1]
    exact wr_end (hb.toL (k := 0) (by omega)) hO (hp _ _ (hb.toL (k := 0) (by omega)))
theorem xl_usedShare (hi : inv ρ) (h : BB P S S x T J V L E ρ al ln vi n B) (hO : oK P S out 15) {post : Int32 → fMS → Nat → Prop}
    (hp : xP P S x B out ρ ρ (cdUsed ρ) (UInt64.toInt64 (FP.f2d (usedV ρ))) post) : wp_L_usedShare S n (some x) (some out) post := by
  have hr := h.r
  have X := hp.no h
  have c := hi.c
  obtain ⟨q1, q2, q3, q4⟩ := hi.B4
  unfold wp_L_usedShare wp_X3_usedShare
  refine ⟨x, rfl, h.1.1.1, h.1.1.1, ?_⟩
  rw [h.1.x7]
  have e1 : (iI (ρ 2 0) = (0 : Int32)) = (ρ 2 0 = 0) := iI_eq (b := 0) (by omega) (by omega) (by omega) (by omega)
  rw [e1]
  refine ⟨fun d => ⟨T 0, h.1.xT, of_eq_true (h.1.Tk 0 (by omega)), ?_⟩, fun d => ⟨by omega, rfl, fun _ => X 1 (if_pos d) (by decide)⟩⟩
  rw [h.1.t6 0 (by omega)]
  have e : cdUsed ρ = 0 := if_neg d
  have un := used_n hi e
  exact ⟨un, f2d_n un, wr_end (h.toL (k := 0) (by omega)) hO (hp.1 e S n (h.toL (k := 0) (by omega)))⟩
theorem xl_meanStops (hi : inv ρ) (h : BB P S S x T J V L E ρ al ln vi n B) (hO : oK P S out 15) {post : Int32 → fMS → Nat → Prop}
    (hp : xP P S x B out ρ ρ (cdMean ρ) (UInt64.toInt64 (meanV ρ)) post) : wp_L_meanStops S n (some x) (some out) post := by
  have hr := h.r
  have X := hp.no h
  have q1 := hi.J.1; have q2 := hi.J.2.1
  have mb := mn_b hi.J
  unfold wp_L_meanStops wp_X3_meanStops
  refine ⟨x, rfl, h.1.1.1, ?_⟩
  have key : ∀ (d j : Nat) (u y : Int), (j + d : Int) = ρ 12 0 → 0 ≤ y → y ≤ j → u + fSum (msF ρ) j d = msS ρ → y + fSum (mnF ρ) j d = mnS ρ → wB_X3_meanStops_6 S n (fun w4 => ∃ a5 : Nat, some out = some a5 ∧ isA S 15 a5 ∧ vp_in (0 : Int32) (sN S a5) ∧ post (0 : Int32) (wJ S a5 (Int32.toNatClampNeg (0 : Int32)) (UInt64.toInt64 w4)) n) (fun X9 S10 n11 => (X9 = "java/lang/ArithmeticException" ∧ ∀ q12 : Nat, post (1 : Int32) S10 n11)) x (d + 1) (iI y) (iI u) (iI j) := by
    intro d; induction d with
    | zero =>
      intro j u y hj y0 y1 hx hy
      simp only [fSum, Int.add_zero] at hx hy
      rw [wB_X3_meanStops_6]
      refine ⟨h.1.1.1, L 2, h.1.x2, of_eq_true h.1.k2, ?_⟩
      rw [h.1.s2 q1]
      have e1 : (iI (ρ 12 0) ≤ iI j) = (ρ 12 0 ≤ j) := iI_le (by omega) (by omega) (by omega) (by omega)
      have e2 : (iI y = (0 : Int32)) = (y = 0) := iI_eq (b := 0) (by omega) (by omega) (by omega) (by omega)
      rw [e1, e2]
      refine ⟨fun _ => ⟨fun z => ?_, fun z => ?_⟩, fun c => absurd c (by omega)⟩
      · have e : cdMean ρ = 0 := if_neg (by omega)
        rw [hx, hy]
        exact ⟨mean_n hi.J e, wr_end (h.toL (k := 0) (by omega)) hO (hp.1 e S n (h.toL (k := 0) (by omega)))⟩
      · exact ⟨by omega, rfl, fun _ => X 1 (if_pos (by omega)) (by decide)⟩
    | succ d ih =>
      intro j u y hj y0 y1 hx hy
      have jn : (j : Int) < ρ 12 0 := by omega
      have sb := stV_b (ρ 17 j)
      simp only [fSum] at hx hy
      have go : ∀ w v : Int, w = msF ρ j → v = mnF ρ j → wB_X3_meanStops_6 S n (fun w4 => ∃ a5 : Nat, some out = some a5 ∧ isA S 15 a5 ∧ vp_in (0 : Int32) (sN S a5) ∧ post (0 : Int32) (wJ S a5 (Int32.toNatClampNeg (0 : Int32)) (UInt64.toInt64 w4)) n) (fun X9 S10 n11 => (X9 = "java/lang/ArithmeticException" ∧ ∀ q12 : Nat, post (1 : Int32) S10 n11)) x (d + 1) (iI (y + v)) (iI (u + w)) (iI ((j : Int) + 1)) := by
        intro w v hu hv
        have bv : 0 ≤ v ∧ v ≤ 1 := by rw [hv]; unfold mnF; split <;> omega
        exact ih (j + 1) (u + w) (y + v) (by omega) (by omega) (by omega) (by omega) (by omega)
      rw [wB_X3_meanStops_6]
      refine ⟨h.1.1.1, L 2, h.1.x2, of_eq_true h.1.k2, ?_⟩
      rw [h.1.s2 q1]
      have e1 : (iI (ρ 12 0) ≤ iI j) = (ρ 12 0 ≤ j) := iI_le (by omega) (by omega) (by omega) (by omega)
      rw [e1]
      refine ⟨fun c => absurd c (by omega), fun _ => ?_⟩
      rw [h.1.g2 j jn]
      refine ⟨J j, rfl, of_eq_true (h.1.Jk j jn), ?_⟩
      rw [h.1.j4 j jn, h.1.j6 j jn]
      have e3 : (iI (stV (ρ 17 j)) = (101 : Int32)) = (ρ 17 j = 2) := by
        rw [show (101 : Int32) = iI 101 from rfl, iI_eq (by omega) (by omega) (by omega) (by omega)]
        exact propext stV_e
      rw [e3]
      refine ⟨fun c => ?_, fun c => ?_⟩
      · rintro _ rfl
        have := go 0 0 (if_neg c).symm (if_neg c).symm
        rw [Int.add_zero, Int.add_zero] at this
        have e9 : iI (j : Int) + 1 = iI ((j : Int) + 1) := iI_add j 1
        rw [e9]
        exact this
      · rintro _ rfl _ rfl _ rfl
        have e9 : iI (j : Int) + 1 = iI ((j : Int) + 1) := iI_add j 1
        have e8 : iI y + 1 = iI (y + 1) := iI_add y 1
        rw [e9, e8, iI_add]
        exact go _ 1 (if_pos c).symm (if_pos c).symm
  exact ⟨_, key (ρ 12 0).toNat 0 0 0 (by omega) (by omega) (by omega) (by unfold msS; omega) (by unfold mnS; omega)⟩
theorem cx_shFair (h1 : 1 ≤ φ 4 0) (h4 : φ 4 0 ≤ 10) (h : RB P F S x T J V L E φ al ln vi) (e42 : ∀ k : Nat, (k : Int) < φ 4 0 → φ 42 k = ψ 28 k) (e43 : ∀ k : Nat, (k : Int) < φ 4 0 → φ 43 k = ψ 28 k) (eL : ∀ k : Nat, (k : Int) < φ 4 0 → shL φ k = shB ψ k)
    (b1 : ∀ k, 0 ≤ ψ 28 k ∧ ψ 28 k ≤ 20000) (b2 : ∀ t, 0 ≤ shB ψ t ∧ shB ψ t ≤ 200000) {post : Int32 → Prop} (p1 : (∀ t : Nat, (t : Int) < φ 4 0 → shB ψ t ≤ ψ 28 t) → post (iI 1)) (p0 : ¬ (∀ t : Nat, (t : Int) < φ 4 0 → shB ψ t ≤ ψ 28 t) → post (iI 0)) : wp_X3_sharesAreFair S x post := by
  have key : ∀ (d t : Nat), (t + d : Int) = φ 4 0 → (∀ i : Nat, i < t → shB ψ i ≤ ψ 28 i) → wB_X3_sharesAreFair_2 S post x (d + 1) (iI t) := by
    intro d; induction d with
    | zero =>
      intro t ht hx
      simp only [wB_X3_sharesAreFair_2]
      simp (disch := omega) only [h.X, h.x0, Option.some.injEq, exists_eq_left', h.k0, true_and, h.s0 (by omega), iI_le]
      exact ⟨fun _ => p1 (fun i hi => hx i (by omega)), fun c => absurd c (by omega)⟩
    | succ d ih =>
      intro t ht hx
      have tn : (t : Int) < φ 4 0 := by omega
      have c1 := b1 t; have c2 := b2 t
      rw [wB_X3_sharesAreFair_2]
      simp (disch := omega) only [h.X, h.x0, Option.some.injEq, exists_eq_left', h.k0, true_and, h.s0 (by omega), iI_le]
      refine ⟨fun c => absurd c (by omega), fun _ => ?_⟩
      rw [h.g0 t tn]
      simp only [Option.some.injEq, exists_eq_left', h.Tk t tn, true_and, h.t9 t tn, h.t10 t tn, e42 t tn, e43 t tn]
      refine ⟨fun c => absurd trivial c, fun _ => cx_sharesOf h4 h tn ?_⟩
      rw [eL t tn, iI_1, iI_add]
      simp (disch := omega) only [iI_le]
      refine ⟨?_, fun c => p0 (fun z => c (z t tn))⟩
      rintro c _ rfl
      refine ih (t + 1) (by omega) (fun i hi => ?_)
      by_cases e : i = t
      · rw [e]; exact c
      · exact hx i (by omega)
  exact ⟨_, key (φ 4 0).toNat 0 (by omega) (fun i hi => absurd hi (by omega))⟩
end
