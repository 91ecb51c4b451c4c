section
variable {F S : fMS} {m n : Nat} {A : Nat → Nat} {σ τ ρ : fG2}
theorem lvF_ne {j : Nat} {st : Int} {g k : Nat} (h1 : g ≠ 10) (h2 : g ≠ 11) (h3 : g ≠ 17) (h4 : g ≠ 21) : lvF σ j st g k = σ g k := by
  unfold lvF; rw [up_ne h4, up_ne h3]; split
  · exact adL_ne h1
  · exact up_ne h2
theorem eqC.lv (h : eqC σ τ) (j : Nat) (st : Int) : eqC (lvF σ j st) (lvF τ j st) := by
  unfold lvF
  rw [h 17 _ (by decide) (by decide), h 13 _ (by decide) (by decide), h 14 _ (by decide) (by decide), h 11 _ (by decide) (by decide), h 21 _ (by decide) (by decide)]
  refine eqC.up (eqC.up ?_)
  split
  · exact h.rm _ _
  · exact h.up
theorem rf_cancel {c : Int} (hi : iS σ) (hB : okB σ) (hS : okS σ) (hC : okC c σ) (hc : c + 2000 < 100000000) (h : RM F S m A σ) {j : Int} (hj : i32 j) {post : Int32 → fMS → Nat → Prop}
    (hn : cdLive σ j = 0 → iS (lvF σ j.toNat 3)) (p0 : cdLive σ j = 0 → rP F m n A (svS (lvF σ j.toNat 3)) 0 (if σ 17 j.toNat = 1 then σ 14 j.toNat else 0) post) (p1 : cdLive σ j ≠ 0 → rP F m n A σ (cdLive σ j) 0 post) : wp_X4_cancel S n m (iI j) post := by
  obtain ⟨q1, q2, q3, q4⟩ := hi.1.B4
  unfold wp_X4_cancel
  rw [h.mm, true_and]
  refine sp_live h hi.1.J hB hj ?_
  by_cases e : cdLive σ j = 0
  · rw [e]
    have c1 : 0 ≤ j ∧ j < σ 12 0 := by
      unfold cdLive at e; split at e
      · assumption
      · exact absurd e (by decide)
    obtain ⟨k, rfl⟩ : ∃ k : Nat, j = k := ⟨j.toNat, by omega⟩
    refine sp_go0 h (fun S' h' => ⟨fun _ => ?_, fun z => absurd z (by decide)⟩)
    have hT' := hi.1.T.up (f := 0) (j := 0) (v := 0) (by decide) (by decide)
    have he0 : eqC σ (up σ 0 0 0) := eqC.up0 (Or.inr rfl)
    have hiτ := he0.iS hi
    have hBτ : okB (up σ 0 0 0) := hB.w (by omega)
    have b17 := hB 17 k
    have e17 : up σ 0 0 0 17 k = σ 17 k := up_ne (by decide)
    have e14 : up σ 0 0 0 14 k = σ 14 k := up_ne (by decide)
    have e12 : up σ 0 0 0 12 0 = σ 12 0 := up_ne (by decide)
    have fin : ∀ y : Int, y = (if σ 17 k = 1 then σ 14 k else 0) → wB_X4_cancel_34 post m (iI k) S' n (iI y) := by
      intro y hy
      unfold wB_X4_cancel_34
      rw [h'.mm, true_and]
      have hn' := hn e
      simp only [Int.toNat_natCast] at hn' p0
      refine sp_leaves (st := 3) hT' hiτ.1.J hBτ h' (by rw [e12]; exact c1.2) (fun S2 h2 => ⟨h2.m, ?_⟩)
      have hel := he0.lv k 3
      have hiL := (hel.iS hn').1
      have a21 := hi.1.a; have b21 := hB 21 0
      have hBL : okB (lvF (up σ 0 0 0) k 3) := by
        intro g i
        by_cases g1 : g = 10
        · subst g1; have := hiL.U i; omega
        · by_cases g2 : g = 11
          · subst g2; have := hiL.L.2 i; omega
          · by_cases g3 : g = 17
            · subst g3; unfold lvF; rw [up_ne (by decide)]
              have bb := hBτ 17 i
              by_cases g5 : i = k
              · subst g5; rw [up_at]; omega
              · rw [up_nj g5]; split
                · unfold rmS; rw [adL_ne (by decide)]; exact bb
                · rw [up_ne (by decide)]; exact bb
            · by_cases g4 : g = 21
              · subst g4
                by_cases g5 : i = 0
                · subst g5; have := hiL.a; have h3 := hiL.t.2.2
                  have h4 := fSum_nn (f := alF (lvF (up σ 0 0 0) k 3)) (njN (lvF (up σ 0 0 0) k 3)) 0 (fun x _ _ => by unfold alF; split <;> omega)
                  omega
                · unfold lvF; rw [up_nj g5, up_ne (by decide)]; split
                  · unfold rmS; rw [adL_ne (by decide)]; exact hBτ 21 i
                  · rw [up_ne (by decide)]; exact hBτ 21 i
              · rw [lvF_ne g1 g2 g3 g4]; exact hBτ g i
      have hSL : okS (lvF (up σ 0 0 0) k 3) := by
        have := hS.u0 (f := 0) (j := 0) (v := 0) (by decide) (by decide) (by decide)
        unfold okS; simp only [lvF_ne (σ := up σ 0 0 0) (g := 27) (by decide) (by decide) (by decide) (by decide), lvF_ne (σ := up σ 0 0 0) (g := 28) (by decide) (by decide) (by decide) (by decide), lvF_ne (σ := up σ 0 0 0) (g := 6) (by decide) (by decide) (by decide) (by decide)]; exact this
      have hCL : okC c (lvF σ k 3) := by
        unfold okC; simp only [lvF_ne (σ := σ) (g := 20) (by decide) (by decide) (by decide) (by decide), lvF_ne (σ := σ) (g := 18) (by decide) (by decide) (by decide) (by decide)]; exact hC
      rw [hy]
      exact rP_srv h2 hel (by rw [lvF_ne (by decide) (by decide) (by decide) (by decide), up_at]) hn' hBL hSL hCL hc (fun S3 τ g1 g2 g3 g4 g5 => p0 e S3 τ g1 g2 g3 g4 g5)
    simp (disch := first | decide | omega) only [h'.mm, h'.R, h'.Nj, h'.kI, h'.aJ, iI_0, iI_1, iI_in, iI_nat, iI_eq, true_and, Option.some.injEq, exists_eq_left', Int.toNat_natCast, e17, e14]
    refine ⟨by omega, fun c2 => fin 0 (if_neg c2).symm, fun c2 => ⟨by omega, fin _ (if_pos c2).symm⟩⟩
  · have b : 0 < cdLive σ j ∧ cdLive σ j ≤ 100 := by
      unfold cdLive at e ⊢; split
      · split
        · rename_i z1 z2; rw [if_pos z1, if_pos z2] at e; exact absurd rfl e
        · omega
      · omega
    exact sp_go1 h b (fun S' h' => ⟨fun z => absurd rfl z, fun _ => (p1 e).no hB hS b h'⟩)
def stV (s : Int) : Int := if s = 0 then 119 else if s = 1 then 114 else if s = 2 then 101 else 99
theorem rf_stateOf (hJ : okJ σ) (hB : okB σ) (hS : okS σ) (h : RM F S m A σ) {j : Int} (hj : i32 j) {post : Int32 → fMS → Nat → Prop}
    (p0 : cdJob σ j = 0 → rP F m n A σ 0 (stV (σ 17 j.toNat)) post) (p1 : cdJob σ j ≠ 0 → rP F m n A σ (cdJob σ j) 0 post) : wp_X4_stateOf S n m (iI j) post := by
  have q1 := hJ.1; have q2 := hJ.2.1
  unfold wp_X4_stateOf
  rw [h.mm, true_and]
  refine sp_isJob2 h hJ hj (fun c1 => ?_) (fun c1 => ?_)
  · have e : cdJob σ j = 0 := if_pos c1
    simp only [iI_10, not_false_eq_true, true_implies, false_implies, and_true, true_and]
    obtain ⟨k, rfl⟩ : ∃ k : Nat, j = k := ⟨j.toNat, by omega⟩
    have b17 := hB 17 k
    have p0 := p0 e
    simp only [Int.toNat_natCast] at p0
    unfold wB_X4_stateOf_14
    simp only [Option.some.injEq, exists_eq_left', h.mm, true_and]
    refine sp_go0 h (fun S' h' => ⟨fun _ => ?_, fun z => absurd z (by decide)⟩)
    have e17 : up σ 0 0 0 17 k = σ 17 k := up_ne (by decide)
    have p0 := p0.yes hB hS h'
    unfold stV at p0
    simp (disch := first | decide | omega) only [h'.mm, h'.R, h'.Nj, h'.kI, h'.aJ, iI_0, iI_1, iI_2, iI_in, iI_nat, iI_eq, true_and, Option.some.injEq, exists_eq_left', Int.toNat_natCast, e17]
    refine ⟨by omega, fun c2 => ⟨by omega, fun c3 => ⟨by omega, fun c4 => ?_, fun c4 => ?_⟩, fun c3 => ?_⟩, fun c2 => ?_⟩
    · rw [if_neg c2, if_neg c3, if_neg c4] at p0; exact p0
    · rw [if_neg c2, if_neg c3, if_pos c4] at p0; exact p0
    · rw [if_neg c2, if_pos c3] at p0; exact p0
    · rw [if_pos c2] at p0; exact p0
  · have e : cdJob σ j = 1 := if_neg c1
    rw [e] at p1
    simp only [iI_00, not_true_eq_false, true_implies, false_implies, and_true]
    unfold wB_X4_stateOf_14
    simp only [Option.some.injEq, exists_eq_left', h.mm, true_and]
    exact sp_go1 (c := 1) h (by omega) (fun S' h' => ⟨fun z => absurd rfl z, fun _ => (p1 (by omega)).no hB hS (by omega) h'⟩)
theorem rf_toGo (hJ : okJ σ) (hB : okB σ) (hS : okS σ) (h : RM F S m A σ) {j : Int} (hj : i32 j) {post : Int32 → fMS → Nat → Prop}
    (p0 : cdLive σ j = 0 → rP F m n A σ 0 (if σ 17 j.toNat = 0 then σ 15 j.toNat else σ 16 j.toNat) post) (p1 : cdLive σ j ≠ 0 → rP F m n A σ (cdLive σ j) 0 post) : wp_X4_toGo S n m (iI j) post := by
  have q1 := hJ.1; have q2 := hJ.2.1
  unfold wp_X4_toGo
  rw [h.mm, true_and]
  refine sp_live h hJ hB hj ?_
  by_cases e : cdLive σ j = 0
  · rw [e]
    have c1 : 0 ≤ j ∧ j < σ 12 0 := by
      unfold cdLive at e; split at e
      · assumption
      · exact absurd e (by decide)
    obtain ⟨k, rfl⟩ : ∃ k : Nat, j = k := ⟨j.toNat, by omega⟩
    have b17 := hB 17 k
    have p0 := p0 e
    simp only [Int.toNat_natCast] at p0
    refine sp_go0 h (fun S' h' => ⟨fun z => absurd z (by decide), fun _ => ?_⟩)
    have e17 : up σ 0 0 0 17 k = σ 17 k := up_ne (by decide)
    have e16 : up σ 0 0 0 16 k = σ 16 k := up_ne (by decide)
    have e15 : up σ 0 0 0 15 k = σ 15 k := up_ne (by decide)
    have p0 := p0.yes hB hS h'
    simp (disch := first | decide | omega) only [h'.mm, h'.R, h'.Nj, h'.kI, h'.aJ, iI_0, iI_in, iI_nat, iI_eq, true_and, Option.some.injEq, exists_eq_left', Int.toNat_natCast, e17, e16, e15]
    refine ⟨by omega, fun c2 => ⟨by omega, ?_⟩, fun c2 => ⟨by omega, ?_⟩⟩
    · rw [if_neg c2] at p0; exact p0
    · rw [if_pos c2] at p0; exact p0
  · have b : 0 < cdLive σ j ∧ cdLive σ j ≤ 100 := by
      unfold cdLive at e ⊢; split
      · split
        · rename_i z1 z2; rw [if_pos z1, if_pos z2] at e; exact absurd rfl e
        · omega
      · omega
    exact sp_go1 h b (fun S' h' => ⟨fun _ => (p1 e).no hB hS b h', fun z => absurd rfl z⟩)
theorem rf_stops (hJ : okJ σ) (hB : okB σ) (hS : okS σ) (h : RM F S m A σ) {j : Int} (hj : i32 j) {post : Int32 → fMS → Nat → Prop}
    (p0 : cdJob σ j = 0 → rP F m n A σ 0 (σ 18 j.toNat) post) (p1 : cdJob σ j ≠ 0 → rP F m n A σ (cdJob σ j) 0 post) : wp_X4_stops S n m (iI j) post := by
  have q1 := hJ.1; have q2 := hJ.2.1
  unfold wp_X4_stops
  rw [h.mm, true_and]
  refine sp_isJob2 h hJ hj (fun c1 => ?_) (fun c1 => ?_)
  · have e : cdJob σ j = 0 := if_pos c1
    simp only [iI_10, not_false_eq_true, true_implies, false_implies, and_true, true_and]
    obtain ⟨k, rfl⟩ : ∃ k : Nat, j = k := ⟨j.toNat, by omega⟩
    have p0 := p0 e
    simp only [Int.toNat_natCast] at p0
    unfold wB_X4_stops_14
    simp only [Option.some.injEq, exists_eq_left', h.mm, true_and]
    refine sp_go0 h (fun S' h' => ⟨fun z => absurd z (by decide), fun _ => ?_⟩)
    have e18 : up σ 0 0 0 18 k = σ 18 k := up_ne (by decide)
    have p0 := p0.yes hB hS h'
    simp (disch := first | decide | omega) only [h'.mm, h'.R, h'.Nj, h'.kI, h'.aJ, iI_in, iI_nat, true_and, Option.some.injEq, exists_eq_left', Int.toNat_natCast, e18]
    exact ⟨by omega, p0⟩
  · have e : cdJob σ j = 1 := if_neg c1
    rw [e] at p1
    simp only [iI_00, not_true_eq_false, true_implies, false_implies, and_true]
    unfold wB_X4_stops_14
    simp only [Option.some.injEq, exists_eq_left', h.mm, true_and]
    exact sp_go1 (c := 1) h (by omega) (fun S' h' => ⟨fun _ => (p1 (by omega)).no hB hS (by omega) h', fun z => absurd rfl z⟩)
end
