-- ===== both answer alike: the other calls =====
section
variable {F S : fMS} {x m n B o1 o2 : Nat} {A : Nat → Nat} {θ : fG2} {i : Int} {K : fMS → Nat → Prop}
theorem xl_pass {P : Nat → Prop} {T J V L E : Nat → Nat} {ρ : fG2} {al ln vi : List Nat} {out : Nat} {c w : Int} (Kk : K1 c ρ) (hc : c + 100000 < 100000000) (hq : ρ 1 0 + 20 < 20000) (h : BB P S S x T J V L E ρ al ln vi n B) (hO : oK P S out 12) (hw : i32 w) {post : Int32 → fMS → Nat → Prop}
    (hp : xP P S x B out (psF w.toNat ρ) ρ (cdPass w) (Int32.toInt64 (iI (psN w.toNat ρ))) post) : wp_L_pass S n (some x) (iI w) (some out) post := by
  have X := hp.no h
  unfold wp_L_pass
  refine ⟨x, rfl, h.1.1.1, cx_pass Kk hc hq h hw (fun c => ⟨rfl, fun _ => X 1 (if_neg c) (by decide)⟩) (fun w1 w2 S' n' hL => wr_end hL hO (hp.1 (if_pos ⟨w1, w2⟩) S' n' hL))⟩
theorem lo_pass {v1 : Int32} (hJ : JB x m o1 o2 A θ S n B) (hM : MI i θ) (hi : 0 ≤ i ∧ i < 512) (hb : B + 20 ≤ 20000) (hK : ∀ S n θ', JB x m o1 o2 A θ' S n (B + 20) → MI (i + 1) θ' → K S n) {Q : Int32 → fMS → Nat → Prop}
    (hQ : ∀ v7 S8 n9, isA S8 5 m → wp_X4_pass S8 n9 m v1 (fun v15 S16 n17 => lgE K m o1 v7 (Int32.toInt64 v15) S16 n17) → Q v7 S8 n9) : wp_L_pass S n (some x) v1 (some o1) Q := by
  obtain ⟨w, e1, hw⟩ : ∃ w, v1 = iI w ∧ i32 w := ⟨v1.toInt, iI_of v1, i32_of v1⟩
  subst e1
  have hB := hJ.bd
  obtain ⟨⟨q1, q2, q3, q4, q5, q6, q7, q8⟩, qc⟩ := hM.r hi
  have qt := hM.2.2.2
  have cw : cdPass w = 0 → 1 ≤ w ∧ w ≤ 20 := fun hc => by
    unfold cdPass at hc
    split at hc
    · assumption
    · exact absurd hc (by decide)
  refine lw_gen (i := i) (cd := cdPass w) (v := psN w.toNat θ) (σ' := psF w.toNat θ) (σ2 := psF w.toNat θ) (σ1 := θ) (z := Int32.toInt64 (iI (psN w.toNat θ))) (WL := fun post => wp_L_pass S n (some x) (iI w) (some o1) post) (WR := fun S n post => wp_X4_pass S n m (iI w) post) hJ hb
    (fun T J V L E al ln vi h hO post hx => xl_pass (hM.r hi).1 qc (by omega) h hO hw hx)
    (fun F S n h post p0 p1 => rf_pass q1 hB q4 q5 qc q6 q7 (by omega) h hw p0 p1)
    (fun _ _ _ _ _ => rfl) (fun _ _ _ _ => rfl) (fun hc => MI_ps hM (cw hc)) (MI_s hM) (fun _ => rfl) ?_ hK hQ
  unfold cdPass
  repeat (first | omega | split)
theorem lo_use {v1 : Int32} (hJ : JB x m o1 o2 A θ S n B) (hM : MI i θ) (hi : 0 ≤ i ∧ i < 512) (hb : B + 20 ≤ 20000) (hK : ∀ S n θ', JB x m o1 o2 A θ' S n (B + 20) → MI (i + 1) θ' → K S n) {Q : Int32 → fMS → Nat → Prop}
    (hQ : ∀ v7 S8 n9, isA S8 5 m → wp_X4_use S8 n9 m v1 (fun v15 S16 n17 => lgE K m o1 v7 v15 S16 n17) → Q v7 S8 n9) : wp_L_use S n (some x) v1 (some o1) Q := by
  obtain ⟨p, e1, hp⟩ : ∃ p, v1 = iI p ∧ i32 p := ⟨v1.toInt, iI_of v1, i32_of v1⟩
  subst e1
  have hB := hJ.bd
  obtain ⟨⟨q1, q2, q3, q4, q5, q6, q7, q8⟩, qc⟩ := hM.r hi
  obtain ⟨T, J, V, L, E, al, ln, vi, a1, a2, a3, a4, a5, a6, a7, a8, a9⟩ := hJ
  have cb : 0 ≤ cdLeaf θ p ∧ cdLeaf θ p ≤ 100 := by
    unfold cdLeaf
    repeat (first | omega | split)
  obtain ⟨cd, hcd⟩ : ∃ cd, cd = cdLeaf θ p := ⟨_, rfl⟩
  obtain ⟨z, hz⟩ : ∃ z, z = jJ (θ 8 p.toNat) := ⟨_, rfl⟩
  refine xl_use q1.1.T ⟨a1, a2, a3, a4, a5, hb⟩ a7 hp ?_
  rw [← hcd, ← hz]
  rw [← hcd] at cb
  refine ⟨fun hc S' n' hL => ?_, fun hc S' n' hL => ?_⟩
  · have hM' := a6.br hL
    have w1 := hL.out a7
    have hM1 := hM'.wo (z := z) a9
    refine hQ (iI 0) _ n' hM1.m (rf_use q1.1 hB q4 hM1 hp (fun _ S2 τ h1 h2 h3 h4 h5 => ?_) (fun y => absurd (hcd.symm.trans hc) y))
    · skip
      have hk : frK S' (wJ S' o1 0 z) := frK.wJ (Or.inl w1.1.2)
      obtain ⟨θ', j1, j2⟩ := JB.join a7 a8 a9 hL hk h1 h3 h4 (fun _ _ _ _ => rfl)
      have go : K S2 n' := hK S2 n' θ' j1 (j2.MI (MI_s hM))
      have hs : sJ S2 o1 0 = z := out_kept h1 (Or.inl w1.1.2) a9
      have k12 : isA S2 12 o1 := (frK.fX h1).a (hk.a w1.1)
      have kN : sN S2 o1 = 1 := by rw [(frK.fX h1).2.2.1, hk.2.2.1]; exact w1.2
      refine ⟨h1.m, rf_thrown h1 ?_⟩
      rw [h2]
      refine ⟨fun _ => ⟨fun c => absurd rfl c, fun _ => ⟨o1, rfl, k12, ?_, fun _ => go, fun c => ?_⟩⟩, fun c => absurd rfl c⟩
      · rw [kN]; exact (iI_in (a := 0) (by omega) (by omega)).mpr ⟨by omega, by omega⟩
      · refine c ?_
        show lg_cmp (sJ S2 o1 0) _ = 0
        rw [hs, hz]; exact lg_self _
  · have hM' := a6.br hL
    refine hQ (iI cd) S' n' hM'.m (rf_use q1.1 hB q4 hM' hp (fun z => absurd (hcd.trans z) hc) (fun _ S2 τ h1 h2 h3 h4 h5 => ?_))
    obtain ⟨θ', j1, j2⟩ := JB.join a7 a8 a9 hL frK.rf h1 h3 h4 (fun _ _ _ _ => rfl)
    have go : K S2 n' := hK S2 n' θ' j1 (j2.MI (MI_s hM))
    refine ⟨h1.m, rf_thrown h1 ?_⟩
    rw [h2, ← hcd]
    refine ⟨fun _ => ⟨fun _ => go, fun c => absurd ?_ hc⟩, fun c => absurd rfl c⟩
    rw [iI_0, iI_eq (by omega) (by omega) (by omega) (by omega)] at c
    exact c
/-- a call that is never refused: the two answers are compared at once -/
def lgV (K : fMS → Nat → Prop) (v124 : Int32) (v128 : Int32) (S129 : fMS) (n130 : Nat) : Prop := (v124 = v128 → K S129 n130) ∧ (¬ v124 = v128 → False)
theorem lw_v {σ2 : fG2} {v : Int} {S' : fMS} {n' : Nat} (hJ : JB x m o1 o2 A θ S n B) (hL : LB (pP m A o1 o2) S S' x θ n' (B + 20)) (ag : ∀ g k : Nat, 1 ≤ g → g ≤ 26 → σ2 g k = θ g k) (M2 : MI (i + 1) σ2) (hK : ∀ S n θ', JB x m o1 o2 A θ' S n (B + 20) → MI (i + 1) θ' → K S n)
    {WR : (Int32 → fMS → Nat → Prop) → Prop} (rf : RM S' S' m A θ → ∀ post, rP S' m n' A σ2 0 v post → WR post) : isA S' 5 m ∧ WR (fun v128 S129 n130 => lgV K (iI v) v128 S129 n130) := by
  obtain ⟨T, J, V, L, E, al, ln, vi, a1, a2, a3, a4, a5, a6, a7, a8, a9⟩ := hJ
  have hM' := a6.br hL
  refine ⟨hM'.m, rf hM' _ (fun S2 τ h1 h2 h3 h4 h5 => ?_)⟩
  obtain ⟨θ', j1, j2⟩ := JB.join a7 a8 a9 hL frK.rf h1 h3 h4 ag
  exact ⟨fun _ => hK S2 n' θ' j1 (j2.MI M2), fun c => absurd rfl c⟩
theorem JB.bb (hJ : JB x m o1 o2 A θ S n B) (hb : B + 20 ≤ 20000) : ∃ T J V L E al ln vi, BB (pP m A o1 o2) S S x T J V L E θ al ln vi n B := by
  obtain ⟨T, J, V, L, E, al, ln, vi, a1, a2, a3, a4, a5, a6, a7, a8, a9⟩ := hJ
  exact ⟨T, J, V, L, E, al, ln, vi, a1, a2, a3, a4, a5, hb⟩
theorem lo_teams (hJ : JB x m o1 o2 A θ S n B) (hM : MI i θ) (hi : 0 ≤ i ∧ i < 512) (hb : B + 20 ≤ 20000) (hK : ∀ S n θ', JB x m o1 o2 A θ' S n (B + 20) → MI (i + 1) θ' → K S n) {Q : Int32 → Prop}
    (hQ : ∀ v, isA S 5 m → wp_X4_teams S n m (fun v128 S129 n130 => lgV K v v128 S129 n130) → Q v) : isA S 4 x ∧ wp_X3_teams S x Q := by
  obtain ⟨⟨q1, q2, q3, q4, q5, q6, q7, q8⟩, qc⟩ := hM.r hi
  obtain ⟨T, J, V, L, E, al, ln, vi, h⟩ := hJ.bb hb
  have hB := hJ.bd
  have a := lw_v (v := θ 4 0) (σ2 := θ) hJ (h.toL (k := 0) (by omega)) (fun _ _ _ _ => rfl) (MI_s hM) hK (WR := fun post => wp_X4_teams S n m post) (fun h post p0 => rf_teams hB q4 h p0)
  refine ⟨h.1.1.1, h.1.1.1, L 0, h.1.x0, of_eq_true h.1.k0, ?_⟩
  rw [h.1.s0 (by have := q1.1.T.1; omega)]
  exact hQ _ a.1 a.2
theorem lo_tick (hJ : JB x m o1 o2 A θ S n B) (hM : MI i θ) (hi : 0 ≤ i ∧ i < 512) (hb : B + 20 ≤ 20000) (hK : ∀ S n θ', JB x m o1 o2 A θ' S n (B + 20) → MI (i + 1) θ' → K S n) {Q : Int32 → Prop}
    (hQ : ∀ v, isA S 5 m → wp_X4_tick S n m (fun v128 S129 n130 => lgV K v v128 S129 n130) → Q v) : isA S 4 x ∧ wp_X3_tick S x Q := by
  obtain ⟨⟨q1, q2, q3, q4, q5, q6, q7, q8⟩, qc⟩ := hM.r hi
  obtain ⟨T, J, V, L, E, al, ln, vi, h⟩ := hJ.bb hb
  have hB := hJ.bd
  have a := lw_v (v := θ 1 0) (σ2 := θ) hJ (h.toL (k := 0) (by omega)) (fun _ _ _ _ => rfl) (MI_s hM) hK (WR := fun post => wp_X4_tick S n m post) (fun h post p0 => rf_tick hB q4 h p0)
  refine ⟨h.1.1.1, h.1.1.1, ?_⟩
  rw [h.1.x9]
  exact hQ _ a.1 a.2
theorem lo_jobs (hJ : JB x m o1 o2 A θ S n B) (hM : MI i θ) (hi : 0 ≤ i ∧ i < 512) (hb : B + 20 ≤ 20000) (hK : ∀ S n θ', JB x m o1 o2 A θ' S n (B + 20) → MI (i + 1) θ' → K S n) {Q : Int32 → Prop}
    (hQ : ∀ v, isA S 5 m → wp_X4_jobs S n m (fun v128 S129 n130 => lgV K v v128 S129 n130) → Q v) : isA S 4 x ∧ wp_X3_jobs S x Q := by
  obtain ⟨⟨q1, q2, q3, q4, q5, q6, q7, q8⟩, qc⟩ := hM.r hi
  obtain ⟨T, J, V, L, E, al, ln, vi, h⟩ := hJ.bb hb
  have hB := hJ.bd
  have a := lw_v (v := θ 12 0) (σ2 := θ) hJ (h.toL (k := 0) (by omega)) (fun _ _ _ _ => rfl) (MI_s hM) hK (WR := fun post => wp_X4_jobs S n m post) (fun h post p0 => rf_jobs hB q4 h p0)
  refine ⟨h.1.1.1, h.1.1.1, L 2, h.1.x2, of_eq_true h.1.k2, ?_⟩
  rw [h.1.s2 q1.1.J.1]
  exact hQ _ a.1 a.2
theorem lo_isFair (hJ : JB x m o1 o2 A θ S n B) (hM : MI i θ) (hi : 0 ≤ i ∧ i < 512) (hb : B + 20 ≤ 20000) (hK : ∀ S n θ', JB x m o1 o2 A θ' S n (B + 20) → MI (i + 1) θ' → K S n) {Q : Int32 → fMS → Nat → Prop}
    (hQ : ∀ v S8 n9, isA S8 5 m → wp_X4_isFair S8 n9 m (fun v128 S129 n130 => lgV K v v128 S129 n130) → Q v S8 n9) : isA S 4 x ∧ wp_X3_isFair S n x Q := by
  obtain ⟨⟨q1, q2, q3, q4, q5, q6, q7, q8⟩, qc⟩ := hM.r hi
  obtain ⟨T, J, V, L, E, al, ln, vi, h⟩ := hJ.bb hb
  have hB := hJ.bd
  refine ⟨h.1.1.1, cx_isFair q1 q2 q3 q4 h (fun S' n' hL => ?_)⟩
  have a := lw_v (v := fairV θ) (σ2 := lyS θ) hJ hL (fun g k _ _ => lyS_ne (by omega) (by omega)) (MI_ly (MI_s hM)) hK (WR := fun post => wp_X4_isFair S' n' m post) (fun h post p0 => rf_isFair q1 hB q4 h p0)
  exact hQ _ S' n' a.1 a.2
end
