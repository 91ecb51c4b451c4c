-- ===== each call of the law: both answer alike =====
section
variable {F S : fMS} {x m n B o1 o2 : Nat} {A : Nat → Nat} {θ : fG2} {i : Int} {K : fMS → Nat → Prop}
theorem lg_self (z : Int64) : lg_cmp z z = 0 := by
  unfold lg_cmp; rw [if_neg (show ¬ z > z from Int64.lt_irrefl), if_pos rfl]
/-- the comparison behind both calls -/
def lgE (K : fMS → Nat → Prop) (m out : Nat) (v7 : Int32) (z15 : Int64) (S16 : fMS) (n17 : Nat) : Prop :=
  isA S16 5 m ∧ wp_X4_thrown S16 m (fun v19 => ((v19 = v7 → (((¬ v7 = 0 → K S16 n17) ∧ (v7 = 0 → (∃ a23 : Nat, some out = some a23 ∧ isA S16 12 a23 ∧ vp_in (0 : Int32) (sN S16 a23) ∧ ((lg_cmp (sJ S16 a23 (Int32.toNatClampNeg (0 : Int32))) z15 = 0 → K S16 n17) ∧ (¬ lg_cmp (sJ S16 a23 (Int32.toNatClampNeg (0 : Int32))) z15 = 0 → False))))))) ∧ (¬ v19 = v7 → False)))
theorem JB.bd (h : JB x m o1 o2 A θ S n B) : okB θ := by obtain ⟨_, _, _, _, _, _, _, _, a⟩ := h; exact a.2.2.2.1
theorem rK12 {f : Nat} (h : rK f = 12) : f = 8 := by
  unfold rK at h; split at h
  · assumption
  · split at h <;> omega
theorem out_kept {o : Nat} {τ : fG2} {S2 : fMS} {z : Int64} (hM : RM (wJ S o 0 z) S2 m A τ) (hk : sK S o = 12 ∨ sK S o = 15) (ho : o ≠ A 8) : sJ S2 o 0 = z := by
  have e := hM.f.2.2.2.2.2.2 o (fun y => by
    have k5 := hM.m.2
    rw [hM.f.2.1, ← y] at k5
    have : sK S o = 5 := k5
    omega) (fun f hf y => by
    have k := (hM.k f hf).2
    rw [hM.f.2.1, ← y] at k
    have k2 : sK S o = rK f := k
    have : f = 8 := by
      rcases hk with q | q
      · exact rK12 (k2.symm.trans q)
      · exfalso; rw [q] at k2; unfold rK at k2; split at k2
        · omega
        · split at k2 <;> omega
    rw [this] at y; exact ho y) 0
  exact e.2.trans (if_pos ⟨rfl, rfl⟩)
theorem lw_gen {cd v : Int} {σ' σ2 σ1 : fG2} {z : Int64} {WL : (Int32 → fMS → Nat → Prop) → Prop} {WR : fMS → Nat → (Int32 → fMS → Nat → Prop) → Prop} {Q : Int32 → fMS → Nat → Prop}
    (hJ : JB x m o1 o2 A θ S n B) (hb : B + 20 ≤ 20000)
    (cl : ∀ T J V L E al ln vi, BB (pP m A o1 o2) S S x T J V L E θ al ln vi n B → oK (pP m A o1 o2) S o1 12 → ∀ post, xP (pP m A o1 o2) S x B o1 σ' θ cd z post → WL post)
    (rf : ∀ F S n, RM F S m A θ → ∀ post, (cd = 0 → rP F m n A σ2 0 v post) → (cd ≠ 0 → rP F m n A σ1 cd 0 post) → WR S n post)
    (ag : cd = 0 → ∀ g k : Nat, 1 ≤ g → g ≤ 26 → σ2 g k = σ' g k) (ag1 : ∀ g k : Nat, 1 ≤ g → g ≤ 26 → σ1 g k = θ g k) (M2 : cd = 0 → MI (i + 1) σ2) (M1 : MI (i + 1) σ1) (hz : cd = 0 → z = Int32.toInt64 (iI v)) (cdb : 0 ≤ cd ∧ cd ≤ 100)
    (hK : ∀ S n θ', JB x m o1 o2 A θ' S n (B + 20) → MI (i + 1) θ' → K S n)
    (hQ : ∀ v7 S8 n9, isA S8 5 m → WR S8 n9 (fun v15 S16 n17 => lgE K m o1 v7 (Int32.toInt64 v15) S16 n17) → Q v7 S8 n9) : WL Q := by
  obtain ⟨T, J, V, L, E, al, ln, vi, a1, a2, a3, a4, a5, a6, a7, a8, a9⟩ := hJ
  refine cl T J V L E al ln vi ⟨a1, a2, a3, a4, a5, hb⟩ a7 Q ⟨fun hc S' n' hL => ?_, fun hc S' n' hL => ?_⟩
  · have hM := a6.br hL
    have w1 := hL.out a7
    have hM1 := hM.wo (z := z) a9
    refine hQ (iI 0) _ n' hM1.m (rf _ _ n' hM1 _ (fun _ S2 τ h1 h2 h3 h4 h5 => ?_) (fun z => absurd hc z))
    have hk : frK S' (wJ S' o1 0 z) := frK.wJ (Or.inl w1.1.2)
    obtain ⟨θ', j1, j2⟩ := JB.join a7 a8 a9 hL hk h1 h3 h4 (ag hc)
    have go : K S2 n' := hK S2 n' θ' j1 (j2.MI (M2 hc))
    have hs : sJ S2 o1 0 = z := out_kept h1 (Or.inl w1.1.2) a9
    have k12 : isA S2 12 o1 := (frK.fX h1).a (hk.a w1.1)
    have kN : sN S2 o1 = 1 := by rw [(frK.fX h1).2.2.1, hk.2.2.1]; exact w1.2
    refine ⟨h1.m, rf_thrown h1 ?_⟩
    rw [h2]
    refine ⟨fun _ => ⟨fun c => absurd rfl c, fun _ => ⟨o1, rfl, k12, ?_, fun _ => go, fun c => ?_⟩⟩, fun c => absurd rfl c⟩
    · rw [kN]; exact (iI_in (a := 0) (by omega) (by omega)).mpr ⟨by omega, by omega⟩
    · refine c ?_
      show lg_cmp (sJ S2 o1 0) _ = 0
      rw [hs, hz hc]; exact lg_self _
  · have hM := a6.br hL
    refine hQ (iI cd) S' n' hM.m (rf _ _ n' hM _ (fun z => absurd z hc) (fun _ S2 τ h1 h2 h3 h4 h5 => ?_))
    obtain ⟨θ', j1, j2⟩ := JB.join a7 a8 a9 hL frK.rf h1 h3 h4 ag1
    have go : K S2 n' := hK S2 n' θ' j1 (j2.MI M1)
    refine ⟨h1.m, rf_thrown h1 ?_⟩
    rw [h2]
    refine ⟨fun _ => ⟨fun _ => go, fun c => absurd ?_ hc⟩, fun c => absurd rfl c⟩
    rw [iI_0, iI_eq (by omega) (by omega) (by omega) (by omega)] at c
    exact c
theorem i32_of (v : Int32) : i32 v.toInt := ⟨Int32.le_toInt v, by have := Int32.toInt_lt v; omega⟩
theorem MI.r {θ : fG2} (h : MI i θ) (hi : 0 ≤ i ∧ i < 512) : K1 (33620 * i) θ ∧ 33620 * i + 100000 < 100000000 := ⟨h.1.1, by omega⟩
theorem runs_out {σ : fG2} (hi : inv σ) {k : Nat} (hk : σ 4 0 ≤ k) : σ 10 k = 0 := by
  rw [hi.t.1 k]
  have : fSum (rnF σ k) 0 (njN σ) = fSum (fun _ => 0) 0 (njN σ) := by
    refine fSum_cong _ _ (fun j _ h2 => ?_)
    have bj := hi.J.2.2 j (njN_lt hi.J h2)
    unfold rnF
    rw [if_neg]
    rintro ⟨-, z⟩
    have := chF_le hi.T 11 (σ 13 j) (by omega) (by omega) k z
    omega
  rw [this]
  have z : ∀ d k : Nat, fSum (fun _ => 0) k d = 0 := by
    intro d; induction d with
    | zero => intro k; rfl
    | succ d ih => intro k; simp only [fSum, ih]; rfl
  exact z _ _
theorem lo_addTeam {v1 v2 : Int32} (hJ : JB x m o1 o2 A θ S n B) (hM : MI i θ) (hi : 0 ≤ i ∧ i < 512) (hb : B + 20 ≤ 20000) (hK : ∀ S n θ', JB x m o1 o2 A θ' S n (B + 20) → MI (i + 1) θ' → K S n) {Q : Int32 → fMS → Nat → Prop}
    (hQ : ∀ v7 S8 n9, isA S8 5 m → wp_X4_addTeam S8 n9 m v1 v2 (fun v15 S16 n17 => lgE K m o1 v7 (Int32.toInt64 v15) S16 n17) → Q v7 S8 n9) : wp_L_addTeam S n (some x) v1 v2 (some o1) Q := by
  obtain ⟨p, e1, hp⟩ : ∃ p, v1 = iI p ∧ i32 p := ⟨v1.toInt, iI_of v1, i32_of v1⟩
  obtain ⟨w, e2, hw⟩ : ∃ w, v2 = iI w ∧ i32 w := ⟨v2.toInt, iI_of v2, i32_of v2⟩
  subst e1 e2
  have hB := hJ.bd
  obtain ⟨⟨q1, q2, q3, q4, q5, q6, q7, q8⟩, qc⟩ := hM.r hi
  have n0 := q1.1.T.1
  have f8 := (hM.1.2.1.2.2.2 (θ 4 0).toNat (by omega)).1
  have f9 := (hM.1.2.1.2.2.2 (θ 4 0).toNat (by omega)).2
  have f10 : θ 10 (θ 4 0).toNat = 0 := runs_out q1.1 (by omega)
  refine lw_gen (i := i) (cd := cdAdd θ p w) (v := θ 4 0) (σ' := svS (addS θ p w)) (σ2 := svS (addS θ p w)) (σ1 := θ) (z := Int32.toInt64 (iI (θ 4 0))) (WL := fun post => wp_L_addTeam S n (some x) (iI p) (iI w) (some o1) post) (WR := fun S n post => wp_X4_addTeam S n m (iI p) (iI w) post) hJ hb
    (fun T J V L E al ln vi h hO post hx => xl_addTeam (fun hc => (MP_add hM.1 hc).1.K0 (by omega)) q1.1 q2 f8 f9 f10 h hO hp hw hx)
    (fun F S n h post p0 p1 => rf_addTeam q1 hB q4 q5 (by omega) h hp hw (fun hc => (MP_add hM.1 hc).1.1) p0 p1)
    (fun _ _ _ _ _ => rfl) (fun _ _ _ _ => rfl) (fun hc => MI_sv (MP_add hM.1 hc) (by rw [add_n (by decide)]; have := hM.2.2.1; omega) (by rw [add_n (by decide)]; have := hM.2.2.2; omega)) (MI_s hM) (fun _ => rfl) ?_ hK hQ
  unfold cdAdd
  repeat (first | omega | split)
theorem lo_setWeight {v1 v2 : Int32} (hJ : JB x m o1 o2 A θ S n B) (hM : MI i θ) (hi : 0 ≤ i ∧ i < 512) (hb : B + 20 ≤ 20000) (hK : ∀ S n θ', JB x m o1 o2 A θ' S n (B + 20) → MI (i + 1) θ' → K S n) {Q : Int32 → fMS → Nat → Prop}
    (hQ : ∀ v7 S8 n9, isA S8 5 m → wp_X4_setWeight S8 n9 m v1 v2 (fun v15 S16 n17 => lgE K m o1 v7 (Int32.toInt64 v15) S16 n17) → Q v7 S8 n9) : wp_L_setWeight S n (some x) v1 v2 (some o1) Q := by
  obtain ⟨p, e1, hp⟩ : ∃ p, v1 = iI p ∧ i32 p := ⟨v1.toInt, iI_of v1, i32_of v1⟩
  obtain ⟨w, e2, hw⟩ : ∃ w, v2 = iI w ∧ i32 w := ⟨v2.toInt, iI_of v2, i32_of v2⟩
  subst e1 e2
  have hB := hJ.bd
  obtain ⟨⟨q1, q2, q3, q4, q5, q6, q7, q8⟩, qc⟩ := hM.r hi
  have cw : ∀ {lo hi : Int}, cdSW θ p w lo hi = 0 → lo ≤ w ∧ w ≤ hi := fun hc => by
    unfold cdSW at hc
    split at hc
    · split at hc
      · exact absurd hc (by decide)
      · split at hc
        · assumption
        · exact absurd hc (by decide)
    · exact absurd hc (by decide)
  refine lw_gen (i := i) (cd := cdSW θ p w 1 9) (v := θ 6 p.toNat) (σ' := svS (up θ 6 p.toNat w)) (σ2 := svS (up θ 6 p.toNat w)) (σ1 := θ) (z := Int32.toInt64 (iI (θ 6 p.toNat))) (WL := fun post => wp_L_setWeight S n (some x) (iI p) (iI w) (some o1) post) (WR := fun S n post => wp_X4_setWeight S n m (iI p) (iI w) post) hJ hb
    (fun T J V L E al ln vi h hO post hx => xl_setWeight (fun hc => (MP_6 hM.1 (cw hc)).1.K0 (by omega)) q1.1.T h hO hp hw hx)
    (fun F S n h post p0 p1 => rf_setWeight q1 hB q4 q5 (by omega) h hp hw (fun hc => (MP_6 hM.1 (cw hc)).1.1) p0 p1)
    (fun _ _ _ _ _ => rfl) (fun _ _ _ _ => rfl) (fun hc => MI_sv (MP_6 hM.1 (cw hc)) (by rw [up_ne (by decide)]; have := hM.2.2.1; omega) (by rw [up_ne (by decide)]; have := hM.2.2.2; omega)) (MI_s hM) (fun _ => rfl) ?_ hK hQ
  unfold cdSW
  repeat (first | omega | split)
theorem lo_setLimit {v1 v2 : Int32} (hJ : JB x m o1 o2 A θ S n B) (hM : MI i θ) (hi : 0 ≤ i ∧ i < 512) (hb : B + 20 ≤ 20000) (hK : ∀ S n θ', JB x m o1 o2 A θ' S n (B + 20) → MI (i + 1) θ' → K S n) {Q : Int32 → fMS → Nat → Prop}
    (hQ : ∀ v7 S8 n9, isA S8 5 m → wp_X4_setLimit S8 n9 m v1 v2 (fun v15 S16 n17 => lgE K m o1 v7 (Int32.toInt64 v15) S16 n17) → Q v7 S8 n9) : wp_L_setLimit S n (some x) v1 v2 (some o1) Q := by
  obtain ⟨p, e1, hp⟩ : ∃ p, v1 = iI p ∧ i32 p := ⟨v1.toInt, iI_of v1, i32_of v1⟩
  obtain ⟨w, e2, hw⟩ : ∃ w, v2 = iI w ∧ i32 w := ⟨v2.toInt, iI_of v2, i32_of v2⟩
  subst e1 e2
  have hB := hJ.bd
  obtain ⟨⟨q1, q2, q3, q4, q5, q6, q7, q8⟩, qc⟩ := hM.r hi
  have cw : ∀ {lo hi : Int}, cdSW θ p w lo hi = 0 → lo ≤ w ∧ w ≤ hi := fun hc => by
    unfold cdSW at hc
    split at hc
    · split at hc
      · exact absurd hc (by decide)
      · split at hc
        · assumption
        · exact absurd hc (by decide)
    · exact absurd hc (by decide)
  refine lw_gen (i := i) (cd := cdSW θ p w 0 500) (v := θ 7 p.toNat) (σ' := svS (up θ 7 p.toNat w)) (σ2 := svS (up θ 7 p.toNat w)) (σ1 := θ) (z := Int32.toInt64 (iI (θ 7 p.toNat))) (WL := fun post => wp_L_setLimit S n (some x) (iI p) (iI w) (some o1) post) (WR := fun S n post => wp_X4_setLimit S n m (iI p) (iI w) post) hJ hb
    (fun T J V L E al ln vi h hO post hx => xl_setLimit (fun hc => (MP_7 hM.1 (cw hc)).1.K0 (by omega)) q1.1.T h hO hp hw hx)
    (fun F S n h post p0 p1 => rf_setLimit q1 hB q4 q5 (by omega) h hp hw (fun hc => (MP_7 hM.1 (cw hc)).1.1) p0 p1)
    (fun _ _ _ _ _ => rfl) (fun _ _ _ _ => rfl) (fun hc => MI_sv (MP_7 hM.1 (cw hc)) (by rw [up_ne (by decide)]; have := hM.2.2.1; omega) (by rw [up_ne (by decide)]; have := hM.2.2.2; omega)) (MI_s hM) (fun _ => rfl) ?_ hK hQ
  unfold cdSW
  repeat (first | omega | split)
theorem lo_setCapacity {v1 : Int32} (hJ : JB x m o1 o2 A θ S n B) (hM : MI i θ) (hi : 0 ≤ i ∧ i < 512) (hb : B + 20 ≤ 20000) (hK : ∀ S n θ', JB x m o1 o2 A θ' S n (B + 20) → MI (i + 1) θ' → K S n) {Q : Int32 → fMS → Nat → Prop}
    (hQ : ∀ v7 S8 n9, isA S8 5 m → wp_X4_setCapacity S8 n9 m v1 (fun v15 S16 n17 => lgE K m o1 v7 (Int32.toInt64 v15) S16 n17) → Q v7 S8 n9) : wp_L_setCapacity S n (some x) v1 (some o1) Q := by
  obtain ⟨w, e1, hw⟩ : ∃ w, v1 = iI w ∧ i32 w := ⟨v1.toInt, iI_of v1, i32_of v1⟩
  subst e1
  have hB := hJ.bd
  obtain ⟨⟨q1, q2, q3, q4, q5, q6, q7, q8⟩, qc⟩ := hM.r hi
  have cw : cdCap θ w = 0 → 0 ≤ w ∧ w ≤ 200 := fun hc => by
    unfold cdCap at hc
    split at hc
    · assumption
    · exact absurd hc (by decide)
  refine lw_gen (i := i) (cd := cdCap θ w) (v := θ 2 0) (σ' := svS (up θ 2 0 w)) (σ2 := svS (up θ 2 0 w)) (σ1 := θ) (z := Int32.toInt64 (iI (θ 2 0))) (WL := fun post => wp_L_setCapacity S n (some x) (iI w) (some o1) post) (WR := fun S n post => wp_X4_setCapacity S n m (iI w) post) hJ hb
    (fun T J V L E al ln vi h hO post hx => xl_setCapacity (fun hc => (MP_2 hM.1 (cw hc)).1.K0 (by omega)) q1.1.T h hO hw hx)
    (fun F S n h post p0 p1 => rf_setCapacity q1 hB q4 q5 (by omega) h hw (fun hc => (MP_2 hM.1 (cw hc)).1.1) p0 p1)
    (fun _ _ _ _ _ => rfl) (fun _ _ _ _ => rfl) (fun hc => MI_sv (MP_2 hM.1 (cw hc)) (by rw [up_ne (by decide)]; have := hM.2.2.1; omega) (by rw [up_ne (by decide)]; have := hM.2.2.2; omega)) (MI_s hM) (fun _ => rfl) ?_ hK hQ
  unfold cdCap
  repeat (first | omega | split)
theorem lo_setHalfTime {v1 : Int32} (hJ : JB x m o1 o2 A θ S n B) (hM : MI i θ) (hi : 0 ≤ i ∧ i < 512) (hb : B + 20 ≤ 20000) (hK : ∀ S n θ', JB x m o1 o2 A θ' S n (B + 20) → MI (i + 1) θ' → K S n) {Q : Int32 → fMS → Nat → Prop}
    (hQ : ∀ v7 S8 n9, isA S8 5 m → wp_X4_setHalfTime S8 n9 m v1 (fun v15 S16 n17 => lgE K m o1 v7 (Int32.toInt64 v15) S16 n17) → Q v7 S8 n9) : wp_L_setHalfTime S n (some x) v1 (some o1) Q := by
  obtain ⟨w, e1, hw⟩ : ∃ w, v1 = iI w ∧ i32 w := ⟨v1.toInt, iI_of v1, i32_of v1⟩
  subst e1
  have hB := hJ.bd
  obtain ⟨⟨q1, q2, q3, q4, q5, q6, q7, q8⟩, qc⟩ := hM.r hi
  have cw : cdHalf w = 0 → 1 ≤ w ∧ w ≤ 100 := fun hc => by
    unfold cdHalf at hc
    split at hc
    · assumption
    · exact absurd hc (by decide)
  refine lw_gen (i := i) (cd := cdHalf w) (v := θ 3 0) (σ' := svS (up θ 3 0 w)) (σ2 := up θ 3 0 w) (σ1 := θ) (z := Int32.toInt64 (iI (θ 3 0))) (WL := fun post => wp_L_setHalfTime S n (some x) (iI w) (some o1) post) (WR := fun S n post => wp_X4_setHalfTime S n m (iI w) post) hJ hb
    (fun T J V L E al ln vi h hO post hx => xl_setHalfTime (fun hc => (MP_3 hM.1 (cw hc)).1.K0 (by omega)) h hO hw hx)
    (fun F S n h post p0 p1 => rf_setHalfTime hB q4 h hw p0 p1)
    (fun hc g k _ hg => by have hs : nxS (lyS (up θ 3 0 w)) = none := (MI_half hM (cw hc)).2.1; unfold svS srvS; rw [srvN_none _ hs, lyS_ne (by omega) (by omega)]) (fun _ _ _ _ => rfl) (fun hc => MI_half (MI_s hM) (cw hc)) (MI_s hM) (fun _ => rfl) ?_ hK hQ
  unfold cdHalf
  repeat (first | omega | split)
theorem lo_parentOf {v1 : Int32} (hJ : JB x m o1 o2 A θ S n B) (hM : MI i θ) (hi : 0 ≤ i ∧ i < 512) (hb : B + 20 ≤ 20000) (hK : ∀ S n θ', JB x m o1 o2 A θ' S n (B + 20) → MI (i + 1) θ' → K S n) {Q : Int32 → fMS → Nat → Prop}
    (hQ : ∀ v7 S8 n9, isA S8 5 m → wp_X4_parentOf S8 n9 m v1 (fun v15 S16 n17 => lgE K m o1 v7 (Int32.toInt64 v15) S16 n17) → Q v7 S8 n9) : wp_L_parentOf S n (some x) v1 (some o1) Q := by
  obtain ⟨p, e1, hp⟩ : ∃ p, v1 = iI p ∧ i32 p := ⟨v1.toInt, iI_of v1, i32_of v1⟩
  subst e1
  have hB := hJ.bd
  obtain ⟨⟨q1, q2, q3, q4, q5, q6, q7, q8⟩, qc⟩ := hM.r hi
  refine lw_gen (i := i) (cd := cdPar θ p) (v := θ 5 p.toNat) (σ' := θ) (σ2 := θ) (σ1 := θ) (z := Int32.toInt64 (iI (θ 5 p.toNat))) (WL := fun post => wp_L_parentOf S n (some x) (iI p) (some o1) post) (WR := fun S n post => wp_X4_parentOf S n m (iI p) post) hJ hb
    (fun T J V L E al ln vi h hO post hx => xl_parentOf q1.1.T h hO hp hx)
    (fun F S n h post p0 p1 => rf_parentOf q1.1.T hB q4 h hp p0 p1)
    (fun _ _ _ _ _ => rfl) (fun _ _ _ _ => rfl) (fun _ => MI_s hM) (MI_s hM) (fun _ => rfl) ?_ hK hQ
  unfold cdPar
  repeat (first | omega | split)
theorem lo_children {v1 : Int32} (hJ : JB x m o1 o2 A θ S n B) (hM : MI i θ) (hi : 0 ≤ i ∧ i < 512) (hb : B + 20 ≤ 20000) (hK : ∀ S n θ', JB x m o1 o2 A θ' S n (B + 20) → MI (i + 1) θ' → K S n) {Q : Int32 → fMS → Nat → Prop}
    (hQ : ∀ v7 S8 n9, isA S8 5 m → wp_X4_children S8 n9 m v1 (fun v15 S16 n17 => lgE K m o1 v7 (Int32.toInt64 v15) S16 n17) → Q v7 S8 n9) : wp_L_children S n (some x) v1 (some o1) Q := by
  obtain ⟨p, e1, hp⟩ : ∃ p, v1 = iI p ∧ i32 p := ⟨v1.toInt, iI_of v1, i32_of v1⟩
  subst e1
  have hB := hJ.bd
  obtain ⟨⟨q1, q2, q3, q4, q5, q6, q7, q8⟩, qc⟩ := hM.r hi
  refine lw_gen (i := i) (cd := cdT θ p) (v := kidsN θ p) (σ' := θ) (σ2 := θ) (σ1 := θ) (z := Int32.toInt64 (iI (kidsN θ p))) (WL := fun post => wp_L_children S n (some x) (iI p) (some o1) post) (WR := fun S n post => wp_X4_children S n m (iI p) post) hJ hb
    (fun T J V L E al ln vi h hO post hx => xl_children q1.1.T h hO hp hx)
    (fun F S n h post p0 p1 => rf_children q1.1.T hB q4 h hp p0 p1)
    (fun _ _ _ _ _ => rfl) (fun _ _ _ _ => rfl) (fun _ => MI_s hM) (MI_s hM) (fun _ => rfl) ?_ hK hQ
  unfold cdT
  repeat (first | omega | split)
theorem lo_submit {v1 v2 v3 : Int32} (hJ : JB x m o1 o2 A θ S n B) (hM : MI i θ) (hi : 0 ≤ i ∧ i < 512) (hb : B + 20 ≤ 20000) (hK : ∀ S n θ', JB x m o1 o2 A θ' S n (B + 20) → MI (i + 1) θ' → K S n) {Q : Int32 → fMS → Nat → Prop}
    (hQ : ∀ v7 S8 n9, isA S8 5 m → wp_X4_submit S8 n9 m v1 v2 v3 (fun v15 S16 n17 => lgE K m o1 v7 (Int32.toInt64 v15) S16 n17) → Q v7 S8 n9) : wp_L_submit S n (some x) v1 v2 v3 (some o1) Q := by
  obtain ⟨t, e1, ht⟩ : ∃ t, v1 = iI t ∧ i32 t := ⟨v1.toInt, iI_of v1, i32_of v1⟩
  obtain ⟨s, e2, hs⟩ : ∃ s, v2 = iI s ∧ i32 s := ⟨v2.toInt, iI_of v2, i32_of v2⟩
  obtain ⟨k, e3, hk⟩ : ∃ k, v3 = iI k ∧ i32 k := ⟨v3.toInt, iI_of v3, i32_of v3⟩
  subst e1 e2 e3
  have hB := hJ.bd
  obtain ⟨⟨q1, q2, q3, q4, q5, q6, q7, q8⟩, qc⟩ := hM.r hi
  have n12 := hM.2.2.1
  have j0 := q1.1.J.1
  have f16 := (hM.1.2.2 (θ 12 0).toNat (by omega)).1
  have f18 := (hM.1.2.2 (θ 12 0).toNat (by omega)).2
  refine lw_gen (i := i) (cd := cdSub θ t s k) (v := θ 12 0) (σ' := svS (subS θ t s k)) (σ2 := svS (subS θ t s k)) (σ1 := θ) (z := Int32.toInt64 (iI (θ 12 0))) (WL := fun post => wp_L_submit S n (some x) (iI t) (iI s) (iI k) (some o1) post) (WR := fun S n post => wp_X4_submit S n m (iI t) (iI s) (iI k) post) hJ hb
    (fun T J V L E al ln vi h hO post hx => xl_submit (fun hc => (MP_sub hM.1 hc (by omega)).1.K0 (by omega)) q1.1 (by omega) f16 f18 h hO ht hs hk hx)
    (fun F S n h post p0 p1 => rf_submit q1 hB q4 q5 (by omega) h ht hs hk (fun hc => (MP_sub hM.1 hc (by omega)).1.1) p0 p1)
    (fun _ _ _ _ _ => rfl) (fun _ _ _ _ => rfl) (fun hc => MI_sv (MP_sub hM.1 hc (by omega)) (by rw [sub_12]; omega) (by rw [sub_n (by decide)]; have := hM.2.2.2; omega)) (MI_s hM) (fun _ => rfl) ?_ hK hQ
  unfold cdSub
  repeat (first | omega | split)
theorem lo_cancel {v1 : Int32} (hJ : JB x m o1 o2 A θ S n B) (hM : MI i θ) (hi : 0 ≤ i ∧ i < 512) (hb : B + 20 ≤ 20000) (hK : ∀ S n θ', JB x m o1 o2 A θ' S n (B + 20) → MI (i + 1) θ' → K S n) {Q : Int32 → fMS → Nat → Prop}
    (hQ : ∀ v7 S8 n9, isA S8 5 m → wp_X4_cancel S8 n9 m v1 (fun v15 S16 n17 => lgE K m o1 v7 (Int32.toInt64 v15) S16 n17) → Q v7 S8 n9) : wp_L_cancel S n (some x) v1 (some o1) Q := by
  obtain ⟨p, e1, hp⟩ : ∃ p, v1 = iI p ∧ i32 p := ⟨v1.toInt, iI_of v1, i32_of v1⟩
  subst e1
  have hB := hJ.bd
  obtain ⟨⟨q1, q2, q3, q4, q5, q6, q7, q8⟩, qc⟩ := hM.r hi
  have cw : cdLive θ p = 0 → (0 ≤ p ∧ p < θ 12 0) ∧ (θ 17 p.toNat = 0 ∨ θ 17 p.toNat = 1) := fun hc => by
    unfold cdLive at hc
    split at hc
    · split at hc
      · exact ⟨by assumption, by assumption⟩
      · exact absurd hc (by decide)
    · exact absurd hc (by decide)
  have ml : cdLive θ p = 0 → MP (33620 * i) (lvF θ p.toNat 3) := fun hc => MP_lv hM.1 (by have := (cw hc).1; omega) (cw hc).2 (by decide) (by decide)
  refine lw_gen (i := i) (cd := cdLive θ p) (v := if θ 17 p.toNat = 1 then θ 14 p.toNat else 0) (σ' := svS (lvF θ p.toNat 3)) (σ2 := svS (lvF θ p.toNat 3)) (σ1 := θ) (z := Int32.toInt64 (iI (if θ 17 p.toNat = 1 then θ 14 p.toNat else 0))) (WL := fun post => wp_L_cancel S n (some x) (iI p) (some o1) post) (WR := fun S n post => wp_X4_cancel S n m (iI p) post) hJ hb
    (fun T J V L E al ln vi h hO post hx => xl_cancel (fun hc => (ml hc).1.K0 (by omega)) q1.1 h hO hp hx)
    (fun F S n h post p0 p1 => rf_cancel q1 hB q4 q5 (by omega) h hp (fun hc => (ml hc).1.1) p0 p1)
    (fun _ _ _ _ _ => rfl) (fun _ _ _ _ => rfl) (fun hc => MI_sv (ml hc) (by rw [lvF_ne (by decide) (by decide) (by decide) (by decide)]; have := hM.2.2.1; omega) (by rw [lvF_ne (by decide) (by decide) (by decide) (by decide)]; have := hM.2.2.2; omega)) (MI_s hM) (fun _ => rfl) ?_ hK hQ
  unfold cdLive
  repeat (first | omega | split)
theorem lo_stateOf {v1 : Int32} (hJ : JB x m o1 o2 A θ S n B) (hM : MI i θ) (hi : 0 ≤ i ∧ i < 512) (hb : B + 20 ≤ 20000) (hK : ∀ S n θ', JB x m o1 o2 A θ' S n (B + 20) → MI (i + 1) θ' → K S n) {Q : Int32 → fMS → Nat → Prop}
    (hQ : ∀ v7 S8 n9, isA S8 5 m → wp_X4_stateOf S8 n9 m v1 (fun v15 S16 n17 => lgE K m o1 v7 (Int32.toInt64 v15) S16 n17) → Q v7 S8 n9) : wp_L_stateOf S n (some x) v1 (some o1) Q := by
  obtain ⟨p, e1, hp⟩ : ∃ p, v1 = iI p ∧ i32 p := ⟨v1.toInt, iI_of v1, i32_of v1⟩
  subst e1
  have hB := hJ.bd
  obtain ⟨⟨q1, q2, q3, q4, q5, q6, q7, q8⟩, qc⟩ := hM.r hi
  refine lw_gen (i := i) (cd := cdJob θ p) (v := stV (θ 17 p.toNat)) (σ' := θ) (σ2 := θ) (σ1 := θ) (z := Int32.toInt64 (iI (stV (θ 17 p.toNat)))) (WL := fun post => wp_L_stateOf S n (some x) (iI p) (some o1) post) (WR := fun S n post => wp_X4_stateOf S n m (iI p) post) hJ hb
    (fun T J V L E al ln vi h hO post hx => xl_stateOf q1.1.J h hO hp hx)
    (fun F S n h post p0 p1 => rf_stateOf q1.1.J hB q4 h hp p0 p1)
    (fun _ _ _ _ _ => rfl) (fun _ _ _ _ => rfl) (fun _ => MI_s hM) (MI_s hM) (fun _ => rfl) ?_ hK hQ
  unfold cdJob
  repeat (first | omega | split)
theorem lo_toGo {v1 : Int32} (hJ : JB x m o1 o2 A θ S n B) (hM : MI i θ) (hi : 0 ≤ i ∧ i < 512) (hb : B + 20 ≤ 20000) (hK : ∀ S n θ', JB x m o1 o2 A θ' S n (B + 20) → MI (i + 1) θ' → K S n) {Q : Int32 → fMS → Nat → Prop}
    (hQ : ∀ v7 S8 n9, isA S8 5 m → wp_X4_toGo S8 n9 m v1 (fun v15 S16 n17 => lgE K m o1 v7 (Int32.toInt64 v15) S16 n17) → Q v7 S8 n9) : wp_L_toGo S n (some x) v1 (some o1) Q := by
  obtain ⟨p, e1, hp⟩ : ∃ p, v1 = iI p ∧ i32 p := ⟨v1.toInt, iI_of v1, i32_of v1⟩
  subst e1
  have hB := hJ.bd
  obtain ⟨⟨q1, q2, q3, q4, q5, q6, q7, q8⟩, qc⟩ := hM.r hi
  have cw : cdLive θ p = 0 → (0 ≤ p ∧ p < θ 12 0) ∧ (θ 17 p.toNat = 0 ∨ θ 17 p.toNat = 1) := fun hc => by
    unfold cdLive at hc
    split at hc
    · split at hc
      · exact ⟨by assumption, by assumption⟩
      · exact absurd hc (by decide)
    · exact absurd hc (by decide)
  refine lw_gen (i := i) (cd := cdLive θ p) (v := if θ 17 p.toNat = 0 then θ 15 p.toNat else θ 16 p.toNat) (σ' := θ) (σ2 := θ) (σ1 := θ) (z := Int32.toInt64 (iI (if θ 17 p.toNat = 1 then θ 16 p.toNat else θ 15 p.toNat))) (WL := fun post => wp_L_toGo S n (some x) (iI p) (some o1) post) (WR := fun S n post => wp_X4_toGo S n m (iI p) post) hJ hb
    (fun T J V L E al ln vi h hO post hx => xl_toGo q1.1.J h hO hp hx)
    (fun F S n h post p0 p1 => rf_toGo q1.1.J hB q4 h hp p0 p1)
    (fun _ _ _ _ _ => rfl) (fun _ _ _ _ => rfl) (fun _ => MI_s hM) (MI_s hM) (fun hc => by congr 2; rcases (cw hc).2 with z | z <;> rw [z] <;> rfl) ?_ hK hQ
  unfold cdLive
  repeat (first | omega | split)
theorem lo_stops {v1 : Int32} (hJ : JB x m o1 o2 A θ S n B) (hM : MI i θ) (hi : 0 ≤ i ∧ i < 512) (hb : B + 20 ≤ 20000) (hK : ∀ S n θ', JB x m o1 o2 A θ' S n (B + 20) → MI (i + 1) θ' → K S n) {Q : Int32 → fMS → Nat → Prop}
    (hQ : ∀ v7 S8 n9, isA S8 5 m → wp_X4_stops S8 n9 m v1 (fun v15 S16 n17 => lgE K m o1 v7 (Int32.toInt64 v15) S16 n17) → Q v7 S8 n9) : wp_L_stops S n (some x) v1 (some o1) Q := by
  obtain ⟨p, e1, hp⟩ : ∃ p, v1 = iI p ∧ i32 p := ⟨v1.toInt, iI_of v1, i32_of v1⟩
  subst e1
  have hB := hJ.bd
  obtain ⟨⟨q1, q2, q3, q4, q5, q6, q7, q8⟩, qc⟩ := hM.r hi
  refine lw_gen (i := i) (cd := cdJob θ p) (v := θ 18 p.toNat) (σ' := θ) (σ2 := θ) (σ1 := θ) (z := Int32.toInt64 (iI (θ 18 p.toNat))) (WL := fun post => wp_L_stops S n (some x) (iI p) (some o1) post) (WR := fun S n post => wp_X4_stops S n m (iI p) post) hJ hb
    (fun T J V L E al ln vi h hO post hx => xl_stops q1.1.J h hO hp hx)
    (fun F S n h post p0 p1 => rf_stops q1.1.J hB q4 h hp p0 p1)
    (fun _ _ _ _ _ => rfl) (fun _ _ _ _ => rfl) (fun _ => MI_s hM) (MI_s hM) (fun _ => rfl) ?_ hK hQ
  unfold cdJob
  repeat (first | omega | split)
theorem lo_firstOf {v1 : Int32} (hJ : JB x m o1 o2 A θ S n B) (hM : MI i θ) (hi : 0 ≤ i ∧ i < 512) (hb : B + 20 ≤ 20000) (hK : ∀ S n θ', JB x m o1 o2 A θ' S n (B + 20) → MI (i + 1) θ' → K S n) {Q : Int32 → fMS → Nat → Prop}
    (hQ : ∀ v7 S8 n9, isA S8 5 m → wp_X4_firstOf S8 n9 m v1 (fun v15 S16 n17 => lgE K m o1 v7 (Int32.toInt64 v15) S16 n17) → Q v7 S8 n9) : wp_L_firstOf S n (some x) v1 (some o1) Q := by
  obtain ⟨p, e1, hp⟩ : ∃ p, v1 = iI p ∧ i32 p := ⟨v1.toInt, iI_of v1, i32_of v1⟩
  subst e1
  have hB := hJ.bd
  obtain ⟨⟨q1, q2, q3, q4, q5, q6, q7, q8⟩, qc⟩ := hM.r hi
  refine lw_gen (i := i) (cd := cdFst θ p) (v := fstS θ p) (σ' := θ) (σ2 := θ) (σ1 := θ) (z := Int32.toInt64 (iI (fstS θ p))) (WL := fun post => wp_L_firstOf S n (some x) (iI p) (some o1) post) (WR := fun S n post => wp_X4_firstOf S n m (iI p) post) hJ hb
    (fun T J V L E al ln vi h hO post hx => xl_firstOf q1.1 h hO hp hx)
    (fun F S n h post p0 p1 => rf_firstOf q1.1 hB q4 h hp p0 p1)
    (fun _ _ _ _ _ => rfl) (fun _ _ _ _ => rfl) (fun _ => MI_s hM) (MI_s hM) (fun _ => rfl) ?_ hK hQ
  unfold cdFst cdLeaf
  repeat (first | omega | split)
theorem lo_inLine {v1 : Int32} (hJ : JB x m o1 o2 A θ S n B) (hM : MI i θ) (hi : 0 ≤ i ∧ i < 512) (hb : B + 20 ≤ 20000) (hK : ∀ S n θ', JB x m o1 o2 A θ' S n (B + 20) → MI (i + 1) θ' → K S n) {Q : Int32 → fMS → Nat → Prop}
    (hQ : ∀ v7 S8 n9, isA S8 5 m → wp_X4_inLine S8 n9 m v1 (fun v15 S16 n17 => lgE K m o1 v7 (Int32.toInt64 v15) S16 n17) → Q v7 S8 n9) : wp_L_inLine S n (some x) v1 (some o1) Q := by
  obtain ⟨p, e1, hp⟩ : ∃ p, v1 = iI p ∧ i32 p := ⟨v1.toInt, iI_of v1, i32_of v1⟩
  subst e1
  have hB := hJ.bd
  obtain ⟨⟨q1, q2, q3, q4, q5, q6, q7, q8⟩, qc⟩ := hM.r hi
  refine lw_gen (i := i) (cd := cdLn θ p) (v := ((lnS θ).getD p.toNat 0 : Nat)) (σ' := θ) (σ2 := θ) (σ1 := θ) (z := Int32.toInt64 (iI (((lnS θ).getD p.toNat 0 : Nat)))) (WL := fun post => wp_L_inLine S n (some x) (iI p) (some o1) post) (WR := fun S n post => wp_X4_inLine S n m (iI p) post) hJ hb
    (fun T J V L E al ln vi h hO post hx => xl_inLine q1.1 q1.2.2 q3 h hO hp hx)
    (fun F S n h post p0 p1 => rf_inLine q1.1 hB q4 h hp p0 p1)
    (fun _ _ _ _ _ => rfl) (fun _ _ _ _ => rfl) (fun _ => MI_s hM) (MI_s hM) (fun _ => rfl) ?_ hK hQ
  unfold cdLn
  repeat (first | omega | split)
theorem res_n {t u f e : Int} {g k : Nat} (h : g ≠ 9 ∧ (g < 22 ∨ 26 < g)) : resS θ t u f e g k = θ g k := by
  have a : resA θ t f e g k = θ g k := by unfold resA; rw [up_ne (by omega), up_ne (by omega), up_ne (by omega), up_ne (by omega), up_ne (by omega)]
  unfold resS; split
  · unfold resB; rw [up_ne h.1, up_ne (by omega)]; exact a
  · unfold resB; rw [up_ne h.1, up_ne (by omega)]
theorem lo_reserve {v1 v2 v3 v4 : Int32} (hJ : JB x m o1 o2 A θ S n B) (hM : MI i θ) (hi : 0 ≤ i ∧ i < 512) (hb : B + 20 ≤ 20000) (hK : ∀ S n θ', JB x m o1 o2 A θ' S n (B + 20) → MI (i + 1) θ' → K S n) {Q : Int32 → fMS → Nat → Prop}
    (hQ : ∀ v7 S8 n9, isA S8 5 m → wp_X4_reserve S8 n9 m v1 v2 v3 v4 (fun v15 S16 n17 => lgE K m o1 v7 (Int32.toInt64 v15) S16 n17) → Q v7 S8 n9) : wp_L_reserve S n (some x) v1 v2 v3 v4 (some o1) Q := by
  obtain ⟨t, e1, ht⟩ : ∃ t, v1 = iI t ∧ i32 t := ⟨v1.toInt, iI_of v1, i32_of v1⟩
  obtain ⟨u, e2, hu⟩ : ∃ u, v2 = iI u ∧ i32 u := ⟨v2.toInt, iI_of v2, i32_of v2⟩
  obtain ⟨f, e3, hf⟩ : ∃ f, v3 = iI f ∧ i32 f := ⟨v3.toInt, iI_of v3, i32_of v3⟩
  obtain ⟨e, e4, he⟩ : ∃ e, v4 = iI e ∧ i32 e := ⟨v4.toInt, iI_of v4, i32_of v4⟩
  subst e1 e2 e3 e4
  have hB := hJ.bd
  obtain ⟨⟨q1, q2, q3, q4, q5, q6, q7, q8⟩, qc⟩ := hM.r hi
  refine lw_gen (i := i) (cd := cdRes θ t u f e) (v := resS θ t u f e 24 (resK θ t f e)) (σ' := svS (resS θ t u f e)) (σ2 := svS (resS θ t u f e)) (σ1 := θ) (z := Int32.toInt64 (iI (resS θ t u f e 24 (resK θ t f e)))) (WL := fun post => wp_L_reserve S n (some x) (iI t) (iI u) (iI f) (iI e) (some o1) post) (WR := fun S n post => wp_X4_reserve S n m (iI t) (iI u) (iI f) (iI e) post) hJ hb
    (fun T J V L E al ln vi h hO post hx => xl_reserve (fun hc => (MP_res hM.1 hc).1.K0 (by omega)) q1.1 q2 h hO ht hu hf he hx)
    (fun F S n h post p0 p1 => rf_reserve q1 hB q4 q5 (by omega) h ht hu hf he (fun hc => (MP_res hM.1 hc).1.1) p0 p1)
    (fun _ _ _ _ _ => rfl) (fun _ _ _ _ => rfl) (fun hc => MI_sv (MP_res hM.1 hc) (by rw [res_n (by decide)]; have := hM.2.2.1; omega) (by rw [res_n (by decide)]; have := hM.2.2.2; omega)) (MI_s hM) (fun _ => rfl) ?_ hK hQ
  unfold cdRes
  repeat (first | omega | split)
theorem lo_drop {v1 v2 v3 : Int32} (hJ : JB x m o1 o2 A θ S n B) (hM : MI i θ) (hi : 0 ≤ i ∧ i < 512) (hb : B + 20 ≤ 20000) (hK : ∀ S n θ', JB x m o1 o2 A θ' S n (B + 20) → MI (i + 1) θ' → K S n) {Q : Int32 → fMS → Nat → Prop}
    (hQ : ∀ v7 S8 n9, isA S8 5 m → wp_X4_drop S8 n9 m v1 v2 v3 (fun v15 S16 n17 => lgE K m o1 v7 (Int32.toInt64 v15) S16 n17) → Q v7 S8 n9) : wp_L_drop S n (some x) v1 v2 v3 (some o1) Q := by
  obtain ⟨t, e1, ht⟩ : ∃ t, v1 = iI t ∧ i32 t := ⟨v1.toInt, iI_of v1, i32_of v1⟩
  obtain ⟨f, e2, hf⟩ : ∃ f, v2 = iI f ∧ i32 f := ⟨v2.toInt, iI_of v2, i32_of v2⟩
  obtain ⟨e, e3, he⟩ : ∃ e, v3 = iI e ∧ i32 e := ⟨v3.toInt, iI_of v3, i32_of v3⟩
  subst e1 e2 e3
  have hB := hJ.bd
  obtain ⟨⟨q1, q2, q3, q4, q5, q6, q7, q8⟩, qc⟩ := hM.r hi
  have md : cdDrop θ t f e = 0 → MP (33620 * i) (drS θ (spS θ t f e).toNat) := fun hc => by
    rcases spS_ok q1.1.P t f e with z | ⟨k, z1, z2, -⟩
    · unfold cdDrop at hc; rw [if_pos z] at hc; exact absurd hc (by decide)
    · rw [z1, Int.toNat_natCast]; exact MP_dr hM.1 z2
  refine lw_gen (i := i) (cd := cdDrop θ t f e) (v := θ 24 (spS θ t f e).toNat) (σ' := svS (drS θ (spS θ t f e).toNat)) (σ2 := svS (drS θ (spS θ t f e).toNat)) (σ1 := θ) (z := Int32.toInt64 (iI (θ 24 (spS θ t f e).toNat))) (WL := fun post => wp_L_drop S n (some x) (iI t) (iI f) (iI e) (some o1) post) (WR := fun S n post => wp_X4_drop S n m (iI t) (iI f) (iI e) post) hJ hb
    (fun T J V L E al ln vi h hO post hx => xl_drop (fun hc => (md hc).1.K0 (by omega)) q1.1.P q2 h hO ht hf he hx)
    (fun F S n h post p0 p1 => rf_drop q1 hB q4 q5 (by omega) h ht hf he (fun hc => (md hc).1.1) p0 p1)
    (fun _ _ _ _ _ => rfl) (fun _ _ _ _ => rfl) (fun hc => MI_sv (md hc) (by rw [dr_g (by decide)]; have := hM.2.2.1; omega) (by rw [dr_g (by decide)]; have := hM.2.2.2; omega)) (MI_s hM) (fun _ => rfl) ?_ hK hQ
  unfold cdDrop
  repeat (first | omega | split)
theorem lo_reserved {v1 : Int32} (hJ : JB x m o1 o2 A θ S n B) (hM : MI i θ) (hi : 0 ≤ i ∧ i < 512) (hb : B + 20 ≤ 20000) (hK : ∀ S n θ', JB x m o1 o2 A θ' S n (B + 20) → MI (i + 1) θ' → K S n) {Q : Int32 → fMS → Nat → Prop}
    (hQ : ∀ v7 S8 n9, isA S8 5 m → wp_X4_reserved S8 n9 m v1 (fun v15 S16 n17 => lgE K m o1 v7 (Int32.toInt64 v15) S16 n17) → Q v7 S8 n9) : wp_L_reserved S n (some x) v1 (some o1) Q := by
  obtain ⟨p, e1, hp⟩ : ∃ p, v1 = iI p ∧ i32 p := ⟨v1.toInt, iI_of v1, i32_of v1⟩
  subst e1
  have hB := hJ.bd
  obtain ⟨⟨q1, q2, q3, q4, q5, q6, q7, q8⟩, qc⟩ := hM.r hi
  have cw : cdLeaf θ p = 0 → 0 ≤ p := fun hc => by
    unfold cdLeaf at hc
    split at hc
    · rename_i z; exact z.1
    · exact absurd hc (by decide)
  refine lw_gen (i := i) (cd := cdLeaf θ p) (v := rsvS θ p) (σ' := θ) (σ2 := θ) (σ1 := θ) (z := Int32.toInt64 (iI (rsvS θ p.toNat))) (WL := fun post => wp_L_reserved S n (some x) (iI p) (some o1) post) (WR := fun S n post => wp_X4_reserved S n m (iI p) post) hJ hb
    (fun T J V L E al ln vi h hO post hx => xl_reserved q1.1 q2 h hO hp hx)
    (fun F S n h post p0 p1 => rf_reserved q1.1 hB q4 h hp p0 p1)
    (fun _ _ _ _ _ => rfl) (fun _ _ _ _ => rfl) (fun _ => MI_s hM) (MI_s hM) (fun hc => by rw [show ((p.toNat : Nat) : Int) = p by have := cw hc; omega]) ?_ hK hQ
  unfold cdLeaf
  repeat (first | omega | split)
theorem lo_running {v1 : Int32} (hJ : JB x m o1 o2 A θ S n B) (hM : MI i θ) (hi : 0 ≤ i ∧ i < 512) (hb : B + 20 ≤ 20000) (hK : ∀ S n θ', JB x m o1 o2 A θ' S n (B + 20) → MI (i + 1) θ' → K S n) {Q : Int32 → fMS → Nat → Prop}
    (hQ : ∀ v7 S8 n9, isA S8 5 m → wp_X4_running S8 n9 m v1 (fun v15 S16 n17 => lgE K m o1 v7 (Int32.toInt64 v15) S16 n17) → Q v7 S8 n9) : wp_L_running S n (some x) v1 (some o1) Q := by
  obtain ⟨p, e1, hp⟩ : ∃ p, v1 = iI p ∧ i32 p := ⟨v1.toInt, iI_of v1, i32_of v1⟩
  subst e1
  have hB := hJ.bd
  obtain ⟨⟨q1, q2, q3, q4, q5, q6, q7, q8⟩, qc⟩ := hM.r hi
  refine lw_gen (i := i) (cd := cdT θ p) (v := θ 10 p.toNat) (σ' := θ) (σ2 := θ) (σ1 := θ) (z := Int32.toInt64 (iI (θ 10 p.toNat))) (WL := fun post => wp_L_running S n (some x) (iI p) (some o1) post) (WR := fun S n post => wp_X4_running S n m (iI p) post) hJ hb
    (fun T J V L E al ln vi h hO post hx => xl_running q1.1.T h hO hp hx)
    (fun F S n h post p0 p1 => rf_running q1.1 hB q4 h hp p0 p1)
    (fun _ _ _ _ _ => rfl) (fun _ _ _ _ => rfl) (fun _ => MI_s hM) (MI_s hM) (fun _ => rfl) ?_ hK hQ
  unfold cdT
  repeat (first | omega | split)
theorem lo_demand {v1 : Int32} (hJ : JB x m o1 o2 A θ S n B) (hM : MI i θ) (hi : 0 ≤ i ∧ i < 512) (hb : B + 20 ≤ 20000) (hK : ∀ S n θ', JB x m o1 o2 A θ' S n (B + 20) → MI (i + 1) θ' → K S n) {Q : Int32 → fMS → Nat → Prop}
    (hQ : ∀ v7 S8 n9, isA S8 5 m → wp_X4_demand S8 n9 m v1 (fun v15 S16 n17 => lgE K m o1 v7 (Int32.toInt64 v15) S16 n17) → Q v7 S8 n9) : wp_L_demand S n (some x) v1 (some o1) Q := by
  obtain ⟨p, e1, hp⟩ : ∃ p, v1 = iI p ∧ i32 p := ⟨v1.toInt, iI_of v1, i32_of v1⟩
  subst e1
  have hB := hJ.bd
  obtain ⟨⟨q1, q2, q3, q4, q5, q6, q7, q8⟩, qc⟩ := hM.r hi
  refine lw_gen (i := i) (cd := cdT θ p) (v := dmS θ p.toNat) (σ' := θ) (σ2 := θ) (σ1 := θ) (z := Int32.toInt64 (iI (dmS θ p.toNat))) (WL := fun post => wp_L_demand S n (some x) (iI p) (some o1) post) (WR := fun S n post => wp_X4_demand S n m (iI p) post) hJ hb
    (fun T J V L E al ln vi h hO post hx => xl_demand q1.1 q1.2.2 h hO hp hx)
    (fun F S n h post p0 p1 => rf_demand q1.1 hB q4 h hp p0 p1)
    (fun _ _ _ _ _ => rfl) (fun _ _ _ _ => rfl) (fun _ => MI_s hM) (MI_s hM) (fun _ => rfl) ?_ hK hQ
  unfold cdT
  repeat (first | omega | split)
theorem lo_share {v1 : Int32} (hJ : JB x m o1 o2 A θ S n B) (hM : MI i θ) (hi : 0 ≤ i ∧ i < 512) (hb : B + 20 ≤ 20000) (hK : ∀ S n θ', JB x m o1 o2 A θ' S n (B + 20) → MI (i + 1) θ' → K S n) {Q : Int32 → fMS → Nat → Prop}
    (hQ : ∀ v7 S8 n9, isA S8 5 m → wp_X4_share S8 n9 m v1 (fun v15 S16 n17 => lgE K m o1 v7 (Int32.toInt64 v15) S16 n17) → Q v7 S8 n9) : wp_L_share S n (some x) v1 (some o1) Q := by
  obtain ⟨p, e1, hp⟩ : ∃ p, v1 = iI p ∧ i32 p := ⟨v1.toInt, iI_of v1, i32_of v1⟩
  subst e1
  have hB := hJ.bd
  obtain ⟨⟨q1, q2, q3, q4, q5, q6, q7, q8⟩, qc⟩ := hM.r hi
  refine lw_gen (i := i) (cd := cdT θ p) (v := lyS θ 28 p.toNat) (σ' := θ) (σ2 := lyS θ) (σ1 := lyS θ) (z := Int32.toInt64 (iI (lyS θ 28 p.toNat))) (WL := fun post => wp_L_share S n (some x) (iI p) (some o1) post) (WR := fun S n post => wp_X4_share S n m (iI p) post) hJ hb
    (fun T J V L E al ln vi h hO post hx => xl_share q1.1 q1.2.2 h hO hp hx)
    (fun F S n h post p0 p1 => rf_share q1.1 hB q4 h hp p0 p1)
    (fun _ g k _ _ => lyS_ne (by omega) (by omega)) (fun g k _ _ => lyS_ne (by omega) (by omega)) (fun _ => MI_ly (MI_s hM)) (MI_ly (MI_s hM)) (fun _ => rfl) ?_ hK hQ
  unfold cdT
  repeat (first | omega | split)
theorem lo_shareByLevels {v1 : Int32} (hJ : JB x m o1 o2 A θ S n B) (hM : MI i θ) (hi : 0 ≤ i ∧ i < 512) (hb : B + 20 ≤ 20000) (hK : ∀ S n θ', JB x m o1 o2 A θ' S n (B + 20) → MI (i + 1) θ' → K S n) {Q : Int32 → fMS → Nat → Prop}
    (hQ : ∀ v7 S8 n9, isA S8 5 m → wp_X4_shareByLevels S8 n9 m v1 (fun v15 S16 n17 => lgE K m o1 v7 (Int32.toInt64 v15) S16 n17) → Q v7 S8 n9) : wp_L_shareByLevels S n (some x) v1 (some o1) Q := by
  obtain ⟨p, e1, hp⟩ : ∃ p, v1 = iI p ∧ i32 p := ⟨v1.toInt, iI_of v1, i32_of v1⟩
  subst e1
  have hB := hJ.bd
  obtain ⟨⟨q1, q2, q3, q4, q5, q6, q7, q8⟩, qc⟩ := hM.r hi
  refine lw_gen (i := i) (cd := cdT θ p) (v := lyS θ 28 p.toNat) (σ' := θ) (σ2 := lyS θ) (σ1 := lyS θ) (z := Int32.toInt64 (iI (lyS θ 28 p.toNat))) (WL := fun post => wp_L_shareByLevels S n (some x) (iI p) (some o1) post) (WR := fun S n post => wp_X4_shareByLevels S n m (iI p) post) hJ hb
    (fun T J V L E al ln vi h hO post hx => xl_shareByLevels q1.1 q1.2.2 q4 q3 h hO hp hx)
    (fun F S n h post p0 p1 => rf_shareByLevels q1.1 hB q4 h hp p0 p1)
    (fun _ g k _ _ => lyS_ne (by omega) (by omega)) (fun g k _ _ => lyS_ne (by omega) (by omega)) (fun _ => MI_ly (MI_s hM)) (MI_ly (MI_s hM)) (fun _ => rfl) ?_ hK hQ
  unfold cdT
  repeat (first | omega | split)
theorem lo_due {v1 : Int32} (hJ : JB x m o1 o2 A θ S n B) (hM : MI i θ) (hi : 0 ≤ i ∧ i < 512) (hb : B + 20 ≤ 20000) (hK : ∀ S n θ', JB x m o1 o2 A θ' S n (B + 20) → MI (i + 1) θ' → K S n) {Q : Int32 → fMS → Nat → Prop}
    (hQ : ∀ v7 S8 n9, isA S8 5 m → wp_X4_due S8 n9 m v1 (fun v15 S16 n17 => lgE K m o1 v7 (Int32.toInt64 v15) S16 n17) → Q v7 S8 n9) : wp_L_due S n (some x) v1 (some o1) Q := by
  obtain ⟨p, e1, hp⟩ : ∃ p, v1 = iI p ∧ i32 p := ⟨v1.toInt, iI_of v1, i32_of v1⟩
  subst e1
  have hB := hJ.bd
  obtain ⟨⟨q1, q2, q3, q4, q5, q6, q7, q8⟩, qc⟩ := hM.r hi
  refine lw_gen (i := i) (cd := cdLeaf θ p) (v := dueS (lyS θ) p.toNat) (σ' := θ) (σ2 := lyS θ) (σ1 := lyS θ) (z := Int32.toInt64 (iI (dueS (lyS θ) p.toNat))) (WL := fun post => wp_L_due S n (some x) (iI p) (some o1) post) (WR := fun S n post => wp_X4_due S n m (iI p) post) hJ hb
    (fun T J V L E al ln vi h hO post hx => xl_due q1.1 q1.2.2 q2 h hO hp hx)
    (fun F S n h post p0 p1 => rf_due q1.1 hB q4 h hp p0 p1)
    (fun _ g k _ _ => lyS_ne (by omega) (by omega)) (fun g k _ _ => lyS_ne (by omega) (by omega)) (fun _ => MI_ly (MI_s hM)) (MI_ly (MI_s hM)) (fun _ => rfl) ?_ hK hQ
  unfold cdLeaf
  repeat (first | omega | split)
theorem lo_freeFor {v1 : Int32} (hJ : JB x m o1 o2 A θ S n B) (hM : MI i θ) (hi : 0 ≤ i ∧ i < 512) (hb : B + 20 ≤ 20000) (hK : ∀ S n θ', JB x m o1 o2 A θ' S n (B + 20) → MI (i + 1) θ' → K S n) {Q : Int32 → fMS → Nat → Prop}
    (hQ : ∀ v7 S8 n9, isA S8 5 m → wp_X4_freeFor S8 n9 m v1 (fun v15 S16 n17 => lgE K m o1 v7 (Int32.toInt64 v15) S16 n17) → Q v7 S8 n9) : wp_L_freeFor S n (some x) v1 (some o1) Q := by
  obtain ⟨p, e1, hp⟩ : ∃ p, v1 = iI p ∧ i32 p := ⟨v1.toInt, iI_of v1, i32_of v1⟩
  subst e1
  have hB := hJ.bd
  obtain ⟨⟨q1, q2, q3, q4, q5, q6, q7, q8⟩, qc⟩ := hM.r hi
  refine lw_gen (i := i) (cd := cdLeaf θ p) (v := freS θ p) (σ' := θ) (σ2 := θ) (σ1 := θ) (z := Int32.toInt64 (iI (freS θ p))) (WL := fun post => wp_L_freeFor S n (some x) (iI p) (some o1) post) (WR := fun S n post => wp_X4_freeFor S n m (iI p) post) hJ hb
    (fun T J V L E al ln vi h hO post hx => xl_freeFor q1.1 q2 h hO hp hx)
    (fun F S n h post p0 p1 => rf_freeFor q1.1 hB q4 h hp p0 p1)
    (fun _ _ _ _ _ => rfl) (fun _ _ _ _ => rfl) (fun _ => MI_s hM) (MI_s hM) (fun _ => rfl) ?_ hK hQ
  unfold cdLeaf
  repeat (first | omega | split)
end
