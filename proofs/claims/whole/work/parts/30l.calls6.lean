section
variable {F S : fMS} {m n : Nat} {A : Nat → Nat} {σ τ ρ : fG2}
def cdLeaf (σ : fG2) (t : Int) : Int := if 0 ≤ t ∧ t < σ 4 0 then (if kidsN σ t = 0 then 0 else 2) else 1
theorem cdLeaf_b {t : Int} (e : cdLeaf σ t ≠ 0) : 0 < cdLeaf σ t ∧ cdLeaf σ t ≤ 100 := by
  unfold cdLeaf at e ⊢; split
  · split
    · rename_i z1 z2; rw [if_pos z1, if_pos z2] at e; exact absurd rfl e
    · omega
  · omega
theorem cdLeaf_0 {t : Int} (e : cdLeaf σ t = 0) : (0 ≤ t ∧ t < σ 4 0) ∧ kidsN σ t = 0 := by
  unfold cdLeaf at e; split at e
  · rename_i z; split at e
    · rename_i z2; exact ⟨z, z2⟩
    · exact absurd e (by decide)
  · exact absurd e (by decide)
theorem inv_u0 {c : Int} (hi : inv σ) : inv (up σ 0 0 c) := (eqC.up0 (Or.inr rfl)).I hi
theorem rP.gen {σ' : fG2} {c v : Int} (he : eqC σ' σ) (hB : okB σ) (hS : okS σ) (hc : 0 ≤ c ∧ c ≤ 100) {post : Int32 → fMS → Nat → Prop} (hp : rP F m n A σ' c v post) (h : RM F S m A (up σ 0 0 c)) : post (iI v) S n :=
  hp S _ h up_at (he.tr (eqC.up0 (Or.inr rfl))) (hB.w (by omega)) (hS.u0 (by decide) (by decide) (by decide))
def cdFst (σ : fG2) (t : Int) : Int := if cdLeaf σ t = 0 then (if fstS σ t = -1 then 3 else 0) else cdLeaf σ t
theorem rf_firstOf (hi : inv σ) (hB : okB σ) (hS : okS σ) (h : RM F S m A σ) {t : Int} (ht : i32 t) {post : Int32 → fMS → Nat → Prop}
    (p0 : cdFst σ t = 0 → rP F m n A σ 0 (fstS σ t) post) (p1 : cdFst σ t ≠ 0 → rP F m n A σ (cdFst σ t) 0 post) : wp_X4_firstOf S n m (iI t) post := by
  obtain ⟨q1, q2, q3, q4⟩ := hi.B4
  have no : ∀ cd : Int, 0 < cd ∧ cd ≤ 100 → cdFst σ t = cd → wB_X4_firstOf_24 post m (iI t) S n (iI cd) := by
    intro cd hcd e
    unfold wB_X4_firstOf_24
    rw [h.mm, true_and]
    refine sp_go1 h hcd (fun S' h' => ⟨fun _ => ?_, fun z => absurd rfl z⟩)
    rw [e] at p1
    exact (p1 (by omega)).no hB hS hcd h'
  unfold wp_X4_firstOf wB_X4_firstOf_23
  rw [h.mm, true_and]
  refine sp_leafFault h hi.T ht ?_
  rw [show (if 0 ≤ t ∧ t < σ 4 0 then (if kidsN σ t = 0 then (0 : Int) else 2) else 1) = cdLeaf σ t from rfl]
  by_cases e : cdLeaf σ t = 0
  · obtain ⟨c1, c2⟩ := cdLeaf_0 e
    obtain ⟨k, rfl⟩ : ∃ k : Nat, t = k := ⟨t.toNat, by omega⟩
    rw [e]
    refine ⟨fun z => absurd rfl z, fun _ => sp_firstJob h hB hi.J (by omega) (hi.W k) ?_⟩
    have bf := fst_b hi.J k (σ 12 0).toNat 0 (by omega)
    have bf : -1 ≤ fstS σ k ∧ fstS σ k < 512 := bf
    simp (disch := omega) only [iI_m1, iI_eq]
    refine ⟨fun c3 => ?_, fun c3 => no 3 (by omega) (by unfold cdFst; rw [if_pos e, if_pos c3])⟩
    have e2 : cdFst σ k = 0 := by unfold cdFst; rw [if_pos e, if_neg c3]
    unfold wB_X4_firstOf_24
    rw [h.mm, true_and]
    refine sp_go0 h (fun S' h' => ⟨fun z => absurd z (by decide), fun _ => ⟨h'.m, ?_⟩⟩)
    have hi' := inv_u0 (c := 0) hi
    refine sp_firstJob h' (hB.w (by omega)) hi'.J (by omega) (hi'.W k) ?_
    rw [(eqC.up0 (σ := σ) (f := 0) (i := 0) (v := 0) (Or.inr rfl)).K.fst]
    exact (p0 e2).yes hB hS h'
  · have b := cdLeaf_b e
    have e2 : cdFst σ t = cdLeaf σ t := by unfold cdFst; rw [if_neg e]
    refine ⟨fun _ => no _ b e2, fun z => ?_⟩
    rw [iI_0, iI_eq (by omega) (by omega) (by omega) (by omega)] at z
    exact absurd z e
noncomputable def cdLn (σ : fG2) (r : Int) : Int := if 0 ≤ r ∧ r < ((lnS σ).length : Int) then 0 else 1
theorem rf_inLine (hi : inv σ) (hB : okB σ) (hS : okS σ) (h : RM F S m A σ) {r : Int} (hr : i32 r) {post : Int32 → fMS → Nat → Prop}
    (p0 : cdLn σ r = 0 → rP F m n A σ 0 ((lnS σ).getD r.toNat 0 : Nat) post) (p1 : cdLn σ r ≠ 0 → rP F m n A σ (cdLn σ r) 0 post) : wp_X4_inLine S n m (iI r) post := by
  unfold wp_X4_inLine
  rw [h.mm, true_and]
  refine sp_laysLine hi.T hi.J hB hS hi.V hi.W h (fun S' τ h' he hB' hl => ⟨h'.m, ?_⟩)
  have hS' := (eqM.of he).S hS
  have heC := eqC.of (eqM.of he)
  have l10 := hl.2.1
  simp (disch := first | decide | omega) only [h'.s, hl.1, iI_1, iI_sub]
  refine sp_in2 (b := 0) (c := ((lnS σ).length : Int) - 1) hr (by omega) (by omega) (fun c => ?_) (fun c => ?_)
  · have e : cdLn σ r = 0 := if_pos (by omega)
    refine ⟨fun z => absurd z (by decide), fun _ => ?_⟩
    obtain ⟨k, rfl⟩ : ∃ k : Nat, r = k := ⟨r.toNat, by omega⟩
    unfold wB_X4_inLine_24
    simp only [Option.some.injEq, exists_eq_left', h'.mm, true_and]
    refine sp_go0 h' (fun S2 h2 => ⟨fun z => absurd z (by decide), fun _ => ?_⟩)
    have e29 : up τ 0 0 0 29 k = (lnS σ).getD k 0 := by rw [up_ne (by decide)]; exact hl.2.2.1 k (by omega)
    simp (disch := first | decide | omega) only [h2.mm, h2.R, h2.Nt, h2.kI, h2.aT, iI_in, iI_nat, true_and, Option.some.injEq, exists_eq_left', Int.toNat_natCast, e29]
    exact ⟨by omega, (p0 e).gen heC hB' hS' (by omega) h2⟩
  · have e : cdLn σ r = 1 := if_neg (by omega)
    rw [e] at p1
    refine ⟨fun _ => ?_, fun z => absurd rfl z⟩
    unfold wB_X4_inLine_24
    simp only [Option.some.injEq, exists_eq_left', h'.mm, true_and]
    exact sp_go1 (c := 1) h' (by omega) (fun S2 h2 => ⟨fun _ => (p1 (by omega)).gen heC hB' hS' (by omega) h2, fun z => absurd rfl z⟩)
theorem rf_reserved (hi : inv σ) (hB : okB σ) (hS : okS σ) (h : RM F S m A σ) {t : Int} (ht : i32 t) {post : Int32 → fMS → Nat → Prop}
    (p0 : cdLeaf σ t = 0 → rP F m n A σ 0 (rsvS σ t) post) (p1 : cdLeaf σ t ≠ 0 → rP F m n A σ (cdLeaf σ t) 0 post) : wp_X4_reserved S n m (iI t) post := by
  obtain ⟨q1, q2, q3, q4⟩ := hi.B4
  unfold wp_X4_reserved
  rw [h.mm, true_and]
  refine sp_leafFault h hi.T ht ?_
  show wp_X4_goesOn S n m (iI (cdLeaf σ t)) _
  by_cases e : cdLeaf σ t = 0
  · obtain ⟨c1, c2⟩ := cdLeaf_0 e
    rw [e]
    refine sp_go0 h (fun S' h' => ⟨fun z => absurd z (by decide), fun _ => ⟨h'.m, ?_⟩⟩)
    have hi' := inv_u0 (c := 0) hi
    refine sp_reservedFor h' (hB.w (by omega)) hi'.P (by omega) ?_
    rw [(eqC.up0 (σ := σ) (f := 0) (i := 0) (v := 0) (Or.inr rfl)).K.rsv]
    exact (p0 e).yes hB hS h'
  · exact sp_go1 h (cdLeaf_b e) (fun S' h' => ⟨fun _ => (p1 e).no hB hS (cdLeaf_b e) h', fun z => absurd rfl z⟩)
theorem rf_freeFor (hi : inv σ) (hB : okB σ) (hS : okS σ) (h : RM F S m A σ) {t : Int} (ht : i32 t) {post : Int32 → fMS → Nat → Prop}
    (p0 : cdLeaf σ t = 0 → rP F m n A σ 0 (freS σ t) post) (p1 : cdLeaf σ t ≠ 0 → rP F m n A σ (cdLeaf σ t) 0 post) : wp_X4_freeFor S n m (iI t) post := by
  obtain ⟨q1, q2, q3, q4⟩ := hi.B4
  unfold wp_X4_freeFor
  rw [h.mm, true_and]
  refine sp_leafFault h hi.T ht ?_
  show wp_X4_goesOn S n m (iI (cdLeaf σ t)) _
  by_cases e : cdLeaf σ t = 0
  · obtain ⟨c1, c2⟩ := cdLeaf_0 e
    rw [e]
    refine sp_go0 h (fun S' h' => ⟨fun z => absurd z (by decide), fun _ => ⟨h'.m, ?_⟩⟩)
    have hi' := inv_u0 (c := 0) hi
    refine sp_freeOf h' hi'.T (hB.w (by omega)) hi'.P hi'.U (by omega) ?_
    rw [(eqC.up0 (σ := σ) (f := 0) (i := 0) (v := 0) (Or.inr rfl)).K.fre]
    exact (p0 e).yes hB hS h'
  · exact sp_go1 h (cdLeaf_b e) (fun S' h' => ⟨fun _ => (p1 e).no hB hS (cdLeaf_b e) h', fun z => absurd rfl z⟩)
theorem rf_running (hi : inv σ) (hB : okB σ) (hS : okS σ) (h : RM F S m A σ) {t : Int} (ht : i32 t) {post : Int32 → fMS → Nat → Prop}
    (p0 : cdT σ t = 0 → rP F m n A σ 0 (σ 10 t.toNat) post) (p1 : cdT σ t ≠ 0 → rP F m n A σ (cdT σ t) 0 post) : wp_X4_running S n m (iI t) post := by
  obtain ⟨q1, q2, q3, q4⟩ := hi.B4
  unfold wp_X4_running
  rw [h.mm, true_and]
  refine sp_isTeam2 h hi.T ht (fun c1 => ?_) (fun c1 => ?_)
  · have e : cdT σ t = 0 := if_pos c1
    simp only [iI_10, not_false_eq_true, true_implies, false_implies, and_true, true_and]
    obtain ⟨k, rfl⟩ : ∃ k : Nat, t = k := ⟨t.toNat, by omega⟩
    unfold wB_X4_running_14
    simp only [Option.some.injEq, exists_eq_left', h.mm, true_and]
    refine sp_go0 h (fun S' h' => ⟨fun z => absurd z (by decide), fun _ => ?_⟩)
    have e10 : up σ 0 0 0 10 k = σ 10 k := up_ne (by decide)
    simp (disch := first | decide | omega) only [h'.mm, h'.R, h'.Nt, h'.kI, h'.aT, iI_in, iI_nat, true_and, Option.some.injEq, exists_eq_left', Int.toNat_natCast, e10]
    exact ⟨by omega, (p0 e).yes hB hS h'⟩
  · have e : cdT σ t = 1 := if_neg c1
    rw [e] at p1
    simp only [iI_00, not_true_eq_false, true_implies, false_implies, and_true]
    unfold wB_X4_running_14
    simp only [Option.some.injEq, exists_eq_left', h.mm, true_and]
    exact sp_go1 (c := 1) h (by omega) (fun S' h' => ⟨fun _ => (p1 (by omega)).no hB hS (by omega) h', fun z => absurd rfl z⟩)
theorem rf_demand (hi : inv σ) (hB : okB σ) (hS : okS σ) (h : RM F S m A σ) {t : Int} (ht : i32 t) {post : Int32 → fMS → Nat → Prop}
    (p0 : cdT σ t = 0 → rP F m n A σ 0 (dmS σ t.toNat) post) (p1 : cdT σ t ≠ 0 → rP F m n A σ (cdT σ t) 0 post) : wp_X4_demand S n m (iI t) post := by
  obtain ⟨q1, q2, q3, q4⟩ := hi.B4
  unfold wp_X4_demand
  rw [h.mm, true_and]
  refine sp_isTeam2 h hi.T ht (fun c1 => ?_) (fun c1 => ?_)
  · have e : cdT σ t = 0 := if_pos c1
    simp only [iI_10, not_false_eq_true, true_implies, false_implies, and_true, true_and]
    obtain ⟨k, rfl⟩ : ∃ k : Nat, t = k := ⟨t.toNat, by omega⟩
    unfold wB_X4_demand_14
    simp only [Option.some.injEq, exists_eq_left', h.mm, true_and]
    refine sp_go0 h (fun S' h' => ⟨fun z => absurd z (by decide), fun _ => ⟨h'.m, ?_⟩⟩)
    have hi' := inv_u0 (c := 0) hi
    have e4 : up σ 0 0 0 4 0 = σ 4 0 := up_ne (by decide)
    refine sp_demandOf h' hi'.T hi'.U hi'.L 11 k _ (by omega) (by omega) ?_
    rw [(eqC.up0 (σ := σ) (f := 0) (i := 0) (v := 0) (Or.inr rfl)).K.dm]
    exact (p0 e).yes hB hS h'
  · have e : cdT σ t = 1 := if_neg c1
    rw [e] at p1
    simp only [iI_00, not_true_eq_false, true_implies, false_implies, and_true]
    unfold wB_X4_demand_14
    simp only [Option.some.injEq, exists_eq_left', h.mm, true_and]
    exact sp_go1 (c := 1) h (by omega) (fun S' h' => ⟨fun _ => (p1 (by omega)).no hB hS (by omega) h', fun z => absurd rfl z⟩)
theorem rf_share (hi : inv σ) (hB : okB σ) (hS : okS σ) (h : RM F S m A σ) {t : Int} (ht : i32 t) {post : Int32 → fMS → Nat → Prop}
    (p0 : cdT σ t = 0 → rP F m n A (lyS σ) 0 (lyS σ 28 t.toNat) post) (p1 : cdT σ t ≠ 0 → rP F m n A (lyS σ) (cdT σ t) 0 post) : wp_X4_share S n m (iI t) post := by
  obtain ⟨q1, q2, q3, q4⟩ := hi.B4
  unfold wp_X4_share
  rw [h.mm, true_and]
  refine sp_laysShares hi.T hi.U hi.L hi.c h hS (fun S' h' => ⟨h'.m, ?_⟩)
  have hT' := lyS_K.T hi.T
  have hB' := lyS_B hi hS hB
  have hS' := lyS_okS hi hS
  have e4 : lyS σ 4 0 = σ 4 0 := lyS_ne (by decide) (by decide)
  refine sp_isTeam2 h' hT' ht (fun c1 => ?_) (fun c1 => ?_)
  · rw [e4] at c1
    have e : cdT σ t = 0 := if_pos c1
    simp only [iI_10, not_false_eq_true, true_implies, false_implies, and_true, true_and]
    obtain ⟨k, rfl⟩ : ∃ k : Nat, t = k := ⟨t.toNat, by omega⟩
    unfold wB_X4_share_18
    simp only [Option.some.injEq, exists_eq_left', h'.mm, true_and]
    refine sp_go0 h' (fun S2 h2 => ⟨fun z => absurd z (by decide), fun _ => ?_⟩)
    have e28 : up (lyS σ) 0 0 0 28 k = lyS σ 28 k := up_ne (by decide)
    simp (disch := first | decide | omega) only [h2.mm, h2.R, h2.Nt, h2.kI, h2.aT, iI_in, iI_nat, true_and, Option.some.injEq, exists_eq_left', Int.toNat_natCast, e28]
    exact ⟨by omega, (p0 e).gen eqC.rf hB' hS' (by omega) h2⟩
  · rw [e4] at c1
    have e : cdT σ t = 1 := if_neg c1
    rw [e] at p1
    simp only [iI_00, not_true_eq_false, true_implies, false_implies, and_true]
    unfold wB_X4_share_18
    simp only [Option.some.injEq, exists_eq_left', h'.mm, true_and]
    exact sp_go1 (c := 1) h' (by omega) (fun S2 h2 => ⟨fun _ => (p1 (by omega)).gen eqC.rf hB' hS' (by omega) h2, fun z => absurd rfl z⟩)
theorem rf_shareByLevels (hi : inv σ) (hB : okB σ) (hS : okS σ) (h : RM F S m A σ) {t : Int} (ht : i32 t) {post : Int32 → fMS → Nat → Prop}
    (p0 : cdT σ t = 0 → rP F m n A (lyS σ) 0 (lyS σ 28 t.toNat) post) (p1 : cdT σ t ≠ 0 → rP F m n A (lyS σ) (cdT σ t) 0 post) : wp_X4_shareByLevels S n m (iI t) post :=
  ⟨h.m, rf_share hi hB hS h ht p0 p1⟩
theorem rf_due (hi : inv σ) (hB : okB σ) (hS : okS σ) (h : RM F S m A σ) {t : Int} (ht : i32 t) {post : Int32 → fMS → Nat → Prop}
    (p0 : cdLeaf σ t = 0 → rP F m n A (lyS σ) 0 (dueS (lyS σ) t.toNat) post) (p1 : cdLeaf σ t ≠ 0 → rP F m n A (lyS σ) (cdLeaf σ t) 0 post) : wp_X4_due S n m (iI t) post := by
  obtain ⟨q1, q2, q3, q4⟩ := hi.B4
  unfold wp_X4_due
  rw [h.mm, true_and]
  refine sp_laysShares hi.T hi.U hi.L hi.c h hS (fun S' h' => ⟨h'.m, ?_⟩)
  have hi' : inv (lyS σ) := inv_eq hi (fun g k a _ _ _ _ _ hg => lyS_K g k (by omega) (by omega))
  have hB' := lyS_B hi hS hB
  have hS' := lyS_okS hi hS
  have e4 : lyS σ 4 0 = σ 4 0 := lyS_ne (by decide) (by decide)
  have ec : cdLeaf (lyS σ) t = cdLeaf σ t := by unfold cdLeaf; rw [lyS_K.kids, e4]
  refine sp_leafFault h' hi'.T ht ?_
  show wp_X4_goesOn S' n m (iI (cdLeaf (lyS σ) t)) _
  rw [ec]
  by_cases e : cdLeaf σ t = 0
  · obtain ⟨c1, c2⟩ := cdLeaf_0 e
    obtain ⟨k, rfl⟩ : ∃ k : Nat, t = k := ⟨t.toNat, by omega⟩
    rw [e]
    refine sp_go0 h' (fun S2 h2 => ⟨fun z => absurd z (by decide), fun _ => ⟨h2.m, ?_⟩⟩)
    have hi2 := inv_u0 (c := 0) hi'
    have heq : eqC (lyS σ) (up (lyS σ) 0 0 0) := eqC.up0 (Or.inr rfl)
    refine sp_dueOf h2 (hB'.w (by omega)) hi2.P (by omega) ?_
    rw [due_cong heq.K heq.e28]
    exact (p0 e).gen eqC.rf hB' hS' (by omega) h2
  · exact sp_go1 h' (cdLeaf_b e) (fun S2 h2 => ⟨fun _ => (p1 e).gen eqC.rf hB' hS' (by have := cdLeaf_b e; omega) h2, fun z => absurd rfl z⟩)
theorem rf_use (hi : inv σ) (hB : okB σ) (hS : okS σ) (h : RM F S m A σ) {t : Int} (ht : i32 t) {post : Int64 → fMS → Nat → Prop}
    (p0 : cdLeaf σ t = 0 → ∀ (S' : fMS) (τ : fG2), RM F S' m A τ → τ 0 0 = 0 → eqC σ τ → okB τ → okS τ → post (jJ (σ 8 t.toNat)) S' n)
    (p1 : cdLeaf σ t ≠ 0 → ∀ (S' : fMS) (τ : fG2), RM F S' m A τ → τ 0 0 = cdLeaf σ t → eqC σ τ → okB τ → okS τ → post 0 S' n) : wp_X4_use S n m (iI t) post := by
  obtain ⟨q1, q2, q3, q4⟩ := hi.B4
  unfold wp_X4_use
  rw [h.mm, true_and]
  refine sp_leafFault h hi.T ht ?_
  show wp_X4_goesOn S n m (iI (cdLeaf σ t)) _
  by_cases e : cdLeaf σ t = 0
  · obtain ⟨c1, c2⟩ := cdLeaf_0 e
    obtain ⟨k, rfl⟩ : ∃ k : Nat, t = k := ⟨t.toNat, by omega⟩
    rw [e]
    refine sp_go0 h (fun S' h' => ⟨fun z => absurd z (by decide), fun _ => ?_⟩)
    have e8 : up σ 0 0 0 8 k = σ 8 k := up_ne (by decide)
    simp (disch := first | decide | omega) only [h'.mm, h'.R, h'.N8, h'.kJ, h'.J, iI_in, iI_nat, true_and, Option.some.injEq, exists_eq_left', Int.toNat_natCast, e8]
    exact ⟨by omega, p0 e _ _ h' up_at (eqC.up0 (Or.inr rfl)) (hB.w (by omega)) (hS.u0 (by decide) (by decide) (by decide))⟩
  · have b := cdLeaf_b e
    exact sp_go1 h b (fun S' h' => ⟨fun _ => p1 e _ _ h' up_at (eqC.up0 (Or.inr rfl)) (hB.w (by omega)) (hS.u0 (by decide) (by decide) (by decide)), fun z => absurd rfl z⟩)
end
