section
variable {F S : fMS} {m n : Nat} {A : Nat → Nat} {σ τ ρ : fG2}
theorem okC.u {c : Int} (hC : okC c σ) {f j : Nat} {v : Int} (h1 : f ≠ 20) (h2 : f ≠ 18) : okC c (up σ f j v) := by
  unfold okC; simp only [up_ne (Ne.symm h1), up_ne (Ne.symm h2)]; exact hC
def cdSW (σ : fG2) (t w lo hi : Int) : Int := if 0 ≤ t ∧ t < σ 4 0 then (if t = 0 then 2 else if lo ≤ w ∧ w ≤ hi then 0 else 3) else 1
theorem rf_setWeight {c : Int} (hi : iS σ) (hB : okB σ) (hS : okS σ) (hC : okC c σ) (hc : c + 2000 < 100000000) (h : RM F S m A σ) {p w : Int} (hp : i32 p) (hw : i32 w) {post : Int32 → fMS → Nat → Prop}
    (hn : cdSW σ p w 1 9 = 0 → iS (up σ 6 p.toNat w)) (p0 : cdSW σ p w 1 9 = 0 → rP F m n A (svS (up σ 6 p.toNat w)) 0 (σ 6 p.toNat) post) (p1 : cdSW σ p w 1 9 ≠ 0 → rP F m n A σ (cdSW σ p w 1 9) 0 post) : wp_X4_setWeight S n m (iI p) (iI w) post := by
  have q1 := hi.1.T.1; have q2 := hi.1.T.2.1
  have hp' := hp.1; have hp'' := hp.2
  have no : ∀ cd : Int, 0 < cd ∧ cd ≤ 100 → cdSW σ p w 1 9 = cd → wB_X4_setWeight_36 post m (iI p) (iI w) S n (some m) (iI cd) := by
    intro cd hcd e
    unfold wB_X4_setWeight_36
    simp only [Option.some.injEq, exists_eq_left', h.mm, true_and]
    refine sp_go1 h hcd (fun S' h' => ⟨fun z => absurd rfl z, fun _ => ?_⟩)
    rw [e] at p1
    exact (p1 (by omega)).no hB hS hcd h'
  unfold wp_X4_setWeight
  rw [h.mm, true_and]
  refine sp_isTeam2 h hi.1.T hp (fun c1 => ?_) (fun c1 => ?_)
  · simp only [iI_10, not_false_eq_true, true_implies, false_implies, and_true]
    simp (disch := first | decide | omega) only [iI_0, iI_eq]
    obtain ⟨k, rfl⟩ : ∃ k : Nat, p = k := ⟨p.toNat, by omega⟩
    refine ⟨fun c2 => sp_in2 (b := 1) (c := 9) hw (by omega) (by omega) (fun c3 => ⟨fun _ => ?_, fun z => absurd z (by decide)⟩) (fun c3 => ⟨fun z => absurd rfl z, fun _ => ?_⟩), fun c2 => ?_⟩
    · have e : cdSW σ k w 1 9 = 0 := by unfold cdSW; rw [if_pos c1, if_neg c2, if_pos c3]
      have b6 := hS k
      unfold wB_X4_setWeight_36
      simp only [Option.some.injEq, exists_eq_left', h.mm, true_and]
      refine sp_go0 h (fun S' h' => ⟨fun _ => ?_, fun z => absurd z (by decide)⟩)
      have h1 := h'.wA 6 k w rfl (by decide)
      have e6 : up σ 0 0 0 6 k = σ 6 k := up_ne (by decide)
      simp (disch := first | decide | omega) only [h'.s, h'.mm, h'.R, h'.Nt, h'.kI, h'.aT, iI_in, iI_nat, true_and, Option.some.injEq, exists_eq_left', Int.toNat_natCast, e6]
      refine ⟨by omega, ?_⟩
      rintro _ rfl
      refine ⟨by omega, ?_⟩
      refine rP_srv h1 ((eqC.up0 (Or.inr rfl)).up) (by simp (disch := decide) only [up_ne, up_at]) (hn e) ((hB.w (by omega)).w (by omega)) ?_ (hC.u (by decide) (by decide)) hc (fun S2 τ g1 g2 g3 g4 g5 => p0 e S2 τ g1 g2 g3 g4 g5)
      intro i
      have b := hS i
      rw [up_ne (g := 27) (by decide), up_ne (g := 28) (by decide), up_ne (g := 27) (by decide), up_ne (g := 28) (by decide)]
      by_cases z : i = k
      · subst z; rw [up_at]; omega
      · rw [up_nj z, up_ne (by decide)]; omega
    · exact no 3 (by omega) (by unfold cdSW; rw [if_pos c1, if_neg c2, if_neg c3])
    · exact no 2 (by omega) (by unfold cdSW; rw [if_pos c1, if_pos c2])
  · simp only [iI_00, not_true_eq_false, true_implies, false_implies, true_and]
    exact no 1 (by omega) (by unfold cdSW; rw [if_neg c1])
theorem rf_setLimit {c : Int} (hi : iS σ) (hB : okB σ) (hS : okS σ) (hC : okC c σ) (hc : c + 2000 < 100000000) (h : RM F S m A σ) {p w : Int} (hp : i32 p) (hw : i32 w) {post : Int32 → fMS → Nat → Prop}
    (hn : cdSW σ p w 0 500 = 0 → iS (up σ 7 p.toNat w)) (p0 : cdSW σ p w 0 500 = 0 → rP F m n A (svS (up σ 7 p.toNat w)) 0 (σ 7 p.toNat) post) (p1 : cdSW σ p w 0 500 ≠ 0 → rP F m n A σ (cdSW σ p w 0 500) 0 post) : wp_X4_setLimit S n m (iI p) (iI w) post := by
  have q1 := hi.1.T.1; have q2 := hi.1.T.2.1
  have hp' := hp.1; have hp'' := hp.2
  have no : ∀ cd : Int, 0 < cd ∧ cd ≤ 100 → cdSW σ p w 0 500 = cd → wB_X4_setLimit_37 post m (iI p) (iI w) S n (some m) (iI cd) := by
    intro cd hcd e
    unfold wB_X4_setLimit_37
    simp only [Option.some.injEq, exists_eq_left', h.mm, true_and]
    refine sp_go1 h hcd (fun S' h' => ⟨fun z => absurd rfl z, fun _ => ?_⟩)
    rw [e] at p1
    exact (p1 (by omega)).no hB hS hcd h'
  unfold wp_X4_setLimit
  rw [h.mm, true_and]
  refine sp_isTeam2 h hi.1.T hp (fun c1 => ?_) (fun c1 => ?_)
  · simp only [iI_10, not_false_eq_true, true_implies, false_implies, and_true]
    simp (disch := first | decide | omega) only [iI_0, iI_eq]
    obtain ⟨k, rfl⟩ : ∃ k : Nat, p = k := ⟨p.toNat, by omega⟩
    refine ⟨fun c2 => sp_in2 (b := 0) (c := 500) hw (by omega) (by omega) (fun c3 => ⟨fun _ => ?_, fun z => absurd z (by decide)⟩) (fun c3 => ⟨fun z => absurd rfl z, fun _ => ?_⟩), fun c2 => ?_⟩
    · have e : cdSW σ k w 0 500 = 0 := by unfold cdSW; rw [if_pos c1, if_neg c2, if_pos c3]
      have b7 := hB 7 k
      unfold wB_X4_setLimit_37
      simp only [Option.some.injEq, exists_eq_left', h.mm, true_and]
      refine sp_go0 h (fun S' h' => ⟨fun _ => ?_, fun z => absurd z (by decide)⟩)
      have h1 := h'.wA 7 k w rfl (by decide)
      have e7 : up σ 0 0 0 7 k = σ 7 k := up_ne (by decide)
      simp (disch := first | decide | omega) only [h'.s, h'.mm, h'.R, h'.Nt, h'.kI, h'.aT, iI_in, iI_nat, true_and, Option.some.injEq, exists_eq_left', Int.toNat_natCast, e7]
      refine ⟨by omega, ?_⟩
      rintro _ rfl
      refine ⟨by omega, ?_⟩
      exact rP_srv h1 ((eqC.up0 (Or.inr rfl)).up) (by simp (disch := decide) only [up_ne, up_at]) (hn e) ((hB.w (by omega)).w (by omega)) ((hS.u0 (by decide) (by decide) (by decide)).u0 (by decide) (by decide) (by decide)) (hC.u (by decide) (by decide)) hc (fun S2 τ g1 g2 g3 g4 g5 => p0 e S2 τ g1 g2 g3 g4 g5)
    · exact no 3 (by omega) (by unfold cdSW; rw [if_pos c1, if_neg c2, if_neg c3])
    · exact no 2 (by omega) (by unfold cdSW; rw [if_pos c1, if_pos c2])
  · simp only [iI_00, not_true_eq_false, true_implies, false_implies, true_and]
    exact no 1 (by omega) (by unfold cdSW; rw [if_neg c1])
def cdCap (σ : fG2) (w : Int) : Int := if 0 ≤ w ∧ w ≤ 200 then (if σ 10 0 ≤ w then 0 else 2) else 1
theorem rf_setCapacity {c : Int} (hi : iS σ) (hB : okB σ) (hS : okS σ) (hC : okC c σ) (hc : c + 2000 < 100000000) (h : RM F S m A σ) {w : Int} (hw : i32 w) {post : Int32 → fMS → Nat → Prop}
    (hn : cdCap σ w = 0 → iS (up σ 2 0 w)) (p0 : cdCap σ w = 0 → rP F m n A (svS (up σ 2 0 w)) 0 (σ 2 0) post) (p1 : cdCap σ w ≠ 0 → rP F m n A σ (cdCap σ w) 0 post) : wp_X4_setCapacity S n m (iI w) post := by
  have q1 := hi.1.T.1; have q2 := hi.1.T.2.1
  have no : ∀ cd : Int, 0 < cd ∧ cd ≤ 100 → cdCap σ w = cd → wB_X4_setCapacity_31 post m (iI w) S n (some m) (iI cd) := by
    intro cd hcd e
    unfold wB_X4_setCapacity_31
    simp only [Option.some.injEq, exists_eq_left', h.mm, true_and]
    refine sp_go1 h hcd (fun S' h' => ⟨fun z => absurd rfl z, fun _ => ?_⟩)
    rw [e] at p1
    exact (p1 (by omega)).no hB hS hcd h'
  unfold wp_X4_setCapacity
  refine sp_in2 (b := 0) (c := 200) hw (by omega) (by omega) (fun c1 => ?_) (fun c1 => ?_)
  · have b10 := hB 10 0
    simp only [iI_10, not_false_eq_true, true_implies, false_implies, and_true]
    simp (disch := first | decide | omega) only [h.mm, h.R, h.Nt, h.kI, h.aT, iI_0, iI_in, iI_nat, iI_le, true_and, Option.some.injEq, exists_eq_left', Int.toNat_zero]
    refine ⟨by omega, fun c2 => ?_, fun c2 => no 2 (by omega) (by unfold cdCap; rw [if_pos c1, if_neg c2])⟩
    have e : cdCap σ w = 0 := by unfold cdCap; rw [if_pos c1, if_pos c2]
    unfold wB_X4_setCapacity_31
    simp only [Option.some.injEq, exists_eq_left', h.mm, true_and]
    refine sp_go0 h (fun S' h' => ⟨fun _ => ?_, fun z => absurd z (by decide)⟩)
    have h1 := h'.wS 2 w rfl
    have e2 : up σ 0 0 0 2 0 = σ 2 0 := up_ne (by decide)
    simp (disch := first | decide | omega) only [h'.s, h'.mm, true_and, e2]
    rintro _ rfl
    exact rP_srv h1 ((eqC.up0 (Or.inr rfl)).up) (by simp (disch := decide) only [up_ne, up_at]) (hn e) ((hB.w (by omega)).w (by omega)) ((hS.u0 (by decide) (by decide) (by decide)).u0 (by decide) (by decide) (by decide)) (hC.u (by decide) (by decide)) hc (fun S2 τ g1 g2 g3 g4 g5 => p0 e S2 τ g1 g2 g3 g4 g5)
  · simp only [iI_00, not_true_eq_false, true_implies, false_implies, true_and]
    exact no 1 (by omega) (by unfold cdCap; rw [if_neg c1])
def cdHalf (w : Int) : Int := if 1 ≤ w ∧ w ≤ 100 then 0 else 1
theorem rf_setHalfTime (hB : okB σ) (hS : okS σ) (h : RM F S m A σ) {w : Int} (hw : i32 w) {post : Int32 → fMS → Nat → Prop}
    (p0 : cdHalf w = 0 → rP F m n A (up σ 3 0 w) 0 (σ 3 0) post) (p1 : cdHalf w ≠ 0 → rP F m n A σ (cdHalf w) 0 post) : wp_X4_setHalfTime S n m (iI w) post := by
  unfold wp_X4_setHalfTime
  refine sp_in2 (b := 1) (c := 100) hw (by omega) (by omega) (fun c1 => ?_) (fun c1 => ?_)
  · have e : cdHalf w = 0 := if_pos c1
    simp only [iI_10, not_false_eq_true, true_implies, false_implies, and_true]
    unfold wB_X4_setHalfTime_16
    simp only [Option.some.injEq, exists_eq_left', h.mm, true_and]
    refine sp_go0 h (fun S' h' => ⟨fun _ => ?_, fun z => absurd z (by decide)⟩)
    have h1 := h'.wS 3 w rfl
    have e3 : up σ 0 0 0 3 0 = σ 3 0 := up_ne (by decide)
    simp (disch := first | decide | omega) only [h'.s, h'.mm, true_and, e3]
    rintro _ rfl
    exact p0 e _ _ h1 (by simp (disch := decide) only [up_ne, up_at]) ((eqC.up0 (Or.inr rfl)).up) ((hB.w (by omega)).w (by omega)) ((hS.u0 (by decide) (by decide) (by decide)).u0 (by decide) (by decide) (by decide))
  · have e : cdHalf w = 1 := if_neg c1
    rw [e] at p1
    simp only [iI_00, not_true_eq_false, true_implies, false_implies, true_and]
    unfold wB_X4_setHalfTime_16
    simp only [Option.some.injEq, exists_eq_left', h.mm, true_and]
    exact sp_go1 (c := 1) h (by omega) (fun S' h' => ⟨fun z => absurd rfl z, fun _ => (p1 (by omega)).no hB hS (by omega) h'⟩)
theorem rf_get (hB : okB σ) (hS : okS σ) (h : RM F S m A σ) {f : Nat} (hf : rS f = true) (h0 : f ≠ 0) {post : Int32 → fMS → Nat → Prop} (p0 : rP F m n A σ 0 (σ f 0) post) : isA S 5 m ∧ post (sI (wI S m 0 (0 : Int32)) m f) (wI S m 0 (0 : Int32)) n := by
  refine ⟨h.m, ?_⟩
  have h1 := h.wS 0 0 rfl
  have e := h1.s f hf
  rw [up_ne h0] at e
  show post (sI (wI S m 0 (iI 0)) m f) (wI S m 0 (iI 0)) n
  rw [e]
  exact p0.yes hB hS h1
theorem rf_teams (hB : okB σ) (hS : okS σ) (h : RM F S m A σ) {post : Int32 → fMS → Nat → Prop} (p0 : rP F m n A σ 0 (σ 4 0) post) : wp_X4_teams S n m post := rf_get hB hS h rfl (by decide) p0
theorem rf_tick (hB : okB σ) (hS : okS σ) (h : RM F S m A σ) {post : Int32 → fMS → Nat → Prop} (p0 : rP F m n A σ 0 (σ 1 0) post) : wp_X4_tick S n m post := rf_get hB hS h rfl (by decide) p0
theorem rf_jobs (hB : okB σ) (hS : okS σ) (h : RM F S m A σ) {post : Int32 → fMS → Nat → Prop} (p0 : rP F m n A σ 0 (σ 12 0) post) : wp_X4_jobs S n m post := rf_get hB hS h rfl (by decide) p0
def cdPar (σ : fG2) (t : Int) : Int := if 0 ≤ t ∧ t < σ 4 0 then (if t = 0 then 2 else 0) else 1
theorem rf_parentOf (hT : okT σ) (hB : okB σ) (hS : okS σ) (h : RM F S m A σ) {p : Int} (hp : i32 p) {post : Int32 → fMS → Nat → Prop}
    (p0 : cdPar σ p = 0 → rP F m n A σ 0 (σ 5 p.toNat) post) (p1 : cdPar σ p ≠ 0 → rP F m n A σ (cdPar σ p) 0 post) : wp_X4_parentOf S n m (iI p) post := by
  have q1 := hT.1; have q2 := hT.2.1
  have hp' := hp.1; have hp'' := hp.2
  have no : ∀ cd : Int, 0 < cd ∧ cd ≤ 100 → cdPar σ p = cd → wB_X4_parentOf_22 post m (iI p) S n (some m) (iI cd) := by
    intro cd hcd e
    unfold wB_X4_parentOf_22
    simp only [Option.some.injEq, exists_eq_left', h.mm, true_and]
    refine sp_go1 h hcd (fun S' h' => ⟨fun _ => ?_, fun z => absurd rfl z⟩)
    rw [e] at p1
    exact (p1 (by omega)).no hB hS hcd h'
  unfold wp_X4_parentOf
  rw [h.mm, true_and]
  refine sp_isTeam2 h hT hp (fun c1 => ?_) (fun c1 => ?_)
  · simp only [iI_10, not_false_eq_true, true_implies, false_implies, and_true]
    simp (disch := first | decide | omega) only [iI_0, iI_eq]
    obtain ⟨k, rfl⟩ : ∃ k : Nat, p = k := ⟨p.toNat, by omega⟩
    refine ⟨fun c2 => ?_, fun c2 => no 2 (by omega) (by unfold cdPar; rw [if_pos c1, if_pos c2])⟩
    have e : cdPar σ k = 0 := by unfold cdPar; rw [if_pos c1, if_neg c2]
    unfold wB_X4_parentOf_22
    simp only [Option.some.injEq, exists_eq_left', h.mm, true_and]
    refine sp_go0 h (fun S' h' => ⟨fun z => absurd z (by decide), fun _ => ?_⟩)
    have e5 : up σ 0 0 0 5 k = σ 5 k := up_ne (by decide)
    simp (disch := first | decide | omega) only [h'.mm, h'.R, h'.Nt, h'.kI, h'.aT, iI_in, iI_nat, true_and, Option.some.injEq, exists_eq_left', Int.toNat_natCast, e5]
    exact ⟨by omega, (p0 e).yes hB hS h'⟩
  · simp only [iI_00, not_true_eq_false, true_implies, false_implies, true_and]
    exact no 1 (by omega) (by unfold cdPar; rw [if_neg c1])
def cdT (σ : fG2) (t : Int) : Int := if 0 ≤ t ∧ t < σ 4 0 then 0 else 1
theorem rf_children (hT : okT σ) (hB : okB σ) (hS : okS σ) (h : RM F S m A σ) {p : Int} (hp : i32 p) {post : Int32 → fMS → Nat → Prop}
    (p0 : cdT σ p = 0 → rP F m n A σ 0 (kidsN σ p) post) (p1 : cdT σ p ≠ 0 → rP F m n A σ (cdT σ p) 0 post) : wp_X4_children S n m (iI p) post := by
  have q1 := hT.1; have q2 := hT.2.1
  unfold wp_X4_children
  rw [h.mm, true_and]
  refine sp_isTeam2 h hT hp (fun c1 => ?_) (fun c1 => ?_)
  · have e : cdT σ p = 0 := if_pos c1
    simp only [iI_10, not_false_eq_true, true_implies, false_implies, and_true, true_and]
    unfold wB_X4_children_14
    simp only [Option.some.injEq, exists_eq_left', h.mm, true_and]
    refine sp_go0 h (fun S' h' => ⟨fun z => absurd z (by decide), fun _ => ⟨h'.m, ?_⟩⟩)
    refine sp_childrenOf h' (hT.up (by decide) (by decide)) (by omega) ?_
    rw [kidsN_up (by decide) (by decide)]
    exact (p0 e).yes hB hS h'
  · have e : cdT σ p = 1 := if_neg c1
    rw [e] at p1
    simp only [iI_00, not_true_eq_false, true_implies, false_implies, and_true]
    unfold wB_X4_children_14
    simp only [Option.some.injEq, exists_eq_left', h.mm, true_and]
    exact sp_go1 (c := 1) h (by omega) (fun S' h' => ⟨fun _ => (p1 (by omega)).no hB hS (by omega) h', fun z => absurd rfl z⟩)
end
