theorem vpn1 : vp_nar .boolean (iI 1) = iI 1 := by decide
section
variable {F S : fMS} {m n : Nat} {A : Nat → Nat} {σ τ ρ : fG2}
theorem inv.B4 (hi : inv σ) : 1 ≤ σ 4 0 ∧ σ 4 0 ≤ 10 ∧ 0 ≤ σ 12 0 ∧ σ 12 0 ≤ 512 := ⟨hi.T.1, hi.T.2.1, hi.J.1, hi.J.2.1⟩
def cdSub (σ : fG2) (t s k : Int) : Int := if 0 ≤ t ∧ t < σ 4 0 then (if (1 ≤ s ∧ s ≤ 60) ∧ (1 ≤ k ∧ k ≤ 50) then (if kidsN σ t = 0 then (if σ 21 0 = 40 then 4 else 0) else 3) else 2) else 1
def subS (σ : fG2) (t s k : Int) : fG2 := up (up (up (up (up (up (up (up σ 13 (σ 12 0).toNat t) 14 (σ 12 0).toNat s) 15 (σ 12 0).toNat k) 17 (σ 12 0).toNat 0) 11 t.toNat (σ 11 t.toNat + s)) 9 t.toNat 1) 12 0 (σ 12 0 + 1)) 21 0 (σ 21 0 + 1)
theorem rf_submit {c : Int} (hi : iS σ) (hB : okB σ) (hS : okS σ) (hC : okC c σ) (hc : c + 2000 < 100000000) (h : RM F S m A σ) {t s k : Int} (ht : i32 t) (hs : i32 s) (hk : i32 k) {post : Int32 → fMS → Nat → Prop}
    (hn : cdSub σ t s k = 0 → iS (subS σ t s k)) (p0 : cdSub σ t s k = 0 → rP F m n A (svS (subS σ t s k)) 0 (σ 12 0) post) (p1 : cdSub σ t s k ≠ 0 → rP F m n A σ (cdSub σ t s k) 0 post) : wp_X4_submit S n m (iI t) (iI s) (iI k) post := by
  obtain ⟨q1, q2, q3, q4⟩ := hi.1.B4
  have no : ∀ cd : Int, 0 < cd ∧ cd ≤ 100 → cdSub σ t s k = cd → wB_X4_submit_62 post m (iI t) (iI s) (iI k) S n (iI cd) := by
    intro cd hcd e
    unfold wB_X4_submit_62
    rw [h.mm, true_and]
    refine sp_go1 h hcd (fun S' h' => ⟨fun z => absurd rfl z, fun _ => ?_⟩)
    rw [e] at p1
    exact (p1 (by omega)).no hB hS hcd h'
  unfold wp_X4_submit wB_X4_submit_32
  rw [h.mm, true_and]
  refine sp_isTeam2 h hi.1.T ht (fun c1 => ?_) (fun c1 => ?_)
  · simp only [iI_10, not_false_eq_true, true_implies, false_implies, and_true]
    have n2 : ¬ ((1 ≤ s ∧ s ≤ 60) ∧ (1 ≤ k ∧ k ≤ 50)) → cdSub σ t s k = 2 := fun z => by unfold cdSub; rw [if_pos c1, if_neg z]
    refine sp_in2 (b := 1) (c := 60) hs (by omega) (by omega) (fun c2 => ⟨fun z => absurd z (by decide), fun _ => ?_⟩) (fun c2 => ⟨fun _ => no 2 (by omega) (n2 (fun z => c2 z.1)), fun z => absurd rfl z⟩)
    refine sp_in2 (b := 1) (c := 50) hk (by omega) (by omega) (fun c3 => ⟨fun _ => ?_, fun z => absurd z (by decide)⟩) (fun c3 => ⟨fun z => absurd rfl z, fun _ => no 2 (by omega) (n2 (fun z => c3 z.2))⟩)
    refine sp_isLeaf2 h hi.1.T (by omega) (fun c4 => ⟨fun _ => ?_, fun z => absurd z (by decide)⟩) (fun c4 => ⟨fun z => absurd rfl z, fun _ => no 3 (by omega) (by unfold cdSub; rw [if_pos c1, if_pos ⟨c2, c3⟩, if_neg c4])⟩)
    have b21 := hB 21 0; have a21 := hi.1.a
    simp (disch := first | decide | omega) only [h.s, h.mm, show (40 : Int32) = iI 40 from rfl, iI_eq, true_and]
    refine ⟨fun c5 => ?_, fun c5 => no 4 (by omega) (by unfold cdSub; rw [if_pos c1, if_pos ⟨c2, c3⟩, if_pos c4, if_pos c5])⟩
    have e : cdSub σ t s k = 0 := by unfold cdSub; rw [if_pos c1, if_pos ⟨c2, c3⟩, if_pos c4, if_neg c5]
    obtain ⟨j, hj⟩ : ∃ j : Nat, σ 12 0 = j := ⟨(σ 12 0).toNat, by omega⟩
    obtain ⟨l, rfl⟩ : ∃ l : Nat, t = l := ⟨t.toNat, by omega⟩
    have bw := hi.1.L.2 l
    unfold wB_X4_submit_62
    rw [h.mm, true_and]
    refine sp_go0 h (fun S' h' => ⟨fun _ => ?_, fun z => absurd z (by decide)⟩)
    have e12 : up σ 0 0 0 12 0 = j := by rw [up_ne (by decide)]; exact hj
    have h1 := h'.wA 13 j l rfl (by decide)
    have h2 := h1.wA 14 j s rfl (by decide)
    have h3 := h2.wA 15 j k rfl (by decide)
    have h4 := h3.wA 17 j 0 rfl (by decide)
    have h5 := h4.wA 11 l (σ 11 l + s) rfl (by decide)
    have h6 := h5.wA 9 l 1 rfl (by decide)
    have h7 := h6.wS 12 ((j : Int) + 1) rfl
    have h8 := h7.wS 21 (σ 21 0 + 1) rfl
    simp (disch := first | decide | omega) only [h'.s, h'.mm, e12, true_and]
    rintro _ rfl
    simp (disch := first | decide | omega) only [h'.s, h'.mm, h'.R, h'.Nj, h'.kI, h1.mm, h1.R, h1.Nj, h1.kI, h2.mm, h2.R, h2.Nj, h2.kI, h3.mm, h3.R, h3.Nj, h3.kI, h4.mm, h4.R, h4.Nj, h4.Nt, h4.kI, h4.aT, h5.mm, h5.R, h5.Nt, h5.kB, h6.s, h7.s, iI_0, vpn1, iI_1, iI_in, iI_nat, iI_add, true_and, Option.some.injEq, exists_eq_left', Int.toNat_natCast, up_ne, hj, e12]
    refine ⟨by omega, by omega, by omega, by omega, by omega, by omega, by omega, ?_⟩
    have he : eqC (subS σ l s k) (up (up (up (up (up (up (up (up (up σ 0 0 0) 13 j l) 14 j s) 15 j k) 17 j 0) 11 l (σ 11 l + s)) 9 l 1) 12 0 ((j : Int) + 1)) 21 0 (σ 21 0 + 1)) := by
      unfold subS; rw [hj]; simp only [Int.toNat_natCast]
      exact ((((((((eqC.up0 (Or.inr rfl)).up).up).up).up).up).up).up).up
    have hC' : okC c (subS σ l s k) := by
      unfold subS okC; simp (disch := decide) only [up_ne]; exact hC
    refine rP_srv h8 he (by simp (disch := decide) only [up_ne, up_at]) (hn e) ?_ ?_ hC' hc (fun S2 τ g1 g2 g3 g4 g5 => ?_)
    · exact ((((((((hB.w (by omega)).w (by omega)).w (by omega)).w (by omega)).w (by omega)).w (by omega)).w (by omega)).w (by omega)).w (by omega)
    · exact ((((((((hS.u0 (by decide) (by decide) (by decide)).u0 (by decide) (by decide) (by decide)).u0 (by decide) (by decide) (by decide)).u0 (by decide) (by decide) (by decide)).u0 (by decide) (by decide) (by decide)).u0 (by decide) (by decide) (by decide)).u0 (by decide) (by decide) (by decide)).u0 (by decide) (by decide) (by decide)).u0 (by decide) (by decide) (by decide)
    · rw [← hj]; exact p0 e S2 τ g1 g2 g3 g4 g5
  · simp only [iI_00, not_true_eq_false, true_implies, false_implies, true_and]
    exact no 1 (by omega) (by unfold cdSub; rw [if_neg c1])
theorem sp_isJob2 (h : RM F S m A σ) (hJ : okJ σ) {t : Int} (ht : i32 t) {post : Int32 → Prop} (h1 : 0 ≤ t ∧ t < σ 12 0 → post (iI 1)) (h0 : ¬ (0 ≤ t ∧ t < σ 12 0) → post (iI 0)) : wp_X4_isJob S m (iI t) post := by
  have q1 := hJ.1; have q2 := hJ.2.1
  unfold wp_X4_isJob
  simp (disch := first | decide | omega) only [h.s, h.mm, iI_1, iI_sub, true_and]
  refine sp_in2 (b := 0) (c := σ 12 0 - 1) ht (by omega) (by omega) (fun c => ⟨by decide, h1 (by omega)⟩) (fun c => ⟨by decide, h0 (by omega)⟩)
def cdJob (σ : fG2) (j : Int) : Int := if 0 ≤ j ∧ j < σ 12 0 then 0 else 1
def cdLive (σ : fG2) (j : Int) : Int := if 0 ≤ j ∧ j < σ 12 0 then (if σ 17 j.toNat = 0 ∨ σ 17 j.toNat = 1 then 0 else 2) else 1
theorem sp_live (h : RM F S m A σ) (hJ : okJ σ) (hB : okB σ) {t : Int} (ht : i32 t) {post : Int32 → Prop} (hp : post (iI (cdLive σ t))) : wp_X4_liveFault S m (iI t) post := by
  have q1 := hJ.1; have q2 := hJ.2.1
  unfold wp_X4_liveFault
  rw [h.mm, true_and]
  refine sp_isJob2 h hJ ht (fun c1 => ?_) (fun c1 => ?_)
  · simp only [iI_10, not_false_eq_true, true_implies, false_implies, and_true]
    obtain ⟨k, rfl⟩ : ∃ k : Nat, t = k := ⟨t.toNat, by omega⟩
    have b17 := hB 17 k
    unfold cdLive at hp
    rw [if_pos c1] at hp
    simp only [Int.toNat_natCast] at hp
    simp (disch := first | decide | omega) only [h.mm, h.R, h.Nj, h.kI, h.aJ, iI_0, iI_1, iI_in, iI_nat, iI_eq, true_and, Option.some.injEq, exists_eq_left', Int.toNat_natCast]
    refine ⟨by omega, fun c => ?_, fun c => ⟨by omega, fun c2 => ?_, fun c2 => ?_⟩⟩
    · rw [if_pos (Or.inl c)] at hp; exact hp
    · rw [if_pos (Or.inr c2)] at hp; exact hp
    · rw [if_neg (fun z => z.elim c c2)] at hp; exact hp
  · simp only [iI_00, not_true_eq_false, true_implies, false_implies, true_and]
    unfold cdLive at hp
    rw [if_neg c1] at hp; exact hp
/-- a job that waits or runs is no more -/
def lvF (σ : fG2) (j : Nat) (st : Int) : fG2 := up (up (if σ 17 j = 1 then rmS σ (σ 13 j).toNat (-(σ 14 j)) else up σ 11 (σ 13 j).toNat (σ 11 (σ 13 j).toNat - σ 14 j)) 17 j st) 21 0 (σ 21 0 - 1)
theorem sp_leaves (hT : okT σ) (hJ : okJ σ) (hB : okB σ) (h : RM F S m A σ) {j : Nat} (hj : (j : Int) < σ 12 0) {st : Int} {post : fMS → Nat → Prop} (hp : ∀ S', RM F S' m A (lvF σ j st) → post S' n) : wp_X4_leaves S n m (iI j) (iI st) post := by
  have q2 := hT.2.1; have q4 := hJ.2.1
  have bj := hJ.2.2 j hj
  have b17 := hB 17 j; have b21 := hB 21 0
  obtain ⟨l, hl⟩ : ∃ l : Nat, σ 13 j = l := ⟨(σ 13 j).toNat, by omega⟩
  have b11 := hB 11 l
  have fin : ∀ (S2 : fMS) (ρ : fG2), RM F S2 m A ρ → ρ 21 0 = σ 21 0 → up (up ρ 17 j st) 21 0 (σ 21 0 - 1) = lvF σ j st → wB_X4_leaves_50 post m (iI j) (iI st) S2 n := by
    intro S2 ρ h2 e21 e
    have w1 := h2.wA 17 j st rfl (by decide)
    have w2 := w1.wS 21 (σ 21 0 - 1) rfl
    rw [e] at w2
    unfold wB_X4_leaves_50
    simp (disch := first | decide | omega) only [h2.mm, h2.R, h2.Nj, h2.kI, w1.s, iI_in, iI_nat, iI_1, iI_sub, true_and, Option.some.injEq, exists_eq_left', Int.toNat_natCast, up_ne, e21]
    exact ⟨by omega, hp _ w2⟩
  unfold wp_X4_leaves
  simp (disch := first | decide | omega) only [h.mm, h.R, h.Nj, h.Nt, h.kI, h.aJ, h.aT, iI_1, iI_in, iI_nat, iI_eq, iI_sub, iI_neg, true_and, Option.some.injEq, exists_eq_left', Int.toNat_natCast, hl]
  refine ⟨by omega, fun c => ⟨by omega, by omega, by omega, by omega, ?_⟩, fun c => ⟨by omega, by omega, ?_⟩⟩
  · have w := h.wA 11 l (σ 11 l - σ 14 j) rfl (by decide)
    refine fin _ _ w (up_ne (by decide)) ?_
    unfold lvF; rw [if_neg c, hl]; rfl
  · refine sp_runsMore hT h (by omega) (fun S2 h2 => fin S2 _ h2 (adL_ne (by decide)) ?_)
    unfold lvF; rw [if_pos c, hl]; rfl
end
