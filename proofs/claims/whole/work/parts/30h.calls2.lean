theorem iI_10 : ((iI 1 : Int32) = 0) = False := by simp only [eq_iff_iff, iff_false]; decide
theorem iI_00 : ((iI 0 : Int32) = 0) = True := eq_true rfl
section
variable {F S : fMS} {m n : Nat} {A : Nat → Nat} {σ τ ρ : fG2}
theorem lyS_cong (h : eqC σ τ) : eqC (lyS σ) (lyS τ) := by
  have e4 := h 4 0 (by decide) (by decide)
  have e2 := h 2 0 (by decide) (by decide)
  have h1 : ∀ N, eqC (ly1 σ N) (ly1 τ N) := by
    intro N g k a b
    unfold ly1 dmS
    rw [h.K.dm, h g k a b]
  unfold lyS
  rw [e4, e2]
  unfold dmS
  rw [h.K.dm]
  exact ly2_cong _ _ _ _ ((h1 _).up)
theorem svS_cong (h : eqC σ τ) : eqC (svS σ) (svS τ) := eqC.srv _ _ _ (lyS_cong h)
theorem eqC.C {c : Int} (h : eqC σ τ) (hC : okC c σ) : okC c τ := by
  unfold okC; simp only [h 20 _ (by decide) (by decide), h 18 _ (by decide) (by decide)]; exact hC
theorem sv_ne {g k : Nat} (h1 : g ≠ 10) (h2 : g ≠ 11) (h3 : g ≠ 17) (h4 : g ≠ 16) (h5 : g ≠ 18) (h6 : g ≠ 19) (h7 : g ≠ 20) (h8 : g ≠ 27) (h9 : g ≠ 28) : svS σ g k = σ g k := by
  unfold svS srvS; rw [srvN_ne h1 h2 h3 h4 h5 h6 h7, lyS_ne h8 h9]
theorem rP_srv {c : Int} {σ' : fG2} (h : RM F S m A ρ) (he : eqC σ' ρ) (h0 : ρ 0 0 = 0) (hi : iS σ') (hB : okB ρ) (hS : okS ρ) (hC : okC c σ') (hc : c + 2000 < 100000000) {K : fMS → Nat → Prop}
    (hk : ∀ (S' : fMS) (τ : fG2), RM F S' m A τ → τ 0 0 = 0 → eqC (svS σ') τ → okB τ → okS τ → K S' n) : wp_X4_serves S n m K := by
  have hiρ := he.iS hi
  refine sp_serves hiρ hB hS (he.C hC) hc h (fun S' τ h' he' hB' => ?_)
  refine hk S' τ h' ?_ ((svS_cong he).tr (eqC.of he')) hB' (he'.S (svS_okS hiρ.1 hS))
  rw [he' 0 0 (by decide) (by decide) (by decide) (by decide), sv_ne (by decide) (by decide) (by decide) (by decide) (by decide) (by decide) (by decide) (by decide) (by decide)]; exact h0
def cdAdd (σ : fG2) (p w : Int) : Int := if 0 ≤ p ∧ p < σ 4 0 then (if 1 ≤ w ∧ w ≤ 9 then (if σ 4 0 = 10 ∨ σ 9 p.toNat ≠ 0 then 3 else 0) else 2) else 1
def addS (σ : fG2) (p w : Int) : fG2 := up (up (up (up σ 5 (σ 4 0).toNat p) 6 (σ 4 0).toNat w) 7 (σ 4 0).toNat 500) 4 0 (σ 4 0 + 1)
theorem rf_addTeam {c : Int} (hi : iS σ) (hB : okB σ) (hS : okS σ) (hC : okC c σ) (hc : c + 2000 < 100000000) (h : RM F S m A σ) {p w : Int} (hp : i32 p) (hw : i32 w) {post : Int32 → fMS → Nat → Prop}
    (hn : cdAdd σ p w = 0 → iS (addS σ p w)) (p0 : cdAdd σ p w = 0 → rP F m n A (svS (addS σ p w)) 0 (σ 4 0) post) (p1 : cdAdd σ p w ≠ 0 → rP F m n A σ (cdAdd σ p w) 0 post) : wp_X4_addTeam S n m (iI p) (iI w) post := by
  have q1 := hi.1.T.1; have q2 := hi.1.T.2.1
  have no : ∀ cd : Int, 0 < cd ∧ cd ≤ 100 → cdAdd σ p w = cd → wB_X4_addTeam_49 post m (iI p) (iI w) S n (iI cd) := by
    intro cd hcd e
    unfold wB_X4_addTeam_49
    rw [h.mm, true_and]
    refine sp_go1 h hcd (fun S' h' => ?_)
    refine ⟨fun z => absurd rfl z, fun _ => ?_⟩
    rw [e] at p1
    exact (p1 (by omega)).no hB hS hcd h'
  unfold wp_X4_addTeam
  rw [h.mm, true_and]
  refine sp_isTeam2 h hi.1.T hp (fun c1 => ?_) (fun c1 => ?_)
  · simp only [iI_10, not_false_eq_true, true_implies, false_implies, and_true]
    refine sp_in2 (b := 1) (c := 9) hw (by omega) (by omega) (fun c2 => ?_) (fun c2 => ?_)
    · simp only [iI_10, not_false_eq_true, true_implies, false_implies, and_true]
      obtain ⟨k, rfl⟩ : ∃ k : Nat, p = k := ⟨p.toNat, by omega⟩
      have b9 := hB 9 k
      simp (disch := first | decide | omega) only [h.s, h.mm, h.R, h.Nt, h.kB, h.aT, iI_in, iI_nat, iI_0, show (10 : Int32) = iI 10 from rfl, iI_eq, true_and, Option.some.injEq, exists_eq_left', Int.toNat_natCast]
      have n3 : (σ 4 0 = 10 ∨ σ 9 k ≠ 0) → cdAdd σ k w = 3 := fun z => by unfold cdAdd; rw [if_pos c1, if_pos c2, if_pos (by simpa using z)]
      refine ⟨fun c3 => no 3 (by omega) (n3 (Or.inl c3)), fun c3 => ⟨by omega, fun c4 => ?_, fun c4 => no 3 (by omega) (n3 (Or.inr c4))⟩⟩
      have e : cdAdd σ k w = 0 := by unfold cdAdd; rw [if_pos c1, if_pos c2, if_neg (by simp [c3, c4])]
      obtain ⟨N, hN⟩ : ∃ N : Nat, σ 4 0 = N := ⟨(σ 4 0).toNat, by omega⟩
      unfold wB_X4_addTeam_49
      rw [h.mm, true_and]
      refine sp_go0 h (fun S' h' => ?_)
      have h1 := h'.wA 5 N k rfl (by decide)
      have h2 := h1.wA 6 N w rfl (by decide)
      have h3 := h2.wA 7 N 500 rfl (by decide)
      have h4 := h3.wS 4 (σ 4 0 + 1) rfl
      have e4 : up σ 0 0 0 4 0 = N := by rw [up_ne (by decide)]; exact hN
      have e41 : up (up σ 0 0 0) 5 N k 4 0 = N := by rw [up_ne (by decide)]; exact e4
      have e42 : up (up (up σ 0 0 0) 5 N k) 6 N w 4 0 = N := by rw [up_ne (by decide)]; exact e41
      have e43 : up (up (up (up σ 0 0 0) 5 N k) 6 N w) 7 N 500 4 0 = N := by rw [up_ne (by decide)]; exact e42
      have a43 := h3.s 4 rfl
      rw [e43] at a43
      refine ⟨fun _ => ?_, fun z => absurd z (by decide)⟩
      simp (disch := first | decide | omega) only [h'.s, h'.mm, h'.R, h'.Nt, h'.kI, h1.s, h1.mm, h1.R, h1.Nt, h1.kI, h2.s, h2.mm, h2.R, h2.Nt, h2.kI, iI_in, iI_nat, true_and, Option.some.injEq, exists_eq_left', Int.toNat_natCast, e4, e41, e42]
      refine ⟨by omega, by omega, by omega, ?_⟩
      show wp_X4_serves (wI (wI (wI (wI S' (A 5) N (iI k)) (A 6) N (iI w)) (A 7) N (iI 500)) m 4 (sI (wI (wI (wI S' (A 5) N (iI k)) (A 6) N (iI w)) (A 7) N (iI 500)) m 4 + 1)) n m _
      rw [a43, iI_1, iI_add, ← hN]
      have he : eqC (addS σ k w) (up (up (up (up (up σ 0 0 0) 5 N k) 6 N w) 7 N 500) 4 0 (σ 4 0 + 1)) := by
        unfold addS; rw [hN]; simp only [Int.toNat_natCast]
        exact ((((eqC.up0 (Or.inr rfl)).up).up).up).up
      have hC' : okC c (addS σ k w) := by
        unfold addS okC; simp (disch := decide) only [up_ne]; exact hC
      have hB' : okB (up (up (up (up (up σ 0 0 0) 5 N k) 6 N w) 7 N 500) 4 0 (σ 4 0 + 1)) := ((((hB.w (by omega)).w (by omega)).w (by omega)).w (by omega)).w (by omega)
      have hS' : okS (up (up (up (up (up σ 0 0 0) 5 N k) 6 N w) 7 N 500) 4 0 (σ 4 0 + 1)) := by
        refine okS.u0 (okS.u0 ?_ (by decide) (by decide) (by decide)) (by decide) (by decide) (by decide)
        intro i
        have b := hS i
        rw [up_ne (g := 27) (by decide), up_ne (g := 28) (by decide), up_ne (g := 27) (by decide), up_ne (g := 28) (by decide), up_ne (g := 27) (by decide), up_ne (g := 28) (by decide)]
        by_cases z : i = N
        · subst z; rw [up_at]; omega
        · rw [up_nj z, up_ne (by decide), up_ne (by decide)]; omega
      refine rP_srv h4 he (by simp (disch := decide) only [up_ne, up_at]) (hn e) hB' hS' hC' hc (fun S2 τ g1 g2 g3 g4 g5 => ?_)
      have e44 : τ 4 0 = σ 4 0 + 1 := by rw [g3 4 0 (by decide) (by decide), sv_ne (by decide) (by decide) (by decide) (by decide) (by decide) (by decide) (by decide) (by decide) (by decide)]; exact up_at
      simp (disch := first | decide | omega) only [g1.s, g1.mm, true_and, iI_1, iI_sub, e44]
      rw [show σ 4 0 + 1 - 1 = σ 4 0 by omega]
      exact p0 e S2 τ g1 g2 g3 g4 g5
    · simp only [iI_00, not_true_eq_false, true_implies, false_implies, true_and]
      exact no 2 (by omega) (by unfold cdAdd; rw [if_pos c1, if_neg c2])
  · simp only [iI_00, not_true_eq_false, true_implies, false_implies, true_and]
    exact no 1 (by omega) (by unfold cdAdd; rw [if_neg c1])
end
