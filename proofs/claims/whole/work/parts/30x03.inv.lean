-- ===== what every call keeps =====
section
variable {σ τ ρ ψ : fG2} {j : Nat} {c : Int}
/-- teams that never had work, jobs or reservations -/
def hW (σ : fG2) : Prop := (∀ j : Nat, (j : Int) < σ 12 0 → σ 9 (σ 13 j).toNat ≠ 0) ∧ (∀ i : Nat, (i : Int) < σ 22 0 → σ 9 (σ 23 i).toNat ≠ 0) ∧ (∀ k : Nat, (k : Int) < σ 4 0 → σ 9 k = 0 → σ 8 k = 0) ∧ ∀ k : Nat, σ 4 0 ≤ k → σ 8 k = 0 ∧ σ 9 k = 0
def MP (c : Int) (σ : fG2) : Prop := K1 c σ ∧ hW σ ∧ frs σ
def MI (i : Int) (σ : fG2) : Prop := MP (33620 * i) σ ∧ setl σ ∧ σ 12 0 ≤ i ∧ σ 1 0 ≤ 20 * i
theorem okC_le {c' : Int} (h : okC c σ) (hc : c ≤ c') : okC c' σ := ⟨⟨h.1.1, by have := h.1.2; omega⟩, fun j => ⟨(h.2 j).1, by have := (h.2 j).2; omega⟩⟩
theorem MP_le {c' : Int} (h : MP c σ) (hc : c ≤ c') : MP c' σ := by
  obtain ⟨⟨a1, a2, a3, a4, a5, a6, a7, a8⟩, b, d⟩ := h
  exact ⟨⟨a1, a2, a3, a4, okC_le a5 hc, a6, a7, a8⟩, b, d⟩
theorem hW_c (h : hW σ) (e4 : τ 4 0 = σ 4 0) (e8 : ∀ k, τ 8 k = σ 8 k) (e9 : ∀ k, τ 9 k = σ 9 k) (e12 : τ 12 0 = σ 12 0) (e13 : ∀ k, τ 13 k = σ 13 k) (e22 : τ 22 0 = σ 22 0) (e23 : ∀ k, τ 23 k = σ 23 k) : hW τ := by
  unfold hW; simp only [e4, e8, e9, e12, e13, e22, e23]; exact h
theorem eqC.hW (e : eqC σ τ) (h : hW σ) : _root_.Jvm.Pilot.CFairquotaBrokerLaw_law_r8435_3f40a5.hW τ := hW_c h (e 4 0 (by decide) (by decide)) (fun k => e 8 k (by decide) (by decide)) (fun k => e 9 k (by decide) (by decide)) (e 12 0 (by decide) (by decide)) (fun k => e 13 k (by decide) (by decide)) (e 22 0 (by decide) (by decide)) (fun k => e 23 k (by decide) (by decide))
theorem eqC.frs (e : eqC σ τ) (h : frs σ) : _root_.Jvm.Pilot.CFairquotaBrokerLaw_law_r8435_3f40a5.frs τ := by
  intro j hj
  rw [e 12 0 (by decide) (by decide)] at hj
  rw [e 16 j (by decide) (by decide), e 18 j (by decide) (by decide)]; exact h j hj
theorem eqC.MP (e : eqC σ τ) (h : MP c σ) : _root_.Jvm.Pilot.CFairquotaBrokerLaw_law_r8435_3f40a5.MP c τ := ⟨e.K1 h.1, e.hW h.2.1, e.frs h.2.2⟩
theorem eqC.setl (e : eqC σ τ) (h : setl σ) : _root_.Jvm.Pilot.CFairquotaBrokerLaw_law_r8435_3f40a5.setl τ := by
  unfold _root_.Jvm.Pilot.CFairquotaBrokerLaw_law_r8435_3f40a5.setl at h ⊢; rw [(lyS_cong e).nx]; exact h
theorem eqC.MI {i : Int} (e : eqC σ τ) (h : MI i σ) : _root_.Jvm.Pilot.CFairquotaBrokerLaw_law_r8435_3f40a5.MI i τ := ⟨e.MP h.1, e.setl h.2.1, by rw [e 12 0 (by decide) (by decide)]; exact h.2.2.1, by rw [e 1 0 (by decide) (by decide)]; exact h.2.2.2⟩
theorem MP_sv (h : MP c σ) : MP (c + 1681) (svS σ) := by
  refine ⟨K1_sv h.1, ?_, svS_frs h.1.1 h.2.2⟩
  exact hW_c h.2.1 (sv_n (by decide)) (fun k => sv_n (by decide)) (fun k => sv_n (by decide)) (sv_n (by decide)) (fun k => sv_n (by decide)) (sv_n (by decide)) (fun k => sv_n (by decide))
/-- after a call that serves -/
theorem MI_sv {i : Int} (h : MP (33620 * i) ψ) (h12 : ψ 12 0 ≤ i + 1) (h1 : ψ 1 0 ≤ 20 * (i + 1)) : MI (i + 1) (svS ψ) := by
  refine ⟨MP_le (MP_sv h) (by omega), setl_sv h.1.1, ?_, ?_⟩
  · rw [sv_n (by decide)]; exact h12
  · rw [sv_n (by decide)]; exact h1
theorem MI_s {i : Int} (h : MI i σ) : MI (i + 1) σ := ⟨MP_le h.1 (by omega), h.2.1, by have := h.2.2.1; omega, by have := h.2.2.2; omega⟩
theorem MI_ly {i : Int} (h : MI i σ) : MI i (lyS σ) := by
  obtain ⟨⟨⟨a1, a2, a3, a4, a5, a6, a7, a8⟩, b, d⟩, e, f, g⟩ := h
  have n : ∀ {g k : Nat}, g < 27 → lyS σ g k = σ g k := fun hg => lyS_ne (by omega) (by omega)
  have n4 : ∀ k, lyS σ 4 k = σ 4 k := fun k => n (by decide)
  have n5 : ∀ k, lyS σ 5 k = σ 5 k := fun k => n (by decide)
  refine ⟨⟨⟨lyS_iS a1, okZ_ne n4 n5 (n (by decide)) (fun k => n (by decide)) a2, okW1_ne (n4 0) (fun k => n (by decide)) a3, lyS_okS a1.1 a4, lyS_C a5, ?_, ?_, ?_⟩, ?_, ?_⟩, ?_, by rw [n (by decide)]; exact f, by rw [n (by decide)]; exact g⟩
  · unfold okR; simp only [n (g := 12) (by decide), n (g := 17) (by decide), n (g := 16) (by decide)]; exact a6
  · unfold okQ; simp only [n (g := 1) (by decide), n (g := 8) (by decide), n (g := 3) (by decide)]; exact a7
  · unfold okN; rw [kids_c n4 n5]; simp only [n4, n (g := 8) (by decide)]; exact a8
  · exact hW_c b (n (by decide)) (fun k => n (by decide)) (fun k => n (by decide)) (n (by decide)) (fun k => n (by decide)) (n (by decide)) (fun k => n (by decide))
  · unfold frs; simp only [n (g := 12) (by decide), n (g := 16) (by decide), n (g := 18) (by decide)]; exact d
  · exact setl_c a1.1.T (fun g k _ hg => n hg) (fun k hk => lyS_out a1.1.T hk) e
theorem inv_c (hi : inv σ) (e : ∀ g k : Nat, g ≠ 2 → g ≠ 3 → g ≠ 6 → g ≠ 7 → g < 29 → τ g k = σ g k) (h7 : ∀ k, 0 ≤ τ 7 k ∧ τ 7 k ≤ 500) (h6 : ∀ k, 0 ≤ τ 6 k ∧ τ 6 k ≤ 9) (h2 : 0 ≤ τ 2 0 ∧ τ 2 0 ≤ 200) : inv τ := by
  have ch : ∀ t, chS τ t = chS σ t := fun t => chF_cong (fun k => e 5 k (by decide) (by decide) (by decide) (by decide) (by decide)) 11 t
  obtain ⟨a1, a2, a3, a4, a5, a6, a7, a8, a9⟩ := hi
  refine ⟨?_, ?_, ?_, ?_, h7, h6, h2, ?_, ?_⟩
  · unfold okT; simp (disch := decide) only [e]; exact a1
  · unfold okJ; simp (disch := decide) only [e]; exact a2
  · unfold okP; simp (disch := decide) only [e]; exact a3
  · unfold okV; simp (disch := decide) only [e]; exact a4
  · unfold tie njN rnF wtF alF; simp only [ch]; simp (disch := decide) only [e]; exact a8
  · simp (disch := decide) only [e]; exact a9
theorem MP_c (h : MP c σ) (e : ∀ g k : Nat, g ≠ 2 → g ≠ 3 → g ≠ 6 → g ≠ 7 → g < 29 → τ g k = σ g k) (h7 : ∀ k, 0 ≤ τ 7 k ∧ τ 7 k ≤ 500) (h6 : ∀ k, 0 ≤ τ 6 k ∧ τ 6 k ≤ 9) (h2 : 0 ≤ τ 2 0 ∧ τ 2 0 ≤ 200) (hw : ∀ k : Nat, (k : Int) < σ 4 0 → 1 ≤ τ 6 k) (h3 : 1 ≤ τ 3 0 ∧ τ 3 0 ≤ 100) : MP c τ := by
  obtain ⟨⟨a1, a2, a3, a4, a5, a6, a7, a8⟩, b, d⟩ := h
  have n : ∀ {g k : Nat}, (g ≠ 2 ∧ g ≠ 3 ∧ g ≠ 6 ∧ g ≠ 7) ∧ g < 29 → τ g k = σ g k := fun hg => e _ _ hg.1.1 hg.1.2.1 hg.1.2.2.1 hg.1.2.2.2 hg.2
  have n4 : ∀ k, τ 4 k = σ 4 k := fun k => n (by decide)
  have n5 : ∀ k, τ 5 k = σ 5 k := fun k => n (by decide)
  refine ⟨⟨⟨inv_c a1.1 e h7 h6 h2, ?_, ?_⟩, okZ_ne n4 n5 (n (by decide)) (fun k => n (by decide)) a2, ?_, ?_, ?_, ?_, ?_, ?_⟩, hW_c b (n4 0) (fun k => n (by decide)) (fun k => n (by decide)) (n (by decide)) (fun k => n (by decide)) (n (by decide)) (fun k => n (by decide)), ?_⟩
  · exact okD_sub a1.2.1 (n (by decide)) (fun i z => by rw [n (by decide)] at z; exact z) (fun i => n (by decide)) (n (by decide))
  · unfold okE; rw [kids_c n4 n5]; simp only [n (g := 12) (by decide), n (g := 13) (by decide)]; exact a1.2.2
  · intro k hk; rw [n4] at hk; exact hw k hk
  · intro k; have := a4 k; rw [n (g := 27) (by decide), n (g := 28) (by decide)]; exact ⟨this.1, this.2.1, this.2.2.1, this.2.2.2.1, h6 k⟩
  · unfold okC; simp only [n (g := 20) (by decide), n (g := 18) (by decide)]; exact a5
  · unfold okR; simp only [n (g := 12) (by decide), n (g := 17) (by decide), n (g := 16) (by decide)]; exact a6
  · refine ⟨?_, h3⟩; simp only [n (g := 1) (by decide), n (g := 8) (by decide)]; exact a7.1
  · unfold okN; rw [kids_c n4 n5]; simp only [n4, n (g := 8) (by decide)]; exact a8
  · unfold frs; simp only [n (g := 12) (by decide), n (g := 16) (by decide), n (g := 18) (by decide)]; exact d
theorem MP_6 {k : Nat} {w : Int} (h : MP c σ) (hw : 1 ≤ w ∧ w ≤ 9) : MP c (up σ 6 k w) := by
  have hi := h.1.1.1
  refine MP_c h (fun g i _ _ h6 _ _ => up_ne h6) (fun i => by rw [up_ne (by decide)]; exact hi.l i) (fun i => ?_) (by rw [up_ne (by decide)]; exact hi.c) (fun i hi' => ?_) (by rw [up_ne (by decide)]; exact h.1.2.2.2.2.2.2.1.2)
  · by_cases e : i = k
    · subst e; rw [up_at]; omega
    · rw [up_nj e]; exact hi.w i
  · by_cases e : i = k
    · subst e; rw [up_at]; omega
    · rw [up_nj e]; exact h.1.2.2.1 i hi'
theorem MP_7 {k : Nat} {w : Int} (h : MP c σ) (hw : 0 ≤ w ∧ w ≤ 500) : MP c (up σ 7 k w) := by
  have hi := h.1.1.1
  refine MP_c h (fun g i _ _ _ h7 _ => up_ne h7) (fun i => ?_) (fun i => by rw [up_ne (by decide)]; exact hi.w i) (by rw [up_ne (by decide)]; exact hi.c) (fun i hi' => by rw [up_ne (by decide)]; exact h.1.2.2.1 i hi') (by rw [up_ne (by decide)]; exact h.1.2.2.2.2.2.2.1.2)
  by_cases e : i = k
  · subst e; rw [up_at]; omega
  · rw [up_nj e]; exact hi.l i
theorem MP_2 {w : Int} (h : MP c σ) (hw : 0 ≤ w ∧ w ≤ 200) : MP c (up σ 2 0 w) := by
  have hi := h.1.1.1
  exact MP_c h (fun g i h2 _ _ _ _ => up_ne h2) (fun i => by rw [up_ne (by decide)]; exact hi.l i) (fun i => by rw [up_ne (by decide)]; exact hi.w i) (by rw [up_at]; exact hw) (fun i hi' => by rw [up_ne (by decide)]; exact h.1.2.2.1 i hi') (by rw [up_ne (by decide)]; exact h.1.2.2.2.2.2.2.1.2)
theorem MP_3 {w : Int} (h : MP c σ) (hw : 1 ≤ w ∧ w ≤ 100) : MP c (up σ 3 0 w) := by
  have hi := h.1.1.1
  exact MP_c h (fun g i _ h3 _ _ _ => up_ne h3) (fun i => by rw [up_ne (by decide)]; exact hi.l i) (fun i => by rw [up_ne (by decide)]; exact hi.w i) (by rw [up_ne (by decide)]; exact hi.c) (fun i hi' => by rw [up_ne (by decide)]; exact h.1.2.2.1 i hi') (by rw [up_at]; exact hw)
theorem MI_half {i w : Int} (h : MI i σ) (hw : 1 ≤ w ∧ w ≤ 100) : MI i (up σ 3 0 w) := by
  refine ⟨MP_3 h.1 hw, setl_c h.1.1.1.1.T (fun g k a _ => up_ne a.2) (fun k _ => up_ne (by decide)) h.2.1, by rw [up_ne (by decide)]; exact h.2.2.1, by rw [up_ne (by decide)]; exact h.2.2.2⟩
/-- a job leaves -/
theorem MP_lv {st : Int} (h : MP c σ) (hj : (j : Int) < σ 12 0) (hs : σ 17 j = 0 ∨ σ 17 j = 1) (h0 : st ≠ 0) (h1 : st ≠ 1) : MP c (lvF σ j st) := by
  obtain ⟨⟨a1, a2, a3, a4, a5, a6, a7, a8⟩, b, d⟩ := h
  have n : ∀ {g k : Nat}, g ≠ 10 ∧ g ≠ 11 ∧ g ≠ 17 ∧ g ≠ 21 → lvF σ j st g k = σ g k := fun hg => lvF_ne hg.1 hg.2.1 hg.2.2.1 hg.2.2.2
  have n4 : ∀ k, lvF σ j st 4 k = σ 4 k := fun k => n (by decide)
  have n5 : ∀ k, lvF σ j st 5 k = σ 5 k := fun k => n (by decide)
  refine ⟨⟨lvF_iS a1 hj hs h0 h1, okZ_ne n4 n5 (n (by decide)) (fun k => n (by decide)) a2, okW1_ne (n4 0) (fun k => n (by decide)) a3, ?_, ?_, ?_, ?_, ?_⟩, hW_c b (n4 0) (fun k => n (by decide)) (fun k => n (by decide)) (n (by decide)) (fun k => n (by decide)) (n (by decide)) (fun k => n (by decide)), ?_⟩
  · unfold okS; simp only [n (g := 27) (by decide), n (g := 28) (by decide), n (g := 6) (by decide)]; exact a4
  · unfold okC; simp only [n (g := 20) (by decide), n (g := 18) (by decide)]; exact a5
  · intro i h12 h17
    rw [n (by decide)] at h12
    rw [lvF_17] at h17
    rw [n (by decide)]
    split at h17
    · exact absurd h17 h1
    · exact a6 i h12 h17
  · unfold okQ; simp only [n (g := 1) (by decide), n (g := 8) (by decide), n (g := 3) (by decide)]; exact a7
  · unfold okN; rw [kids_c n4 n5]; simp only [n4, n (g := 8) (by decide)]; exact a8
  · unfold frs; simp only [n (g := 12) (by decide), n (g := 16) (by decide), n (g := 18) (by decide)]; exact d
/-- a tick -/
theorem no_runs (hi : inv σ) (b1 : ∀ j : Nat, (j : Int) < σ 12 0 → σ 9 (σ 13 j).toNat ≠ 0) {k : Nat} (hk : kidsN σ k = 0) (h9 : σ 9 k = 0) : σ 10 k = 0 := by
  rw [hi.t.1 k]
  have : fSum (rnF σ k) 0 (njN σ) = fSum (fun _ => 0) 0 (njN σ) := by
    refine fSum_cong _ _ (fun i _ h2 => ?_)
    have hin := njN_lt hi.J h2
    have bj := hi.J.2.2 i hin
    unfold rnF
    rw [if_neg]
    rintro ⟨-, z⟩
    have e := (chS_leaf hi.T (t := σ 13 i) (by omega) (by omega) hk).mp z
    refine b1 i hin ?_
    rw [← e, Int.toNat_natCast]; exact h9
  rw [this]
  have z : ∀ d k : Nat, fSum (fun _ => 0) k d = 0 := by
    intro d; induction d with
    | zero => intro k; rfl
    | succ d ih => intro k; simp only [fSum, ih]; rfl
  exact z _ _
theorem edF_f : ∀ (d j : Nat) (σ : fG2), ((j + d : Nat) : Int) ≤ σ 12 0 → frs σ → frs (edF j d σ) := by
  intro d; induction d with
  | zero => intro j σ _ h; exact h
  | succ d ih =>
    intro j σ hj h
    refine ih (j + 1) (ed1 σ j) ?_ (fun i hi => ?_)
    · rw [ed1_ne (by decide) (by decide) (by decide) (by decide) (by decide)]; omega
    · rw [ed1_ne (by decide) (by decide) (by decide) (by decide) (by decide)] at hi
      have hij : i ≠ j := by omega
      rw [ed1_ne (g := 18) (by decide) (by decide) (by decide) (by decide) (by decide)]
      refine ⟨?_, (h i hi).2⟩
      unfold ed1
      split
      · split
        · rw [lvF_ne (by decide) (by decide) (by decide) (by decide), up_nj hij]; exact (h i hi).1
        · rw [up_nj hij]; exact (h i hi).1
      · exact (h i hi).1
theorem MP_tk (h : MP c σ) : MP c (tkS σ) := by
  obtain ⟨a, b, d⟩ := h
  have hi := a.1.1
  have q := hi.J.1
  have n : ∀ {g k : Nat}, g ≠ 10 ∧ g ≠ 11 ∧ g ≠ 17 ∧ g ≠ 21 ∧ g ≠ 16 ∧ g ≠ 8 ∧ g ≠ 1 → tkS σ g k = σ g k := fun hg => tkS_ne hg.1 hg.2.1 hg.2.2.1 hg.2.2.2.1 hg.2.2.2.2.1 hg.2.2.2.2.2.1 hg.2.2.2.2.2.2
  obtain ⟨τ, hτ⟩ : ∃ τ, τ = edF 0 (σ 12 0).toNat (tk1 σ) := ⟨_, rfl⟩
  have ne : ∀ g k : Nat, g ≠ 10 → g ≠ 11 → g ≠ 17 → g ≠ 21 → g ≠ 16 → g ≠ 1 → τ g k = σ g k := fun g k a b c d e f => by rw [hτ, edF_ne a b c d e]; exact up_ne f
  have e12 : tk1 σ 12 0 = σ 12 0 := up_ne (by decide)
  have hiτ : iS τ := by rw [hτ]; exact edF_iS _ _ _ (up1_iS a.1) (by rw [e12]; omega)
  have et : tkS σ = usS τ := by unfold tkS; rw [hτ]
  have n4 : ∀ k, τ 4 k = σ 4 k := fun k => ne 4 k (by decide) (by decide) (by decide) (by decide) (by decide) (by decide)
  have n9 : ∀ k, τ 9 k = σ 9 k := fun k => ne 9 k (by decide) (by decide) (by decide) (by decide) (by decide) (by decide)
  have n8 : ∀ k, τ 8 k = σ 8 k := fun k => ne 8 k (by decide) (by decide) (by decide) (by decide) (by decide) (by decide)
  refine ⟨K1_tk a, ⟨?_, ?_, fun k hk h9 => ?_, fun k hk => ?_⟩, ?_⟩
  · simp only [n (g := 12) (by decide), n (g := 13) (by decide), n (g := 9) (by decide)]; exact b.1
  · simp only [n (g := 22) (by decide), n (g := 23) (by decide), n (g := 9) (by decide)]; exact b.2.1
  · rw [n (by decide)] at hk h9
    have h8 := b.2.2.1 k hk h9
    rw [et]; unfold usS usK
    split
    · unfold us1
      have z : (if kidsN τ k = 0 then τ 10 k else 0) = 0 := by
        by_cases ck : kidsN τ k = 0
        · rw [if_pos ck]
          refine no_runs hiτ.1 (fun j hj => ?_) ck (by rw [n9]; exact h9)
          rw [ne 12 0 (by decide) (by decide) (by decide) (by decide) (by decide) (by decide)] at hj
          rw [n9, ne 13 j (by decide) (by decide) (by decide) (by decide) (by decide) (by decide)]; exact b.1 j hj
        · rw [if_neg ck]
      rw [z, n8, h8]
      split <;> decide
    · rw [n8]; exact h8
  · rw [n (by decide)] at hk
    have := b.2.2.2 k hk
    have q1 := hi.T.1
    refine ⟨?_, by rw [n (by decide)]; exact this.2⟩
    rw [et]; unfold usS usK
    rw [if_neg (by rw [n4]; omega), n8]; exact this.1
  · have f1 : frs (tk1 σ) := fun i hi => by
      rw [e12] at hi
      unfold tk1; rw [up_ne (by decide), up_ne (by decide)]; exact d i hi
    have f2 := edF_f (σ 12 0).toNat 0 (tk1 σ) (by rw [e12]; omega) f1
    rw [← hτ] at f2
    rw [et]
    intro i hi
    rw [usS_ne (by decide)] at hi
    rw [usS_ne (by decide), usS_ne (by decide)]; exact f2 i hi
theorem MP_ps : ∀ (d : Nat) (σ : fG2) (c : Int), MP c σ → MP (c + 1681 * d) (psF d σ) ∧ (setl σ ∨ 1 ≤ d → setl (psF d σ)) ∧ psF d σ 12 0 = σ 12 0 ∧ psF d σ 1 0 = σ 1 0 + d := by
  intro d; induction d with
  | zero => intro σ c h; exact ⟨by simpa [psF] using h, fun z => z.resolve_right (by omega), rfl, by simp [psF]⟩
  | succ d ih =>
    intro σ c h
    have h1 := MP_tk h
    obtain ⟨b1, b2, b3, b4⟩ := ih (svS (tkS σ)) (c + 1681) (MP_sv h1)
    have e : psF (d + 1) σ = psF d (svS (tkS σ)) := rfl
    rw [e]
    refine ⟨MP_le b1 (by push_cast; omega), fun _ => b2 (Or.inl (setl_sv h1.1.1)), ?_, ?_⟩
    · rw [b3, sv_n (by decide), tkS_ne (by decide) (by decide) (by decide) (by decide) (by decide) (by decide) (by decide)]
    · rw [b4, sv_n (by decide), tkS_1]; push_cast; omega
theorem MI_ps {i w : Int} (h : MI i σ) (hw : 1 ≤ w ∧ w ≤ 20) : MI (i + 1) (psF w.toNat σ) := by
  obtain ⟨b1, b2, b3, b4⟩ := MP_ps w.toNat σ _ h.1
  exact ⟨MP_le b1 (by omega), b2 (Or.inl h.2.1), by rw [b3]; have := h.2.2.1; omega, by rw [b4]; have := h.2.2.2; omega⟩
end
