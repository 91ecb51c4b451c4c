section
variable {σ τ ρ : fG2} {j : Nat} {st : Int}
theorem lvF_17 (i : Nat) : lvF σ j st 17 i = if i = j then st else σ 17 i := by
  unfold lvF; rw [up_ne (by decide)]
  by_cases e : i = j
  · subst e; rw [up_at, if_pos rfl]
  · rw [up_nj e, if_neg e]; split
    · exact adL_ne (by decide)
    · exact up_ne (by decide)
theorem lvF_21 : lvF σ j st 21 0 = σ 21 0 - 1 := up_at
theorem lvF_10 (k : Nat) (hl : 0 ≤ σ 13 j) : lvF σ j st 10 k = if σ 17 j = 1 ∧ k ∈ chS σ (σ 13 j) then σ 10 k - σ 14 j else σ 10 k := by
  unfold lvF; rw [up_ne (by decide), up_ne (by decide)]
  by_cases c : σ 17 j = 1
  · rw [if_pos c]; unfold rmS adL
    rw [show (((σ 13 j).toNat : Nat) : Int) = σ 13 j by omega]
    by_cases d : k ∈ chS σ (σ 13 j)
    · rw [if_pos ⟨rfl, d⟩, if_pos ⟨c, d⟩]; omega
    · rw [if_neg (fun z => d z.2), if_neg (fun z => d z.2)]
  · rw [if_neg c, if_neg (fun z => c z.1), up_ne (by decide)]
theorem lvF_11 (k : Nat) : lvF σ j st 11 k = if ¬ σ 17 j = 1 ∧ k = (σ 13 j).toNat then σ 11 k - σ 14 j else σ 11 k := by
  unfold lvF; rw [up_ne (by decide), up_ne (by decide)]
  by_cases c : σ 17 j = 1
  · rw [if_pos c, if_neg (fun z => z.1 c)]; exact adL_ne (by decide)
  · rw [if_neg c]
    by_cases d : k = (σ 13 j).toNat
    · subst d; rw [up_at, if_pos ⟨c, rfl⟩]
    · rw [up_nj d, if_neg (fun z => d z.2)]
theorem lvF_inv (h : inv σ) (hj : (j : Int) < σ 12 0) (hs : σ 17 j = 0 ∨ σ 17 j = 1) (h0 : st ≠ 0) (h1 : st ≠ 1) : inv (lvF σ j st) := by
  have bj := h.J.2.2 j hj
  have ne : ∀ g k : Nat, g ≠ 10 → g ≠ 11 → g ≠ 17 → g ≠ 21 → lvF σ j st g k = σ g k := fun g k a b c d => lvF_ne a b c d
  have ch : ∀ t, chS (lvF σ j st) t = chS σ t := fun t => chF_cong (fun k => ne 5 k (by decide) (by decide) (by decide) (by decide)) 11 t
  have e13 : ∀ i, lvF σ j st 13 i = σ 13 i := fun i => ne 13 i (by decide) (by decide) (by decide) (by decide)
  have e14 : ∀ i, lvF σ j st 14 i = σ 14 i := fun i => ne 14 i (by decide) (by decide) (by decide) (by decide)
  have e12 : njN (lvF σ j st) = njN σ := by unfold njN; rw [ne 12 0 (by decide) (by decide) (by decide) (by decide)]
  have jl : j < 0 + njN σ := by unfold njN; omega
  refine ⟨?_, ?_, ?_, ?_, ?_, ?_, ?_, ⟨fun k => ?_, fun k => ?_, ?_⟩, ?_⟩
  · unfold okT; simp only [ne 4 _ (by decide) (by decide) (by decide) (by decide), ne 5 _ (by decide) (by decide) (by decide) (by decide)]; exact h.T
  · unfold okJ; simp only [ne 12 _ (by decide) (by decide) (by decide) (by decide), e13, ne 4 _ (by decide) (by decide) (by decide) (by decide), e14, ne 15 _ (by decide) (by decide) (by decide) (by decide)]; exact h.J
  · unfold okP; simp only [ne 22 _ (by decide) (by decide) (by decide) (by decide), ne 24 _ (by decide) (by decide) (by decide) (by decide)]; exact h.P
  · unfold okV; simp only [ne 8 _ (by decide) (by decide) (by decide) (by decide)]; exact h.V
  · simp only [ne 7 _ (by decide) (by decide) (by decide) (by decide)]; exact h.l
  · simp only [ne 6 _ (by decide) (by decide) (by decide) (by decide)]; exact h.w
  · rw [ne 2 0 (by decide) (by decide) (by decide) (by decide)]; exact h.c
  · rw [e12, fSum_upd (f := rnF σ k) (g := rnF (lvF σ j st) k) (njN σ) 0 j (fun i hi => by unfold rnF; rw [lvF_17, if_neg hi, ch, e13, e14]) (by omega) jl, ← h.t.1 k, lvF_10 k (by omega)]
    have e1 : rnF (lvF σ j st) k j = 0 := by unfold rnF; rw [lvF_17, if_pos rfl, if_neg (fun z => h1 z.1)]
    rw [e1]
    unfold rnF
    by_cases c : σ 17 j = 1 ∧ k ∈ chS σ (σ 13 j)
    · rw [if_pos c, if_pos c]; omega
    · rw [if_neg c, if_neg c]; omega
  · rw [e12, fSum_upd (f := wtF σ k) (g := wtF (lvF σ j st) k) (njN σ) 0 j (fun i hi => by unfold wtF; rw [lvF_17, if_neg hi, e13, e14]) (by omega) jl, ← h.t.2.1 k, lvF_11 k]
    have e1 : wtF (lvF σ j st) k j = 0 := by unfold wtF; rw [lvF_17, if_pos rfl, if_neg (fun z => h0 z.1)]
    rw [e1]
    unfold wtF
    by_cases c : ¬ σ 17 j = 1 ∧ k = (σ 13 j).toNat
    · rw [if_pos c, if_pos ⟨hs.resolve_right c.1, by omega⟩]; omega
    · rw [if_neg c, if_neg (fun z => c ⟨fun y => by have := z.1; omega, by have := z.2; omega⟩)]; omega
  · rw [lvF_21, e12, fSum_upd (f := alF σ) (g := alF (lvF σ j st)) (njN σ) 0 j (fun i hi => by unfold alF; rw [lvF_17, if_neg hi]) (by omega) jl, ← h.t.2.2]
    have e1 : alF (lvF σ j st) j = 0 := by unfold alF; rw [lvF_17, if_pos rfl, if_neg (fun z => z.elim h0 h1)]
    have e2 : alF σ j = 1 := by unfold alF; rw [if_pos hs]
    rw [e1, e2]; omega
  · rw [lvF_21]; have := h.a; omega
theorem okD_sub (hD : okD σ) (h12 : τ 12 0 = σ 12 0) (h17 : ∀ i, τ 17 i = 1 → σ 17 i = 1) (h19 : ∀ i, τ 19 i = σ 19 i) (h20 : τ 20 0 = σ 20 0) : okD τ := by
  unfold okD
  rw [h12, h20]
  simp only [h19]
  exact ⟨fun i k a b c d e => hD.1 i k a b (h17 i c) (h17 k d) e, fun i a b => hD.2 i a (h17 i b)⟩
theorem lvF_iS (h : iS σ) (hj : (j : Int) < σ 12 0) (hs : σ 17 j = 0 ∨ σ 17 j = 1) (h0 : st ≠ 0) (h1 : st ≠ 1) : iS (lvF σ j st) := by
  refine ⟨lvF_inv h.1 hj hs h0 h1, okD_sub h.2.1 (lvF_ne (by decide) (by decide) (by decide) (by decide)) (fun i z => ?_) (fun i => lvF_ne (by decide) (by decide) (by decide) (by decide)) (lvF_ne (by decide) (by decide) (by decide) (by decide)), ?_⟩
  · rw [lvF_17] at z; split at z
    · exact absurd z h1
    · exact z
  · unfold okE
    rw [kids_c (σ := σ) (fun k => lvF_ne (by decide) (by decide) (by decide) (by decide)) (fun k => lvF_ne (by decide) (by decide) (by decide) (by decide))]
    simp only [lvF_ne (σ := σ) (j := j) (st := st) (g := 12) (by decide) (by decide) (by decide) (by decide), lvF_ne (σ := σ) (j := j) (st := st) (g := 13) (by decide) (by decide) (by decide) (by decide)]
    exact h.2.2
/-- a job's tick -/
def ed1 (σ : fG2) (j : Nat) : fG2 := if σ 17 j = 1 then (if σ 16 j = 1 then lvF (up σ 16 j (σ 16 j - 1)) j 2 else up σ 16 j (σ 16 j - 1)) else σ
def edF : Nat → Nat → fG2 → fG2
  | _, 0, σ => σ
  | j, d + 1, σ => edF (j + 1) d (ed1 σ j)
def edC (σ : fG2) (j : Nat) : Int := if σ 17 j = 1 ∧ σ 16 j = 1 then 1 else 0
def edN : Nat → Nat → fG2 → Int
  | _, 0, _ => 0
  | j, d + 1, σ => edC σ j + edN (j + 1) d (ed1 σ j)
def us1 (σ : fG2) (k : Nat) : Int := if σ 1 0 % σ 3 0 = 0 then (σ 8 k + (if kidsN σ k = 0 then σ 10 k else 0)) / 2 else σ 8 k + (if kidsN σ k = 0 then σ 10 k else 0)
def usK (σ : fG2) (n : Nat) : fG2 := fun g k => if g = 8 ∧ k < n then us1 σ k else σ g k
def usS (σ : fG2) : fG2 := usK σ (σ 4 0).toNat
def tk1 (σ : fG2) : fG2 := up σ 1 0 (σ 1 0 + 1)
def tkS (σ : fG2) : fG2 := usS (edF 0 (σ 12 0).toNat (tk1 σ))
def tkN (σ : fG2) : Int := edN 0 (σ 12 0).toNat (tk1 σ)
noncomputable def psF : Nat → fG2 → fG2
  | 0, σ => σ
  | k + 1, σ => psF k (svS (tkS σ))
noncomputable def psN : Nat → fG2 → Int
  | 0, _ => 0
  | k + 1, σ => tkN σ + psN k (svS (tkS σ))
theorem up16_iS {v : Int} (h : iS σ) : iS (up σ 16 j v) := by
  refine ⟨inv_eq h.1 (fun g k _ _ a _ _ _ _ => up_ne a), okD_sub h.2.1 (up_ne (by decide)) (fun i z => by rw [up_ne (by decide)] at z; exact z) (fun i => up_ne (by decide)) (up_ne (by decide)), ?_⟩
  unfold okE; rw [kidsN_up (by decide) (by decide) |> fun e => (funext e : kidsN (up σ 16 j v) = kidsN σ)]
  simp only [up_ne (show (12 : Nat) ≠ 16 by decide), up_ne (show (13 : Nat) ≠ 16 by decide)]; exact h.2.2
theorem up1_iS {v : Int} (h : iS σ) : iS (up σ 1 0 v) := by
  refine ⟨inv_eq h.1 (fun g k _ a _ _ _ _ _ => up_ne a), okD_sub h.2.1 (up_ne (by decide)) (fun i z => by rw [up_ne (by decide)] at z; exact z) (fun i => up_ne (by decide)) (up_ne (by decide)), ?_⟩
  unfold okE; rw [kidsN_up (by decide) (by decide) |> fun e => (funext e : kidsN (up σ 1 0 v) = kidsN σ)]
  simp only [up_ne (show (12 : Nat) ≠ 1 by decide), up_ne (show (13 : Nat) ≠ 1 by decide)]; exact h.2.2
theorem ed1_iS (h : iS σ) (hj : (j : Int) < σ 12 0) : iS (ed1 σ j) := by
  unfold ed1
  split
  · rename_i c
    split
    · refine lvF_iS (up16_iS h) (by rw [up_ne (by decide)]; exact hj) (Or.inr (by rw [up_ne (by decide)]; exact c)) (by decide) (by decide)
    · exact up16_iS h
  · exact h
theorem ed1_ne {g k : Nat} (h1 : g ≠ 10) (h2 : g ≠ 11) (h3 : g ≠ 17) (h4 : g ≠ 21) (h5 : g ≠ 16) : ed1 σ j g k = σ g k := by
  unfold ed1
  split
  · split
    · rw [lvF_ne h1 h2 h3 h4, up_ne h5]
    · exact up_ne h5
  · rfl
theorem edF_ne {g k : Nat} (h1 : g ≠ 10) (h2 : g ≠ 11) (h3 : g ≠ 17) (h4 : g ≠ 21) (h5 : g ≠ 16) : ∀ (d j : Nat) (σ : fG2), edF j d σ g k = σ g k := by
  intro d; induction d with
  | zero => intro j σ; rfl
  | succ d ih => intro j σ; exact (ih _ _).trans (ed1_ne h1 h2 h3 h4 h5)
theorem edF_iS : ∀ (d j : Nat) (σ : fG2), iS σ → ((j + d : Nat) : Int) ≤ σ 12 0 → iS (edF j d σ) := by
  intro d; induction d with
  | zero => intro j σ h _; exact h
  | succ d ih =>
    intro j σ h hj
    exact ih _ _ (ed1_iS h (by omega)) (by rw [ed1_ne (by decide) (by decide) (by decide) (by decide) (by decide)]; omega)
theorem eqC.e1 (h : eqC σ τ) (j : Nat) : eqC (ed1 σ j) (ed1 τ j) := by
  unfold ed1
  rw [h 17 _ (by decide) (by decide), h 16 _ (by decide) (by decide)]
  split
  · split
    · exact (h.up).lv _ _
    · exact h.up
  · exact h
theorem eqC.eF : ∀ (d j : Nat) (σ τ : fG2), eqC σ τ → eqC (edF j d σ) (edF j d τ) ∧ edN j d τ = edN j d σ := by
  intro d; induction d with
  | zero => intro j σ τ h; exact ⟨h, rfl⟩
  | succ d ih =>
    intro j σ τ h
    have h1 := ih (j + 1) _ _ (h.e1 j)
    refine ⟨h1.1, ?_⟩
    simp only [edN]
    rw [h1.2]; unfold edC; rw [h 17 _ (by decide) (by decide), h 16 _ (by decide) (by decide)]
theorem eqC.us (h : eqC σ τ) : eqC (usS σ) (usS τ) := by
  intro g k a b
  unfold usS usK us1
  rw [h 4 _ (by decide) (by decide), h 1 _ (by decide) (by decide), h 3 _ (by decide) (by decide), h.K.kids, h 8 _ (by decide) (by decide), h 10 _ (by decide) (by decide), h g k a b]
theorem eqC.tk (h : eqC σ τ) : eqC (tkS σ) (tkS τ) := by
  unfold tkS tk1
  rw [h 12 _ (by decide) (by decide), h 1 _ (by decide) (by decide)]
  exact (eqC.eF _ _ _ _ h.up).1.us
theorem eqC.tN (h : eqC σ τ) : tkN τ = tkN σ := by
  unfold tkN tk1
  rw [h 12 _ (by decide) (by decide), h 1 _ (by decide) (by decide)]
  exact (eqC.eF _ _ _ _ h.up).2
theorem usS_ne {g k : Nat} (h : g ≠ 8) : usS σ g k = σ g k := if_neg (fun z => h z.1)
theorem us1_b (hi : inv σ) (k : Nat) : 0 ≤ us1 σ k ∧ us1 σ k ≤ σ 8 k + 3000 := by
  have v := hi.V k; have u := hi.U k
  unfold us1
  have : 0 ≤ (if kidsN σ k = 0 then σ 10 k else 0) ∧ (if kidsN σ k = 0 then σ 10 k else 0) ≤ 3000 := by split <;> omega
  split <;> omega
theorem usS_iS (h : iS σ) : iS (usS σ) := by
  have ch : ∀ t, chS (usS σ) t = chS σ t := fun t => chF_cong (fun k => usS_ne (by decide)) 11 t
  have hV : okV (usS σ) := by
    intro k; unfold usS usK; split
    · exact (us1_b h.1 k).1
    · exact h.1.V k
  refine ⟨?_, okD_sub h.2.1 (usS_ne (by decide)) (fun i z => by rw [usS_ne (by decide)] at z; exact z) (fun i => usS_ne (by decide)) (usS_ne (by decide)), ?_⟩
  · obtain ⟨a1, a2, a3, a4, a5⟩ := h.1
    refine ⟨?_, ?_, ?_, hV, ?_⟩
    · unfold okT; simp (disch := decide) only [usS_ne]; exact a1
    · unfold okJ; simp (disch := decide) only [usS_ne]; exact a2
    · unfold okP; simp (disch := decide) only [usS_ne]; exact a3
    · unfold tie njN rnF wtF alF; simp only [ch]; simp (disch := decide) only [usS_ne]; exact a5
  · unfold okE; rw [kids_c (σ := σ) (fun k => usS_ne (by decide)) (fun k => usS_ne (by decide))]; simp (disch := decide) only [usS_ne]; exact h.2.2
theorem tkS_iS (h : iS σ) : iS (tkS σ) := by
  refine usS_iS (edF_iS _ _ _ (up1_iS h) ?_)
  unfold tk1; rw [up_ne (by decide)]; have := h.1.J.1; omega
end
