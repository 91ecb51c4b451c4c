section
variable {σ ρ : fG2} {j : Nat} {G : List Nat}
/-- what every state of the serving keeps -/
def iS (σ : fG2) : Prop := inv σ ∧ okD σ ∧ okE σ
theorem hts_n : njN (hts σ G) = njN σ := by unfold njN; rw [hts_ne (by decide) (by decide) (by decide)]
theorem st_rc (hj : (j : Int) < ρ 12 0) (h0 : 0 ≤ ρ 12 0) (hs : ρ 17 j = 0) : rcS (stF (stpF ρ G) j) = rcS ρ + 1 := by
  unfold rcS
  rw [stp_n, fSum_upd (f := rcF ρ) (g := rcF (stF (stpF ρ G) j)) (njN ρ) 0 j (fun i hi => by unfold rcF; rw [stp_17, if_neg hi]) (by omega) (by unfold njN; omega)]
  unfold rcF
  rw [stp_17, if_pos rfl, hs]; rfl
/-- a job that reclaims is secure behind it -/
theorem rec_sec (hi : inv σ) (hj : (j : Int) < σ 12 0) (hs : σ 17 j = 0) (hG : ∀ g ∈ G, σ 13 g ≠ σ 13 j) (hm : mkQ σ j) : secP (stF (stpF (hts σ G) G) j) j := by
  have bj := hi.J.2.2 j hj
  refine ⟨by rw [stp_17, if_pos rfl], ?_⟩
  have en : ∀ g k : Nat, g ≠ 10 → g ≠ 11 → g ≠ 17 → g ≠ 16 → g ≠ 18 → g ≠ 19 → g ≠ 20 → stF (stpF (hts σ G) G) j g k = σ g k := fun g k a b c d e f i => by rw [stp_ne a b c d e f i, hts_ne a b c]
  have e13 : ∀ k, stF (stpF (hts σ G) G) j 13 k = σ 13 k := fun k => en 13 k (by decide) (by decide) (by decide) (by decide) (by decide) (by decide) (by decide)
  have e14 : ∀ k, stF (stpF (hts σ G) G) j 14 k = σ 14 k := fun k => en 14 k (by decide) (by decide) (by decide) (by decide) (by decide) (by decide) (by decide)
  have hd : dueS (hts σ G) (σ 13 j).toNat = dueS σ (σ 13 j).toNat :=
    due_c (hts_ne (by decide) (by decide) (by decide) _ _) (hts_ne (by decide) (by decide) (by decide) _ _) (fun k => hts_ne (by decide) (by decide) (by decide) _ _) (fun k => hts_ne (by decide) (by decide) (by decide) _ _) (fun k => hts_ne (by decide) (by decide) (by decide) _ _) (fun k => hts_ne (by decide) (by decide) (by decide) _ _) (fun k => hts_ne (by decide) (by decide) (by decide) _ _) _
  rw [e13, stp_due, hd, stp_n, hts_n]
  refine Int.le_trans ?_ hm.2.2
  obtain ⟨l, hl⟩ : ∃ l : Nat, σ 13 j = l := ⟨(σ 13 j).toNat, by omega⟩
  rw [hl]; simp only [Int.toNat_natCast]
  obtain ⟨f, hf⟩ : ∃ f : Nat → Int, f = fun k => if k = j then σ 14 j else rnF σ l k := ⟨_, rfl⟩
  have h1 : fSum (secF (stF (stpF (hts σ G) G) j) j) 0 (njN σ) ≤ 1 * fSum f 0 (njN σ) := by
    refine fSum_mono _ _ (fun k _ hk => ?_)
    have bk := hi.J.2.2 k (njN_lt hi.J hk)
    unfold secF
    rw [e13, e13, e14, stp_17, hts_17, hf]
    show _ ≤ 1 * (if k = j then σ 14 j else rnF σ l k)
    by_cases c : k = j
    · subst c; rw [if_pos rfl, if_pos rfl]; split <;> omega
    · rw [if_neg c, if_neg c]
      have b := hi.rn l k hk
      by_cases c2 : (if k ∈ G then 0 else σ 17 k) = 1 ∧ σ 13 k = σ 13 j ∧ stF (stpF (hts σ G) G) j 19 k ≤ stF (stpF (hts σ G) G) j 19 j
      · rw [if_pos c2]
        have c3 : σ 17 k = 1 := by
          have := c2.1; split at this
          · omega
          · exact this
        have hch : l ∈ chS σ (σ 13 k) := by
          rw [c2.2.1, hl]; unfold chS; simp only [chF]; rw [if_neg (by omega)]; simp
        unfold rnF
        rw [if_pos ⟨c3, hch⟩]; omega
      · rw [if_neg c2]; omega
  have h2 := fSum_upd (f := rnF σ l) (g := f) (njN σ) 0 j (fun i hi => by rw [hf]; exact (if_neg hi).symm) (by omega) (by unfold njN; omega)
  have h3 : f j = σ 14 j := by rw [hf]; exact if_pos rfl
  have h4 : rnF σ l j = 0 := by unfold rnF; rw [if_neg (fun z => by have := z.1; omega)]
  rw [← hi.t.1 l, h3, h4] at h2
  omega
theorem step_ok (h : iS σ) (hx : nxS σ = some j) : iS (stpS σ j) ∧ mes (stpS σ j) + 1 ≤ mes σ := by
  obtain ⟨hi, hD, hE⟩ := h
  obtain ⟨j1, j2, j3, j4⟩ := nxS_ok hi hx
  have q := hi.J.1
  by_cases c : canP σ j
  · have e : stpS σ j = stF (stpF σ []) j := by unfold stpS gnS; rw [if_pos c]; rfl
    rw [e]
    have h1 : inv (stF (stpF σ []) j) := stp_I hi j1 j2
    refine ⟨⟨h1, stp_D hD, stp_E hE⟩, ?_⟩
    have h2 := secN_le (σ := σ) (ρ := stF (stpF σ []) j) stp_n (fun i hin hs => st_sec hi hD j2 (njN_lt hi.J hin) hs)
    have h3 := st_rc (G := []) j1 q j2
    unfold mes; omega
  · have hm := j3.resolve_left c
    obtain ⟨G, hG⟩ : ∃ G, G = (vcS σ j).1 := ⟨_, rfl⟩
    have e : stpS σ j = stF (stpF (hts σ G) G) j := by unfold stpS gnS; rw [if_neg c, hG]
    have hv := vc_sec (σ 13 j) (σ 14 j) 40 σ hi hD hE
    have hv : (inv (hts σ G) ∧ okD (hts σ G) ∧ okE (hts σ G)) ∧ (∀ i : Nat, (i : Int) < σ 12 0 → secP σ i → secP (hts σ G) i) ∧ ∀ g ∈ G, σ 13 g ≠ σ 13 j := by rw [hG]; exact hv
    obtain ⟨⟨v1, v2, v3⟩, v4, v5⟩ := hv
    have e12 : hts σ G 12 0 = σ 12 0 := hts_ne (by decide) (by decide) (by decide) _ _
    have s17 : hts σ G 17 j = 0 := by rw [hts_17, j2]; split <;> rfl
    rw [e]
    have h1 : inv (stF (stpF (hts σ G) G) j) := stp_I v1 (by rw [e12]; exact j1) s17
    refine ⟨⟨h1, stp_D v2, stp_E v3⟩, ?_⟩
    have en : njN (stF (stpF (hts σ G) G) j) = njN σ := stp_n.trans hts_n
    have hs := rec_sec hi j1 j2 v5 hm.1
    have h2 := secN_lt (σ := σ) (ρ := stF (stpF (hts σ G) G) j) (j := j) en (fun i hin hs => st_sec v1 v2 s17 (by rw [e12]; exact njN_lt hi.J hin) (v4 i (njN_lt hi.J hin) hs)) (by unfold njN; omega) (fun z => by have := z.1; omega) hs
    have h3 := rc_pos (τ := stF (stpF (hts σ G) G) j) (j := j) (by rw [en]; unfold njN; omega) hs.1
    have h4 := rc_b hi
    unfold mes; omega
/-- served, at most d times -/
noncomputable def srvN : Nat → fG2 → fG2
  | 0, σ => σ
  | d + 1, σ => match nxS σ with
    | none => σ
    | some j => srvN d (stpS σ j)
noncomputable def srvS (σ : fG2) : fG2 := srvN 1681 σ
theorem srvN_none (d : Nat) (h : nxS σ = none) : srvN d σ = σ := by
  cases d with
  | zero => rfl
  | succ d => unfold srvN; rw [h]
theorem srvN_some (d : Nat) (h : nxS σ = some j) : srvN (d + 1) σ = srvN d (stpS σ j) := by rw [srvN, h]
theorem srvN_ok : ∀ (d : Nat) (σ : fG2) (c : Int), iS σ → mes σ < d → okC c σ → iS (srvN d σ) ∧ nxS (srvN d σ) = none ∧ okC (c + d) (srvN d σ) := by
  intro d; induction d with
  | zero => intro σ c h hm; have := mes_b h.1; omega
  | succ d ih =>
    intro σ c h hm hC
    cases hx : nxS σ with
    | none =>
      rw [srvN_none _ hx]
      exact ⟨h, hx, ⟨by have := hC.1; omega, fun i => by have := hC.2 i; omega⟩⟩
    | some j =>
      rw [srvN_some _ hx]
      have h1 := step_ok h hx
      have h2 := ih (stpS σ j) (c + 1) h1.1 (by omega) (stpS_C hC)
      refine ⟨h2.1, h2.2.1, ?_⟩
      have e : c + ((d + 1 : Nat) : Int) = c + 1 + d := by omega
      rw [e]; exact h2.2.2
theorem stpS_ne {g k : Nat} (h1 : g ≠ 10) (h2 : g ≠ 11) (h3 : g ≠ 17) (h4 : g ≠ 16) (h5 : g ≠ 18) (h6 : g ≠ 19) (h7 : g ≠ 20) : stpS σ j g k = σ g k := by
  unfold stpS; rw [stp_ne h1 h2 h3 h4 h5 h6 h7, hts_ne h1 h2 h3]
theorem srvN_ne {g k : Nat} (h1 : g ≠ 10) (h2 : g ≠ 11) (h3 : g ≠ 17) (h4 : g ≠ 16) (h5 : g ≠ 18) (h6 : g ≠ 19) (h7 : g ≠ 20) : ∀ (d : Nat) (σ : fG2), srvN d σ g k = σ g k := by
  intro d; induction d with
  | zero => intro σ; rfl
  | succ d ih =>
    intro σ
    cases hx : nxS σ with
    | none => rw [srvN_none _ hx]
    | some j => rw [srvN_some _ hx, ih, stpS_ne h1 h2 h3 h4 h5 h6 h7]
end
