section
variable {ρ σ τ : fG2}
def h40 (ρ : fG2) : Prop := ∀ j : Nat, (j : Int) < ρ 12 0 → ρ 17 j = 1 → ρ 40 j = ρ 19 j + 1
def okW1 (ρ : fG2) : Prop := ∀ k : Nat, (k : Int) < ρ 4 0 → 1 ≤ ρ 6 k
theorem eqC.Z (h : eqC σ τ) (hZ : okZ σ) : okZ τ := by
  unfold okZ; rw [h.K.kids]; simp only [h 22 _ (by decide) (by decide), h 23 _ (by decide) (by decide), h 4 _ (by decide) (by decide)]; exact hZ
theorem eqC.W1 (h : eqC σ τ) (hW : okW1 σ) : okW1 τ := by
  unfold okW1; simp only [h 4 _ (by decide) (by decide), h 6 _ (by decide) (by decide)]; exact hW
theorem eqC.alv (h : eqC σ τ) : alv τ = alv σ := by
  unfold _root_.Jvm.Pilot.CFairquotaBrokerLaw_law_r8435_3f40a5.alv; simp only [h 12 _ (by decide) (by decide), h 17 _ (by decide) (by decide)]
/-- dues reckoned, the reference's shares beside -/
def mixS (ρ : fG2) : fG2 := fun g k => if g = 27 ∨ g = 28 then lyS ρ g k else duS ρ g k
theorem mix_C : eqC (lyS ρ) (mixS ρ) := by
  intro g k a b
  unfold mixS
  by_cases c : g = 27 ∨ g = 28
  · rw [if_pos c]
  · rw [if_neg c, duS_ne (by omega), lyS_ne (by omega) (by omega)]
theorem mix_ne {g k : Nat} (h : g < 41) (h1 : g ≠ 27) (h2 : g ≠ 28) : mixS ρ g k = ρ g k := by
  unfold mixS; rw [if_neg (by omega), duS_ne h]
theorem mix_cI (hi : iS ρ) (hB : okB ρ) (hBd : okB (duS ρ)) (hZ : okZ ρ) (hW : okW1 ρ) (h4 : h40 ρ) (hS : okS ρ) : cI (mixS ρ) := by
  have hl := lyS_iS hi
  have e := mix_C (ρ := ρ)
  have e4 : mixS ρ 4 0 = ρ 4 0 := mix_ne (by decide) (by decide) (by decide)
  have e12 : mixS ρ 12 0 = ρ 12 0 := mix_ne (by decide) (by decide) (by decide)
  have eZ : okZ (lyS ρ) := by
    unfold okZ; rw [lyS_K.kids]; simp only [lyS_ne (σ := ρ) (g := 22) (by decide) (by decide), lyS_ne (σ := ρ) (g := 23) (by decide) (by decide), lyS_ne (σ := ρ) (g := 4) (by decide) (by decide)]; exact hZ
  refine ⟨e.I hl.1, ?_, e.E hl.2.2, e.Z eZ, fun k hk => ?_, fun k hk => ?_, fun k hk => ?_, fun j hj hs => ?_⟩
  · intro g k
    unfold mixS
    split
    · exact lyS_B hi.1 hS hB g k
    · exact hBd g k
  · rw [mix_ne (by decide) (by decide) (by decide)]; exact hW k (by omega)
  · have a : mixS ρ 44 k = duS ρ 44 k := by unfold mixS; rw [if_neg (by omega)]
    rw [a, duS_44 (by omega), e.K.rsv, lyS_K.rsv]
  · have a : mixS ρ 45 k = duS ρ 45 k := by unfold mixS; rw [if_neg (by omega)]
    rw [a, duS_45 hi.1.T (by omega), due_cong e.K e.e28]
  · rw [mix_ne (by decide) (by decide) (by decide)] at hs
    rw [mix_ne (by decide) (by decide) (by decide), mix_ne (by decide) (by decide) (by decide)]
    exact h4 j (by omega) hs
end
section
variable {P : Nat → Prop} {F S S' : fMS} {x n B : Nat} {T J V L E E' : Nat → Nat} {ρ : fG2} {al ln vi : List Nat}
theorem cx_serve {c : Int} (hi : iS ρ) (hB : okB ρ) (hZ : okZ ρ) (hW : okW1 ρ) (h4 : h40 ρ) (hS : okS ρ) (hC : okC c ρ) (hcb : c + 2000 < 100000000) (hal : al = alv ρ) (h : RB P F S x T J V L E ρ al ln vi) (hn : rmB S E n B) {post : fMS → Nat → Prop}
    (hp : ∀ S' n' E' ρ' ln' vi', RB P F S' x T J V L E' ρ' al ln' vi' → rmB S' E' n' B → eqC (svS ρ) ρ' → okB ρ' → h40 ρ' → al = alv ρ' → post S' n') : wp_X3_serve S n x post := by
  have key : ∀ (d r : Nat) (σ τ : fG2) (S : fMS) (n : Nat) (E : Nat → Nat) (ln vi : List Nat) (c : Int), r + d ≤ 3000 → cI τ → okD τ → mes τ < d → okC c τ → c + d < 100000000 → al = alv τ → eqC σ τ → RB P F S x T J V L E τ al ln vi → rmB S E n B →
      (∀ S' n' E' ρ' ln' vi', RB P F S' x T J V L E' ρ' al ln' vi' → rmB S' E' n' B → eqC (srvN d σ) ρ' → okB ρ' → h40 ρ' → al = alv ρ' → post S' n') → wB_X3_serve_8 post x (d + 1) S n (iI 1) (iI r) := by
    intro d; induction d with
    | zero => intro r σ τ S n E ln vi c _ hc _ hm; have := mes_b hc.i; omega
    | succ d ih =>
      intro r σ τ S n E ln vi c hr hc hD hm hC hcb hal he h hn hp
      rw [wB_X3_serve_8]
      refine ⟨fun z => absurd z (by decide), fun _ => ?_⟩
      simp (disch := omega) only [show (1000000 : Int32) = iI 1000000 from rfl, iI_le, h.X, true_and]
      refine ⟨fun z => absurd z (by omega), fun _ => ?_⟩
      refine cx_serveNext hc hal h hn (fun hx S1 n1 E1 ln1 vi1 h1 hn1 => ?_) (fun j hx S1 n1 E1 ln1 vi1 h1 hn1 => ?_)
      · simp only [iI_1, iI_add]
        rintro _ rfl
        have : wB_X3_serve_8 post x (d + 1) S1 n1 (iI 0) (iI ((r : Int) + 1)) := by
          rw [wB_X3_serve_8]
          refine ⟨fun _ => ?_, fun z => absurd rfl z⟩
          refine hp S1 n1 E1 τ ln1 vi1 h1 hn1 ?_ hc.B (fun j hj hs => hc.h40 j hj hs) hal
          rw [srvN_none _ (he.nx.symm.trans hx)]; exact he
        exact this
      · simp only [iI_1, iI_add]
        rintro _ rfl
        have hstep := step_ok ⟨hc.i, hD, hc.E⟩ hx
        have hcn := stpC_cI hc hD hC (by omega) hx
        have hme : mes (stpC τ j) = mes (stpS τ j) := by
          have e := stpC_C (ρ := τ) j
          have e2 : ∀ i, secP (stpC τ j) i ↔ secP (stpS τ j) i := by
            intro i
            unfold secP secF njN
            rw [e 17 i (by decide) (by decide), e 12 0 (by decide) (by decide), due_cong e.K e.e28, e 13 i (by decide) (by decide)]
            simp only [e 17 _ (by decide) (by decide), e 13 _ (by decide) (by decide), e 19 _ (by decide) (by decide), e 14 _ (by decide) (by decide)]
          unfold mes secN rcS njN
          rw [e 12 0 (by decide) (by decide)]
          have a1 : secG (stpC τ j) = secG (stpS τ j) := by
            funext i; unfold secG
            by_cases c : secP (stpS τ j) i
            · rw [if_pos c, if_pos ((e2 i).mpr c)]
            · rw [if_neg c, if_neg (fun z => c ((e2 i).mp z))]
          have a2 : rcF (stpC τ j) = rcF (stpS τ j) := by funext i; unfold rcF; rw [e 17 i (by decide) (by decide)]
          rw [a1, a2]
        have hC2 : okC (c + 1) (stpC τ j) := (stpC_C j).C (stpS_C hC)
        refine ih (r + 1) (stpS σ j) (stpC τ j) S1 n1 E1 ln1 vi1 (c + 1) (by omega) hcn.1 hcn.2 (by rw [hme]; omega) hC2 (by omega) (by rw [stpC_alv hc.i hc.B hx]; exact hal) ((he.sS j).tr (stpC_C j)) h1 hn1 (fun S2 n2 E2 ρ2 ln2 vi2 a1 a2 a3 a4 a5 a6 => hp S2 n2 E2 ρ2 ln2 vi2 a1 a2 ?_ a4 a5 a6)
        rw [srvN_some _ (he.nx.symm.trans hx)]; exact a3
  unfold wp_X3_serve
  rw [h.X, true_and]
  refine cx_dues hi.1 hB hi.2.2 hZ hal h hn (fun S1 h1 hn1 hBd => ?_)
  have hc := mix_cI hi hB hBd hZ hW h4 hS
  have h2 : RB P F S1 x T J V L E (mixS ρ) al ln vi := h1.cg (fun g k _ _ _ _ a b _ _ _ _ => by unfold mixS; rw [if_neg (by omega)])
  have hl := lyS_iS hi
  have hD : okD (mixS ρ) := mix_C.D hl.2.1
  have hCm : okC c (mixS ρ) := mix_C.C (lyS_C hC)
  have ha : al = alv (mixS ρ) := by
    rw [mix_C.alv, hal]; unfold alv; rw [lyS_ne (by decide) (by decide)]
    refine List.filter_congr (fun i _ => ?_)
    rw [lyS_ne (by decide) (by decide)]
  have hme := mes_b hc.i
  exact ⟨_, key 1681 0 (lyS ρ) (mixS ρ) S1 n E ln vi c (by omega) hc hD (by omega) hCm (by omega) ha mix_C h2 hn1 (fun S2 n2 E2 ρ2 ln2 vi2 a1 a2 a3 a4 a5 a6 => hp S2 n2 E2 ρ2 ln2 vi2 a1 a2 a3 a4 a5 a6)⟩
end
