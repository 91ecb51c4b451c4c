theorem iI_div {a b : Int} (h1 : 0 ≤ a) (h2 : a ≤ 2147483647) (h3 : 0 ≤ b) (h4 : b ≤ 2147483647) : iI a / iI b = iI (a / b) := by
  unfold iI
  rw [← Int32.ofInt_tdiv (by show (-2147483648 : Int) ≤ a; omega) (by show a ≤ (2147483647 : Int); exact h2) (by show (-2147483648 : Int) ≤ b; omega) (by show b ≤ (2147483647 : Int); exact h4), Int.tdiv_eq_ediv_of_nonneg h1]
theorem jJ_div2 {a : Int} (h1 : 0 ≤ a) (h2 : a ≤ 9000000000000000000) : jJ a / (2 : Int64) = jJ (a / 2) := by
  show Int64.ofInt a / Int64.ofInt 2 = Int64.ofInt (a / 2)
  rw [← Int64.ofInt_tdiv (by show (-9223372036854775808 : Int) ≤ a; omega) (by show a ≤ (9223372036854775807 : Int); omega) (by decide) (by decide), Int.tdiv_eq_ediv_of_nonneg h1]
section
variable {F S : fMS} {m n : Nat} {A : Nat → Nat} {σ τ ρ : fG2}
theorem up_up {f j : Nat} {u v : Int} : up (up σ f j u) f j v = up σ f j v := by
  funext g k; unfold up
  by_cases c : g = f ∧ k = j
  · rw [if_pos c, if_pos c]
  · rw [if_neg c, if_neg c, if_neg c]
theorem usK_0 : usK σ 0 = σ := by funext g k; unfold usK; rw [if_neg (by omega)]
theorem usK_s (t : Nat) : up (usK σ t) 8 t (us1 σ t) = usK σ (t + 1) := by
  funext g k; unfold up usK
  by_cases c : g = 8 ∧ k = t
  · rw [if_pos c, if_pos (by omega), c.2]
  · rw [if_neg c]
    by_cases d : g = 8 ∧ k < t
    · rw [if_pos d, if_pos (by omega)]
    · rw [if_neg d, if_neg (by omega)]
/-- jobs that run have ticks to go; use is small -/
def okR (σ : fG2) : Prop := ∀ j : Nat, (j : Int) < σ 12 0 → σ 17 j = 1 → 1 ≤ σ 16 j ∧ σ 16 j ≤ 50
def okQ (σ : fG2) : Prop := (0 ≤ σ 1 0 ∧ ∀ k, σ 8 k ≤ 3000 * σ 1 0) ∧ (1 ≤ σ 3 0 ∧ σ 3 0 ≤ 100)
theorem ed1_R (hR : okR σ) {j : Nat} : okR (ed1 σ j) := by
  intro i hi h17
  rw [ed1_ne (by decide) (by decide) (by decide) (by decide) (by decide)] at hi
  unfold ed1 at h17 ⊢
  by_cases c : σ 17 j = 1
  · rw [if_pos c] at h17 ⊢
    by_cases d : σ 16 j = 1
    · rw [if_pos d] at h17 ⊢
      rw [lvF_17] at h17
      by_cases e : i = j
      · rw [if_pos e] at h17; exact absurd h17 (by decide)
      · rw [if_neg e, up_ne (by decide)] at h17
        rw [lvF_ne (by decide) (by decide) (by decide) (by decide), up_nj e]
        exact hR i hi h17
    · rw [if_neg d] at h17 ⊢
      rw [up_ne (by decide)] at h17
      have := hR i hi h17
      by_cases e : i = j
      · subst e; rw [up_at]; omega
      · rw [up_nj e]; exact this
  · rw [if_neg c] at h17 ⊢; exact hR i hi h17
theorem edF_R : ∀ (d j : Nat) (σ : fG2), okR σ → okR (edF j d σ) := by
  intro d; induction d with
  | zero => intro j σ h; exact h
  | succ d ih => intro j σ h; exact ih _ _ (ed1_R h)
theorem lvF_B (hB : okB σ) {j : Nat} {st : Int} (hi : inv (lvF σ j st)) (hs : 0 ≤ st ∧ st ≤ 9) : okB (lvF σ j st) := by
  intro g i
  by_cases g1 : g = 10
  · subst g1; have := hi.U i; omega
  · by_cases g2 : g = 11
    · subst g2; have := hi.L.2 i; omega
    · by_cases g3 : g = 17
      · subst g3; rw [lvF_17]; have := hB 17 i; split <;> omega
      · by_cases g4 : g = 21
        · subst g4
          by_cases g5 : i = 0
          · subst g5
            have := hi.a; have h3 := hi.t.2.2
            have h4 := fSum_nn (f := alF (lvF σ j st)) (njN (lvF σ j st)) 0 (fun x _ _ => by unfold alF; split <;> omega)
            omega
          · unfold lvF; rw [up_nj g5, up_ne (by decide)]; split
            · unfold rmS; rw [adL_ne (by decide)]; exact hB 21 i
            · rw [up_ne (by decide)]; exact hB 21 i
        · rw [lvF_ne g1 g2 g3 g4]; exact hB g i
theorem ed1_B (h : iS σ) (hB : okB σ) (hR : okR σ) {j : Nat} (hj : (j : Int) < σ 12 0) : okB (ed1 σ j) := by
  have hi := ed1_iS h hj
  unfold ed1 at hi ⊢
  by_cases c : σ 17 j = 1
  · rw [if_pos c] at hi ⊢
    have b := hR j hj c
    by_cases d : σ 16 j = 1
    · rw [if_pos d] at hi ⊢; exact lvF_B (hB.w (by omega)) hi.1 (by omega)
    · rw [if_neg d]; exact hB.w (by omega)
  · rw [if_neg c]; exact hB
theorem edF_B : ∀ (d j : Nat) (σ : fG2), iS σ → okB σ → okR σ → ((j + d : Nat) : Int) ≤ σ 12 0 → okB (edF j d σ) := by
  intro d; induction d with
  | zero => intro j σ _ h _ _; exact h
  | succ d ih =>
    intro j σ h hB hR hj
    exact ih _ _ (ed1_iS h (by omega)) (ed1_B h hB hR (by omega)) (ed1_R hR) (by rw [ed1_ne (by decide) (by decide) (by decide) (by decide) (by decide)]; omega)
theorem sp_jobsTick (nj : Nat) {post : Int32 → fMS → Nat → Prop} : ∀ (d j : Nat) (τ : fG2) (S : fMS) (x : Int), j + d = nj → τ 12 0 = nj → iS τ → okB τ → okR τ → RM F S m A τ → 0 ≤ x → x + d ≤ 10000 →
    (∀ S', RM F S' m A (edF j d τ) → ∃ g71, wB_X4_passesOne_71 post m g71 S' n (iI (x + edN j d τ)) (0 : Int32)) → wB_X4_passesOne_14 post m (d + 1) S n (iI x) (iI j) := by
  intro d; induction d with
  | zero =>
    intro j τ S x hj hn hi hB hR h x0 x1 hp
    have q := hi.1.J.2.1
    simp only [wB_X4_passesOne_14]
    simp (disch := first | decide | omega) only [h.s, h.mm, iI_le, true_and, hn]
    have hp := hp S h
    simp only [edN, Int.add_zero] at hp
    exact ⟨fun _ => hp, fun c => absurd c (by omega)⟩
  | succ d ih =>
    intro j τ S x hj hn hi hB hR h x0 x1 hp
    have q := hi.1.J.2.1
    have jl : (j : Int) < τ 12 0 := by omega
    have b17 := hB 17 j; have b16 := hB 16 j
    simp only [edN, edF] at hp
    have h1 := h.wA 16 j (τ 16 j - 1) rfl (by decide)
    have e16 : up τ 16 j (τ 16 j - 1) 16 j = τ 16 j - 1 := up_at
    have n1 : ed1 τ j 12 0 = nj := by rw [ed1_ne (by decide) (by decide) (by decide) (by decide) (by decide)]; exact hn
    have go : ∀ (S' : fMS) (y : Int), y = edC τ j → RM F S' m A (ed1 τ j) → wB_X4_passesOne_14 post m (d + 1) S' n (iI (x + y)) (iI ((j : Int) + 1)) := by
      intro S' y hy h'
      have by' : 0 ≤ y ∧ y ≤ 1 := by rw [hy]; unfold edC; split <;> omega
      refine ih (j + 1) (ed1 τ j) S' (x + y) (by omega) n1 (ed1_iS hi jl) (ed1_B hi hB hR jl) (ed1_R hR) h' (by omega) (by omega) (fun S2 h2 => ?_)
      rw [Int.add_assoc, hy]; exact hp S2 h2
    rw [wB_X4_passesOne_14]
    simp (disch := first | decide | omega) only [h.s, h.mm, h.R, h.Nj, h.kI, h.aJ, iI_le, iI_1, iI_in, iI_nat, iI_eq, iI_add, iI_sub, true_and, Option.some.injEq, exists_eq_left', Int.toNat_natCast, hn]
    refine ⟨fun c => absurd c (by omega), fun _ => ⟨by omega, fun c1 => ?_, fun c1 => ?_⟩⟩
    · have rj := hR j jl c1
      simp (disch := first | decide | omega) only [h1.mm, h1.R, h1.Nj, h1.kI, h1.aJ, iI_0, iI_in, iI_nat, iI_eq, true_and, Option.some.injEq, exists_eq_left', Int.toNat_natCast, e16]
      refine ⟨by omega, by omega, by omega, fun c2 => ?_, fun c2 => ?_⟩
      · rintro _ rfl
        have e : ed1 τ j = up τ 16 j (τ 16 j - 1) := by unfold ed1; rw [if_pos c1, if_neg (by omega)]
        have ec : (0 : Int) = edC τ j := by unfold edC; rw [if_neg (by omega)]
        have := go _ 0 ec (by rw [e]; exact h1)
        rw [Int.add_zero] at this; exact this
      · have e : ed1 τ j = lvF (up τ 16 j (τ 16 j - 1)) j 2 := by unfold ed1; rw [if_pos c1, if_pos (by omega)]
        have ec : (1 : Int) = edC τ j := by unfold edC; rw [if_pos (by omega)]
        have hu := up16_iS (j := j) (v := τ 16 j - 1) hi
        refine sp_leaves (st := 2) hu.1.T hu.1.J (hB.w (by omega)) h1 (by rw [up_ne (by decide)]; exact jl) (fun S2 h2 => ?_)
        rw [← e] at h2
        rintro _ rfl _ rfl
        exact go S2 1 ec h2
    · rintro _ rfl
      have e : ed1 τ j = τ := by unfold ed1; rw [if_neg c1]
      have ec : (0 : Int) = edC τ j := by unfold edC; rw [if_neg (fun z => c1 z.1)]
      have := go S 0 ec (by rw [e]; exact h)
      rw [Int.add_zero] at this; exact this
theorem sp_useTick {c : Int} (hi : iS τ) (hB : okB τ) (hS : okS τ) (hC : okC c τ) (hc : c + 2000 < 100000000) (hQ : (0 ≤ τ 1 0 ∧ ∀ k, τ 8 k ≤ 3000 * τ 1 0) ∧ (1 ≤ τ 3 0 ∧ τ 3 0 ≤ 100)) (hq : τ 1 0 ≤ 20000) {x : Int} {post : Int32 → fMS → Nat → Prop}
    (hp : ∀ (S' : fMS) (ρ : fG2), RM F S' m A ρ → eqM (svS (usS τ)) ρ → okB ρ → post (iI x) S' n) : ∀ (d t : Nat) (S : fMS), (t + d : Int) = τ 4 0 → RM F S m A (usK τ t) → wB_X4_passesOne_71 post m (d + 1) S n (iI x) (iI t) := by
  have q1 := hi.1.T.1; have q2 := hi.1.T.2.1
  have uB : ∀ k, 0 ≤ us1 τ k ∧ us1 τ k ≤ 100000000 := fun k => by
    have := us1_b hi.1 k; have := hQ.1.2 k
    have h3 : 3000 * τ 1 0 ≤ 3000 * 20000 := Int.mul_le_mul_of_nonneg_left hq (by omega)
    omega
  have ne : ∀ (t : Nat) {g k : Nat}, g ≠ 8 → usK τ t g k = τ g k := fun t g k h => if_neg (fun z => h z.1)
  intro d; induction d with
  | zero =>
    intro t S ht h
    simp only [wB_X4_passesOne_71]
    simp (disch := first | decide | omega) only [h.s, h.mm, iI_le, true_and, ne]
    refine ⟨fun _ => ?_, fun c => absurd c (by omega)⟩
    have e : usK τ t = usS τ := by unfold usS; rw [show (τ 4 0).toNat = t by omega]
    rw [e] at h
    refine sp_serves (usS_iS hi) ?_ ?_ ?_ hc h hp
    · intro g k; unfold usS usK; split
      · have := uB k; omega
      · exact hB g k
    · unfold okS; simp only [usS_ne (σ := τ) (show (27 : Nat) ≠ 8 by decide), usS_ne (σ := τ) (show (28 : Nat) ≠ 8 by decide), usS_ne (σ := τ) (show (6 : Nat) ≠ 8 by decide)]; exact hS
    · unfold okC; simp only [usS_ne (σ := τ) (show (20 : Nat) ≠ 8 by decide), usS_ne (σ := τ) (show (18 : Nat) ≠ 8 by decide)]; exact hC
  | succ d ih =>
    intro t S ht h
    have hT' : okT (usK τ t) := by unfold okT; simp (disch := decide) only [ne]; exact hi.1.T
    have e8 : usK τ t 8 t = τ 8 t := if_neg (by omega)
    have ek : kidsN (usK τ t) = kidsN τ := kids_c (fun k => ne t (by decide)) (fun k => ne t (by decide))
    have b10 := hi.1.U t; have bv := hi.1.V t
    have b8 := hQ.1.2 t
    have h3 : 3000 * τ 1 0 ≤ 3000 * 20000 := Int.mul_le_mul_of_nonneg_left hq (by omega)
    have go : ∀ y : Int, y = (if kidsN τ t = 0 then τ 10 t else 0) → wB_X4_passesOne_105 post (fun S9 n9 z0 z1 => wB_X4_passesOne_71 post m (d + 1) S9 n9 z0 z1) m S n (iI x) (iI t) (some (A 8)) (iI t) (jJ (τ 8 t)) (jJ y) := by
      intro y hy
      have by' : 0 ≤ y ∧ y ≤ 3000 := by rw [hy]; split <;> omega
      have w := h.wL t (τ 8 t + y)
      have e1 : up (usK τ t) 8 t (τ 8 t + y) 1 0 = τ 1 0 := by rw [up_ne (by decide)]; exact ne t (by decide)
      have e3 : up (usK τ t) 8 t (τ 8 t + y) 3 0 = τ 3 0 := by rw [up_ne (by decide)]; exact ne t (by decide)
      have e88 : up (usK τ t) 8 t (τ 8 t + y) 8 t = τ 8 t + y := up_at
      have hd0 : 0 ≤ τ 1 0 / τ 3 0 := Int.ediv_nonneg hQ.1.1 (by omega)
      have hd1 : τ 1 0 / τ 3 0 * τ 3 0 ≤ τ 1 0 := Int.ediv_mul_le _ (by omega)
      have hd2 : 0 ≤ τ 1 0 / τ 3 0 * τ 3 0 := Int.mul_nonneg hd0 (by omega)
      have hmod : τ 1 0 % τ 3 0 = τ 1 0 - τ 1 0 / τ 3 0 * τ 3 0 := by rw [Int.emod_def, Int.mul_comm]
      have hu : us1 τ t = if τ 1 0 - τ 1 0 / τ 3 0 * τ 3 0 = 0 then (τ 8 t + y) / 2 else τ 8 t + y := by unfold us1; rw [hmod, hy]
      have ww := usK_s (σ := τ) t
      unfold wB_X4_passesOne_105
      simp (disch := first | decide | omega) only [h.mm, h.N8, h.kJ, jJ_add, iI_in, iI_nat, true_and, Option.some.injEq, exists_eq_left', Int.toNat_natCast, w.mm, w.s, w.R, w.N8, w.kJ, w.J, e1, e3, e88, iI_0, iI_eq, iI_div, iI_mul, iI_sub, iI_1, iI_add]
      refine ⟨by omega, by omega, fun c => ⟨by omega, by omega, ?_⟩, fun c => ⟨by omega, by omega, ?_⟩⟩
      · rintro _ rfl
        have w2 := w.wL t (τ 8 t + y)
        rw [up_up] at w2
        rw [hu, if_neg c] at ww
        rw [ww] at w2
        exact ih (t + 1) _ (by omega) w2
      · rw [jJ_div2 (by omega) (by omega)]
        rintro _ rfl
        have w2 := w.wL t ((τ 8 t + y) / 2)
        rw [up_up] at w2
        rw [hu, if_pos c] at ww
        rw [ww] at w2
        exact ih (t + 1) _ (by omega) w2
    have e10 : usK τ t 10 t = τ 10 t := ne t (by decide)
    rw [wB_X4_passesOne_71]
    simp (disch := first | decide | omega) only [h.s, h.mm, h.R, h.N8, h.kJ, h.J, iI_le, iI_in, iI_nat, true_and, Option.some.injEq, exists_eq_left', Int.toNat_natCast, ne, e8]
    refine ⟨fun c => absurd c (by omega), fun _ => ⟨by omega, ?_⟩⟩
    refine sp_isLeaf2 h hT' (by omega) (fun c1 => ⟨fun z => absurd z (by decide), fun _ => ?_⟩) (fun c1 => ⟨fun _ => ?_, fun z => absurd rfl z⟩)
    · rw [ek] at c1
      simp (disch := first | decide | omega) only [h.R, h.Nt, h.kI, h.aT, iI_in, iI_nat, true_and, Option.some.injEq, exists_eq_left', Int.toNat_natCast, e10, iI_j]
      exact ⟨by omega, go _ (if_pos c1).symm⟩
    · rw [ek] at c1
      exact go 0 (if_neg c1).symm
end
