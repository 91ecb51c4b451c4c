section
variable {P : Nat → Prop} {F S S' : fMS} {x n B : Nat} {T J V L E E' : Nat → Nat} {ρ σ : fG2} {al ln vi : List Nat}
theorem cx_rootShare (hB : okB ρ) (h : RB P F S x T J V L E ρ al ln vi) (h1 : 1 ≤ ρ 4 0) {post : Int32 → Prop} (hp : post (iI (if ρ 41 0 < ρ 2 0 then ρ 41 0 else ρ 2 0))) : wp_X3_rootShare S x post := by
  have b1 := hB 41 0; have b2 := hB 2 0
  have ht : ((0 : Nat) : Int) < ρ 4 0 := by omega
  unfold wp_X3_rootShare
  simp only [h.X, h.xT, Option.some.injEq, exists_eq_left', h.Tk 0 ht, true_and, h.t8 0 ht, h.x7]
  rw [iI_ite (by omega) (by omega) (by omega) (by omega)]
  split
  · rename_i c; rw [if_pos c] at hp; exact hp
  · rename_i c; rw [if_neg c] at hp; exact hp
theorem dlB (hB : okB ρ) : okB (up ρ 42 0 (if ρ 41 0 < ρ 2 0 then ρ 41 0 else ρ 2 0)) := by
  have b1 := hB 41 0; have b2 := hB 2 0
  exact hB.w (by split <;> omega)
theorem cx_dealShares (hB : okB ρ) (hw : ∀ k, 0 ≤ ρ 6 k ∧ ρ 6 k ≤ 9) (h1 : 1 ≤ ρ 4 0) (h4 : ρ 4 0 ≤ 10) (h : RB P F S x T J V L E ρ al ln vi) (hn : rmB S E n B) {post : fMS → Nat → Prop}
    (hp : ∀ S', RB P F S' x T J V L E (dlS ρ) al ln vi → rmB S' E n B → okB (dlS ρ) → post S' n) : wp_X3_dealShares S n x post := by
  obtain ⟨N, hN⟩ : ∃ N : Nat, ρ 4 0 = N := ⟨(ρ 4 0).toNat, by omega⟩
  have key : ∀ (d t : Nat) (τ : fG2) (S : fMS), t + d = N → τ 4 0 = N → (∀ k, 0 ≤ τ 6 k ∧ τ 6 k ≤ 9) → okB τ → RB P F S x T J V L E τ al ln vi → rmB S E n B → dsN t d τ = dlS ρ → wB_X3_dealShares_13 post x (d + 1) S n (iI t) := by
    intro d; induction d with
    | zero =>
      intro t τ S ht e4 hw hB h hn hx
      have hx : τ = dlS ρ := hx
      simp only [wB_X3_dealShares_13]
      simp (disch := omega) only [h.X, h.x0, Option.some.injEq, exists_eq_left', h.k0, true_and, h.s0 (by omega), e4, iI_le]
      exact ⟨fun _ => hp S (hx ▸ h) hn (hx ▸ hB), fun c => absurd c (by omega)⟩
    | succ d ih =>
      intro t τ S ht e4 hw hB h hn hx
      have htn : (t : Int) < τ 4 0 := by omega
      rw [wB_X3_dealShares_13]
      simp (disch := omega) only [h.X, h.x0, Option.some.injEq, exists_eq_left', h.k0, true_and, h.s0 (by omega), e4, iI_le]
      refine ⟨fun c => absurd c (by omega), fun _ => ?_⟩
      rw [h.g0 t htn]
      simp only [Option.some.injEq, exists_eq_left', h.Tk t htn, true_and]
      refine cx_deal hB hw (by omega) h hn htn (fun S' h' hn' => ?_)
      simp only [iI_1, iI_add]
      rintro _ rfl
      exact ih (t + 1) (dcS τ t) S' (by omega) (by rw [dcS_ne (by decide) (by decide)]; exact e4) (fun k => by rw [dcS_ne (by decide) (by decide)]; exact hw k) (dcS_B hB t) h' hn' hx
  have ht : ((0 : Nat) : Int) < ρ 4 0 := by omega
  unfold wp_X3_dealShares
  rw [h.X, true_and]
  refine cx_rootShare hB h h1 ?_
  simp only [h.xT, Option.some.injEq, exists_eq_left', h.Tk 0 ht, true_and]
  have w := h.w9 0 (if ρ 41 0 < ρ 2 0 then ρ 41 0 else ρ 2 0) ht
  refine ⟨_, key N 0 _ _ (by omega) (by rw [up_ne (by decide)]; exact hN) (fun k => by rw [up_ne (by decide)]; exact hw k) (dlB hB) w (hn.w rfl) ?_⟩
  unfold dlS; rw [show (ρ 4 0).toNat = N by omega]
theorem fiB (hB : okB ρ) : okB (up ρ 43 0 (if ρ 41 0 < ρ 2 0 then ρ 41 0 else ρ 2 0)) := by
  have b1 := hB 41 0; have b2 := hB 2 0
  exact hB.w (by split <;> omega)
theorem flS_B (hB : okB ρ) (hw : ∀ k, 0 ≤ ρ 6 k ∧ ρ 6 k ≤ 9) {t : Nat} (hd : ∀ k ∈ kdl ρ t, 0 ≤ ρ 41 k) : okB (flS ρ t) := by
  have lb : 0 ≤ lwS ρ t ∧ lwS ρ t ≤ 255 := by
    have := lwF_b (ρ := ρ) (kdl ρ t) (ρ 43 t) 8 0 (by omega)
    unfold lwS; simp at this; omega
  have hG : ∀ k, -100000000 ≤ flG ρ t k ∧ flG ρ t k ≤ 100000000 := gN_B hB (fun k => by
    have := hB 46 k
    split
    · rename_i c
      have := ulL_b hw (lv := lwS ρ t) (by omega) (hd k c); omega
    · omega)
  unfold flS cpK
  refine sF_B (sF_B hB hG) (fun k => ?_)
  have := hB 43 k; have := hG k
  rw [sF_ne (by decide)]; split <;> omega
theorem cx_fillShares (hB : okB ρ) (hw : ∀ k, 0 ≤ ρ 6 k ∧ ρ 6 k ≤ 9) (h1 : 1 ≤ ρ 4 0) (h4 : ρ 4 0 ≤ 10) (hd : ∀ k : Nat, (k : Int) < ρ 4 0 → 0 ≤ ρ 41 k ∧ ρ 41 k ≤ 20000) (hp5 : ∀ k : Nat, 1 ≤ k → (k : Int) < ρ 4 0 → 0 ≤ ρ 5 k ∧ ρ 5 k < k) (hc : 0 ≤ ρ 2 0 ∧ ρ 2 0 ≤ 200) (h : RB P F S x T J V L E ρ al ln vi) (hn : rmB S E n B) {post : fMS → Nat → Prop}
    (hp : ∀ S', RB P F S' x T J V L E (fiS ρ) al ln vi → rmB S' E n B → okB (fiS ρ) → post S' n) : wp_X3_fillShares S n x post := by
  obtain ⟨N, hN⟩ : ∃ N : Nat, ρ 4 0 = N := ⟨(ρ 4 0).toNat, by omega⟩
  have key : ∀ (d t : Nat) (τ : fG2) (S : fMS), t + d = N → (∀ g k, g ≠ 46 → g ≠ 43 → τ g k = ρ g k) → okB τ → (∀ k : Nat, (k : Int) < ρ 4 0 → (k = 0 ∨ ρ 5 k < t) → 0 ≤ τ 43 k ∧ τ 43 k ≤ 30000) → RB P F S x T J V L E τ al ln vi → rmB S E n B → fsN t d τ = fiS ρ → wB_X3_fillShares_13 post x (d + 1) S n (iI t) := by
    intro d; induction d with
    | zero =>
      intro t τ S ht e hB h43 h hn hx
      have hx : τ = fiS ρ := hx
      have e4 := (e 4 0 (by decide) (by decide)).trans hN
      simp only [wB_X3_fillShares_13]
      simp (disch := omega) only [h.X, h.x0, Option.some.injEq, exists_eq_left', h.k0, true_and, h.s0 (by omega), e4, iI_le]
      exact ⟨fun _ => hp S (hx ▸ h) hn (hx ▸ hB), fun c => absurd c (by omega)⟩
    | succ d ih =>
      intro t τ S ht e hB h43 h hn hx
      have e4 := (e 4 0 (by decide) (by decide)).trans hN
      have htn : (t : Int) < τ 4 0 := by omega
      have hwτ : ∀ k, 0 ≤ τ 6 k ∧ τ 6 k ≤ 9 := fun k => by rw [e 6 k (by decide) (by decide)]; exact hw k
      have hdτ : ∀ k ∈ kdl τ t, 0 ≤ τ 41 k := fun k hk => by
        have hm := kdl_mem.mp hk
        rw [e 41 k (by decide) (by decide)]; exact (hd k (by omega)).1
      have t43 := h43 t (by omega) (by
        by_cases z : t = 0
        · exact Or.inl z
        · right; exact (hp5 t (by omega) (by omega)).2)
      rw [wB_X3_fillShares_13]
      simp (disch := omega) only [h.X, h.x0, Option.some.injEq, exists_eq_left', h.k0, true_and, h.s0 (by omega), e4, iI_le]
      refine ⟨fun c => absurd c (by omega), fun _ => ?_⟩
      rw [h.g0 t htn]
      simp only [Option.some.injEq, exists_eq_left', h.Tk t htn, true_and]
      refine cx_fill hB hwτ (by omega) hdτ (by omega) h hn htn (fun S' h' hn' => ?_)
      simp only [iI_1, iI_add]
      rintro _ rfl
      refine ih (t + 1) (flS τ t) S' (by omega) (fun g k a b => by rw [flS_ne a b]; exact e g k a b) (flS_B hB hwτ hdτ) (fun k hk hc2 => ?_) h' hn' hx
      rw [flS_43]
      by_cases c : k ∈ kdl τ t
      · rw [if_pos c]
        have hm := kdl_mem.mp c
        have b := gN_b (K := kdl τ t) (d := τ 41) (w := τ 6) (τ 43 t - ulS τ (kdl τ t) (lwS τ t)).toNat (fun k => if k ∈ kdl τ t then ulL τ (lwS τ t) k else τ 46 k) k
        have b1 : flG τ t k = gN (kdl τ t) (τ 41) (τ 6) (τ 43 t - ulS τ (kdl τ t) (lwS τ t)).toNat (fun k => if k ∈ kdl τ t then ulL τ (lwS τ t) k else τ 46 k) k := rfl
        have lb : 0 ≤ lwS τ t ∧ lwS τ t ≤ 255 := by
          have := lwF_b (ρ := τ) (kdl τ t) (τ 43 t) 8 0 (by omega)
          unfold lwS; simp at this; omega
        have ul := ulL_b hwτ (lv := lwS τ t) (by omega) (hdτ k c)
        have d41 := hd k hk
        have e41 := e 41 k (by decide) (by decide)
        simp only [if_pos c] at b
        rw [b1]; omega
      · rw [if_neg c]
        refine h43 k hk (hc2.imp id (fun z => ?_))
        have : ¬ ρ 5 k = t := fun y => c (kdl_mem.mpr ⟨by omega, by rw [e 5 k (by decide) (by decide)]; exact y⟩)
        omega
  have ht : ((0 : Nat) : Int) < ρ 4 0 := by omega
  unfold wp_X3_fillShares
  rw [h.X, true_and]
  refine cx_rootShare hB h h1 ?_
  simp only [h.xT, Option.some.injEq, exists_eq_left', h.Tk 0 ht, true_and]
  have w := h.w10 0 (if ρ 41 0 < ρ 2 0 then ρ 41 0 else ρ 2 0) ht
  refine ⟨_, key N 0 _ _ (by omega) (fun g k a b => up_ne b) (fiB hB) (fun k hk hc2 => ?_) w (hn.w rfl) ?_⟩
  · have k0 : k = 0 := by
      rcases hc2 with z | z
      · exact z
      · rcases Nat.eq_zero_or_pos k with y | y
        · exact y
        · have := hp5 k y hk; omega
    subst k0
    have := hd 0 hk
    rw [up_at]; split <;> omega
  · unfold fiS; rw [show (ρ 4 0).toNat = N by omega]
def hdS (ρ : fG2) : fG2 := sF ρ 44 (fun k => if (k : Int) < ρ 4 0 then rsvS ρ k else ρ 44 k)
theorem hdS_ne {g k : Nat} (h : g ≠ 44) : hdS ρ g k = ρ g k := sF_ne h
theorem hdS_44 {k : Nat} (hk : (k : Int) < ρ 4 0) : hdS ρ 44 k = rsvS ρ k := by unfold hdS; rw [sF_at, if_pos hk]
theorem hdS_B (hB : okB ρ) (hP : okP ρ) : okB (hdS ρ) := by
  refine sF_B hB (fun k => ?_)
  have := rsv_b hP k; have := hB 44 k
  split <;> omega
/-- reservations are of leaves that there are -/
def okZ (ρ : fG2) : Prop := ∀ i : Nat, (i : Int) < ρ 22 0 → (0 ≤ ρ 23 i ∧ ρ 23 i < ρ 4 0) ∧ kidsN ρ (ρ 23 i) = 0
theorem cx_held (hi : okP ρ) (hB : okB ρ) (hZ : okZ ρ) (h1 : 1 ≤ ρ 4 0) (h4 : ρ 4 0 ≤ 10) (h : RB P F S x T J V L E ρ al ln vi) (hn : rmB S E n B) {post : fMS → Nat → Prop}
    (hp : ∀ S', RB P F S' x T J V L E (hdS ρ) al ln vi → rmB S' E n B → post S' n) : wp_X3_reckonHeldUnits S n x post := by
  have p1 := hi.1; have p2 := hi.2.1
  obtain ⟨N, hN⟩ : ∃ N : Nat, ρ 4 0 = N := ⟨(ρ 4 0).toNat, by omega⟩
  obtain ⟨M, hM⟩ : ∃ M : Nat, ρ 22 0 = M := ⟨(ρ 22 0).toNat, by omega⟩
  have l2 : ∀ (d i : Nat) (g : Nat → Int) (S : fMS), i + d = M → RB P F S x T J V L E (sF ρ 44 g) al ln vi → rmB S E n B → (∀ k : Nat, k < N → g k + fSum (rsvF ρ k) i d = rsvS ρ k) → (∀ k : Nat, ¬ k < N → g k = ρ 44 k) → wB_X3_reckonHeldUnits_36 post x (d + 1) S n (iI i) := by
    intro d; induction d with
    | zero =>
      intro i g S hi' h hn hg hg2
      have e22 : sF ρ 44 g 22 0 = M := hM
      simp only [wB_X3_reckonHeldUnits_36]
      simp (disch := omega) only [h.X, h.x4, Option.some.injEq, exists_eq_left', h.k4, true_and, h.s4 (by omega), e22, iI_le]
      refine ⟨fun _ => hp S ?_ hn, fun c => absurd c (by omega)⟩
      have : hdS ρ = sF ρ 44 g := by
        unfold hdS; congr 1; funext k
        by_cases c : (k : Int) < ρ 4 0
        · rw [if_pos c]; have := hg k (by omega); simp only [fSum] at this; omega
        · rw [if_neg c, hg2 k (by omega)]
      rw [this]; exact h
    | succ d ih =>
      intro i g S hi' h hn hg hg2
      have e22 : sF ρ 44 g 22 0 = M := hM
      have hin : (i : Int) < sF ρ 44 g 22 0 := by omega
      have zi := hZ i (by omega)
      obtain ⟨l, hl⟩ : ∃ l : Nat, ρ 23 i = l := ⟨(ρ 23 i).toNat, by omega⟩
      have b1 := hB 1 0; have b25 := hB 25 i; have b26 := hB 26 i
      have e1 : sF ρ 44 g 1 0 = ρ 1 0 := rfl
      have e25 : sF ρ 44 g 25 i = ρ 25 i := rfl
      have e26 : sF ρ 44 g 26 i = ρ 26 i := rfl
      have e24 : sF ρ 44 g 24 i = ρ 24 i := rfl
      have e23 : sF ρ 44 g 23 i = ρ 23 i := rfl
      have ln' : (l : Int) < sF ρ 44 g 4 0 := by show (l : Int) < ρ 4 0; omega
      have e44 : sF ρ 44 g 44 l = g l := sF_at
      have w := h.w11 l (g l + ρ 24 i) ln'
      rw [up_sF, sF_sF, sF_at'] at w
      have no : ¬ (ρ 25 i ≤ ρ 1 0 ∧ ρ 1 0 < ρ 26 i) → wB_X3_reckonHeldUnits_36 post x (d + 1) S n (iI ((i : Int) + 1)) := by
        intro c
        refine ih (i + 1) g S (by omega) h hn (fun k hk => ?_) hg2
        have := hg k hk
        simp only [fSum] at this
        have z : rsvF ρ k i = 0 := if_neg (fun z => c z.2)
        omega
      rw [wB_X3_reckonHeldUnits_36]
      simp (disch := omega) only [h.X, h.x4, Option.some.injEq, exists_eq_left', h.k4, true_and, h.s4 (by omega), e22, iI_le]
      refine ⟨fun c => absurd c (by omega), fun _ => ?_⟩
      rw [h.g4 i hin]
      simp (disch := omega) only [Option.some.injEq, exists_eq_left', h.Vk i hin, true_and, h.x9, h.v1 i hin, h.v2 i hin, h.v3 i hin, h.vl i hin, e1, e25, e26, e24, e23, hl, Int.toNat_natCast, iI_lt, iI_le, h.Tk l ln', h.t11 l ln', e44, iI_add, iI_1]
      refine ⟨?_, fun c1 => ⟨?_, fun c2 => ?_⟩⟩
      · rintro c1 _ rfl; exact no (by omega)
      · rintro c2 _ rfl; exact no (by omega)
      · rintro _ rfl
        refine ih (i + 1) _ _ (by omega) w (hn.w rfl) (fun k hk => ?_) (fun k hk => ?_)
        · have := hg k hk
          simp only [fSum] at this
          show (if k = l then g l + ρ 24 i else g k) + _ = _
          by_cases c : k = l
          · rw [if_pos c]; subst c
            have z : rsvF ρ k i = ρ 24 i := if_pos ⟨hl, by omega, by omega⟩
            omega
          · rw [if_neg c]
            have z : rsvF ρ k i = 0 := if_neg (fun z => by have := z.1; omega)
            omega
        · show (if k = l then g l + ρ 24 i else g k) = _
          rw [if_neg (by omega)]; exact hg2 k hk
  have l1 : ∀ (d i : Nat) (g : Nat → Int) (S : fMS), i + d = N → RB P F S x T J V L E (sF ρ 44 g) al ln vi → rmB S E n B → (∀ k : Nat, k < i → g k = 0) → (∀ k : Nat, ¬ k < N → g k = ρ 44 k) → wB_X3_reckonHeldUnits_2 post x (d + 1) S n (iI i) := by
    intro d; induction d with
    | zero =>
      intro i g S hi' h hn hg hg2
      have e4 : sF ρ 44 g 4 0 = N := hN
      simp only [wB_X3_reckonHeldUnits_2]
      simp (disch := omega) only [h.X, h.x0, Option.some.injEq, exists_eq_left', h.k0, true_and, h.s0 (by rw [e4]; omega), e4, iI_le]
      refine ⟨fun _ => ⟨_, l2 M 0 g S (by omega) h hn (fun k hk => ?_) hg2⟩, fun c => absurd c (by omega)⟩
      rw [hg k (by omega)]; unfold rsvS; rw [show (ρ 22 0).toNat = M by omega]; omega
    | succ d ih =>
      intro i g S hi' h hn hg hg2
      have e4 : sF ρ 44 g 4 0 = N := hN
      have hin : (i : Int) < sF ρ 44 g 4 0 := by rw [e4]; omega
      have w := h.w11 i 0 hin
      rw [up_sF, sF_sF, sF_at'] at w
      rw [wB_X3_reckonHeldUnits_2]
      simp (disch := omega) only [h.X, h.x0, Option.some.injEq, exists_eq_left', h.k0, true_and, h.s0 (by rw [e4]; omega), e4, iI_le]
      refine ⟨fun c => absurd c (by omega), fun _ => ?_⟩
      rw [h.g0 i hin]
      simp only [Option.some.injEq, exists_eq_left', h.Tk i hin, true_and, iI_1, iI_add]
      rintro _ rfl
      refine ih (i + 1) _ _ (by omega) w (hn.w rfl) (fun k hk => ?_) (fun k hk => ?_)
      · show (if k = i then (0 : Int) else g k) = 0
        by_cases c : k = i
        · rw [if_pos c]
        · rw [if_neg c]; exact hg k (by omega)
      · show (if k = i then (0 : Int) else g k) = _
        rw [if_neg (by omega)]; exact hg2 k hk
  exact ⟨_, l1 N 0 (ρ 44) S (by omega) (by rw [sF_self]; exact h) hn (fun k hk => absurd hk (by omega)) (fun k hk => rfl)⟩
/-- the due of each team, once shares and what is held lie -/
def dvS (ρ : fG2) : fG2 := sF ρ 45 (fun k => if (k : Int) < ρ 4 0 then (if ρ 42 k < ρ 44 k then ρ 44 k else ρ 42 k) else ρ 45 k)
def duS (ρ : fG2) : fG2 := dvS (hdS (dlS (rdS ρ)))
theorem duS_ne {g k : Nat} (h : g < 41) : duS ρ g k = ρ g k := by
  unfold duS dvS; rw [sF_ne (by omega), hdS_ne (by omega), dlS_ne (by omega) (by omega), rdS_ne (by omega)]
theorem duS_43 (k : Nat) : duS ρ 43 k = ρ 43 k := by
  unfold duS dvS; rw [sF_ne (by omega), hdS_ne (by omega), dlS_ne (by omega) (by omega), rdS_ne (by omega)]
theorem rdS_le (g k : Nat) (h : g < 29) : rdS ρ g k = ρ g k := rdS_ne (by omega)
theorem duS_41 {k : Nat} (hk : (k : Int) < ρ 4 0) : duS ρ 41 k = dmS ρ k := by
  unfold duS dvS; rw [sF_ne (by decide), hdS_ne (by decide), dlS_ne (by decide) (by decide), rdS_41 hk]
theorem duS_42 (hT : okT ρ) {k : Nat} (hk : (k : Int) < ρ 4 0) : duS ρ 42 k = lyS ρ 28 k := by
  unfold duS dvS; rw [sF_ne (by decide), hdS_ne (by decide)]
  exact dlS_42 hT rdS_le (fun k hk => rdS_41 hk) hk
theorem duS_44 {k : Nat} (hk : (k : Int) < ρ 4 0) : duS ρ 44 k = rsvS ρ k := by
  have e : ∀ g k, g < 29 → dlS (rdS ρ) g k = ρ g k := fun g k hg => by rw [dlS_ne (by omega) (by omega), rdS_le g k hg]
  unfold duS dvS
  rw [sF_ne (by decide), hdS_44 (by rw [e 4 0 (by decide)]; exact hk)]
  unfold rsvS rsvF; simp only [e 22 _ (by decide), e 23 _ (by decide), e 24 _ (by decide), e 25 _ (by decide), e 26 _ (by decide), e 1 _ (by decide)]
theorem duS_45 (hT : okT ρ) {k : Nat} (hk : (k : Int) < ρ 4 0) : duS ρ 45 k = dueS (lyS ρ) k := by
  have h42 := duS_42 hT hk; have h44 := duS_44 hk
  have e4 : hdS (dlS (rdS ρ)) 4 0 = ρ 4 0 := by rw [hdS_ne (by decide), dlS_ne (by decide) (by decide), rdS_ne (by decide)]
  have a42 : hdS (dlS (rdS ρ)) 42 k = duS ρ 42 k := by unfold duS dvS; rw [sF_ne (by decide)]
  have a44 : hdS (dlS (rdS ρ)) 44 k = duS ρ 44 k := by unfold duS dvS; rw [sF_ne (by decide)]
  have er : rsvS (lyS ρ) k = rsvS ρ k := lyS_K.rsv k
  have : duS ρ 45 k = if duS ρ 42 k < duS ρ 44 k then duS ρ 44 k else duS ρ 42 k := by
    rw [← a42, ← a44]
    conv => lhs; unfold duS dvS
    rw [sF_at, if_pos (by rw [e4]; exact hk)]
  rw [this, h42, h44]
  unfold dueS; rw [er]
theorem cx_dues (hi : inv ρ) (hB : okB ρ) (hE : okE ρ) (hZ : okZ ρ) (hal : al = alv ρ) (h : RB P F S x T J V L E ρ al ln vi) (hn : rmB S E n B) {post : fMS → Nat → Prop}
    (hp : ∀ S', RB P F S' x T J V L E (duS ρ) al ln vi → rmB S' E n B → okB (duS ρ) → post S' n) : wp_X3_reckonDues S n x post := by
  obtain ⟨q1, q2, q3, q4⟩ := hi.B4
  unfold wp_X3_reckonDues
  rw [h.X, true_and]
  refine cx_demands hi hE hal h hn (fun S1 h1 hn1 => ⟨h1.1.1, ?_⟩)
  have e1 : ∀ g k, g ≠ 41 → rdS ρ g k = ρ g k := fun g k hg => rdS_ne hg
  refine cx_dealShares (rdS_B hi hB) (fun k => by rw [e1 6 k (by decide)]; exact hi.w k) (by rw [e1 4 0 (by decide)]; exact q1) (by rw [e1 4 0 (by decide)]; exact q2) h1 hn1 (fun S2 h2 hn2 hB2 => ⟨h2.1.1, ?_⟩)
  have e2 : ∀ g k, g < 41 → dlS (rdS ρ) g k = ρ g k := fun g k hg => by rw [dlS_ne (by omega) (by omega), e1 g k (by omega)]
  have hP2 : okP (dlS (rdS ρ)) := by unfold okP; simp only [e2 22 _ (by decide), e2 24 _ (by decide)]; exact hi.P
  have hZ2 : okZ (dlS (rdS ρ)) := by
    unfold okZ; rw [kids_c (σ := ρ) (fun k => e2 4 k (by decide)) (fun k => e2 5 k (by decide))]; simp only [e2 22 _ (by decide), e2 23 _ (by decide), e2 4 _ (by decide)]; exact hZ
  refine cx_held hP2 hB2 hZ2 (by rw [e2 4 0 (by decide)]; exact q1) (by rw [e2 4 0 (by decide)]; exact q2) h2 hn2 (fun S3 h3 hn3 => ?_)
  obtain ⟨τ, hτ⟩ : ∃ τ, τ = hdS (dlS (rdS ρ)) := ⟨_, rfl⟩
  have hB3 : okB τ := by rw [hτ]; exact hdS_B hB2 hP2
  rw [← hτ] at h3
  have e3 : ∀ g k, g < 41 → τ g k = ρ g k := fun g k hg => by rw [hτ, hdS_ne (by omega), e2 g k hg]
  obtain ⟨N, hN⟩ : ∃ N : Nat, ρ 4 0 = N := ⟨(ρ 4 0).toNat, by omega⟩
  have N4 : τ 4 0 = N := (e3 4 0 (by decide)).trans hN
  have key : ∀ (d i : Nat) (g : Nat → Int) (S : fMS), i + d = N → RB P F S x T J V L E (sF τ 45 g) al ln vi → rmB S E n B → (∀ k : Nat, k < i → g k = if τ 42 k < τ 44 k then τ 44 k else τ 42 k) → (∀ k : Nat, i ≤ k → g k = τ 45 k) → wB_X3_reckonDues_14 post x (d + 1) S n (iI i) := by
    intro d; induction d with
    | zero =>
      intro i g S hi' h hn hg hg2
      have e4 : sF τ 45 g 4 0 = N := N4
      simp only [wB_X3_reckonDues_14]
      simp (disch := omega) only [h.X, h.x0, Option.some.injEq, exists_eq_left', h.k0, true_and, h.s0 (by rw [e4]; omega), e4, iI_le]
      refine ⟨fun _ => ?_, fun c => absurd c (by omega)⟩
      have eg : duS ρ = sF τ 45 g := by
        unfold duS dvS; rw [← hτ]; congr 1; funext k
        by_cases c : (k : Int) < τ 4 0
        · rw [if_pos c, hg k (by omega)]
        · rw [if_neg c, hg2 k (by omega)]
      refine hp S (by rw [eg]; exact h) hn ?_
      rw [eg]
      refine sF_B hB3 (fun k => ?_)
      have b1 := hB3 42 k; have b2 := hB3 44 k; have b3 := hB3 45 k
      by_cases c : k < i
      · rw [hg k c]; split <;> omega
      · rw [hg2 k (by omega)]; omega
    | succ d ih =>
      intro i g S hi' h hn hg hg2
      have e4 : sF τ 45 g 4 0 = N := N4
      have hin : (i : Int) < sF τ 45 g 4 0 := by rw [e4]; omega
      have b1 := hB3 42 i; have b2 := hB3 44 i
      have e42 : sF τ 45 g 42 i = τ 42 i := rfl
      have e44 : sF τ 45 g 44 i = τ 44 i := rfl
      obtain ⟨v, hv⟩ : ∃ v, v = if τ 42 i < τ 44 i then τ 44 i else τ 42 i := ⟨_, rfl⟩
      have w := h.w12 i v hin
      rw [up_sF, sF_sF, sF_at'] at w
      rw [wB_X3_reckonDues_14]
      simp (disch := omega) only [h.X, h.x0, Option.some.injEq, exists_eq_left', h.k0, true_and, h.s0 (by rw [e4]; omega), e4, iI_le]
      refine ⟨fun c => absurd c (by omega), fun _ => ?_⟩
      rw [h.g0 i hin]
      simp only [Option.some.injEq, exists_eq_left', h.Tk i hin, true_and, iI_1, iI_add, h.t9 i hin, h.t11 i hin, e42, e44]
      have ev : (if iI (τ 42 i) < iI (τ 44 i) then iI (τ 44 i) else iI (τ 42 i)) = iI v := by
        rw [iI_ite (by omega) (by omega) (by omega) (by omega), hv]; split <;> rfl
      rw [ev]
      rintro _ rfl
      refine ih (i + 1) _ _ (by omega) w (hn.w rfl) (fun k hk => ?_) (fun k hk => ?_)
      · show (if k = i then v else g k) = _
        by_cases c : k = i
        · rw [if_pos c, hv, c]
        · rw [if_neg c]; exact hg k (by omega)
      · show (if k = i then v else g k) = _
        rw [if_neg (by omega)]; exact hg2 k (by omega)
  exact ⟨_, key N 0 (τ 45) S3 (by omega) (by rw [sF_self]; exact h3) hn3 (fun k hk => absurd hk (by omega)) (fun k _ => rfl)⟩
end
