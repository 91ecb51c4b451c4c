section
variable {P : Nat → Prop} {F S S' : fMS} {x n B : Nat} {T J V L E E' : Nat → Nat} {ρ : fG2} {al ln vi : List Nat}
theorem rmB.w (h : rmB S E n B) (e : sN S' = sN S) : rmB S' E n B := h.pe (pot_eq e)
/-- who stands above: null, or a team -/
def lnk (T : Nat → Nat) (t : Int) : Option Nat := if t = -1 then none else some (T t.toNat)
theorem RB.tp' (h : RB P F S x T J V L E ρ al ln vi) (hT : okT ρ) (k : Nat) (hk : (k : Int) < ρ 4 0) : sR S (T k) 1 = lnk T (ρ 5 k) := by
  rw [h.tp k hk]; unfold lnk
  by_cases e : k = 0
  · subst e; rw [if_pos rfl, if_pos hT.2.2.1]
  · have := hT.2.2.2 k (by omega) hk
    rw [if_neg e, if_neg (by omega)]
theorem cx_changeRuns (hT : okT ρ) (h : RB P F S x T J V L E ρ al ln vi) (hn : rmB S E n B) {t : Nat} (ht : (t : Int) < ρ 4 0) {u : Int} {post : fMS → Nat → Prop} (hp : ∀ S', RB P F S' x T J V L E (rmS ρ t u) al ln vi → rmB S' E n B → post S' n) : wp_X2_changeRuns S n (T t) (iI u) post := by
  have key : ∀ (o : Nat) (f : Nat) (t : Int) (τ : fG2) (S : fMS), RB P F S x T J V L E τ al ln vi → rmB S E n B → okT τ → -1 ≤ t → t < τ 4 0 → t < f → (∀ S', RB P F S' x T J V L E (adL τ (chF τ f t) u) al ln vi → rmB S' E n B → post S' n) → wB_X2_changeRuns_2 post o (iI u) (f + 1) S n (lnk T t) := by
    intro o f; induction f with
    | zero =>
      intro t τ S h hn hT h1 h2 h3 hp
      have e : t = -1 := by omega
      subst e
      have e2 : adL τ (chF τ 0 (-1)) u = τ := by funext g k; simp [adL, chF]
      rw [e2] at hp
      simp only [wB_X2_changeRuns_2]
      exact ⟨fun _ => hp S h hn, fun c => absurd rfl c⟩
    | succ f ih =>
      intro t τ S h hn hT h1 h2 h3 hp
      by_cases c : t = -1
      · subst c
        have e2 : adL τ (chF τ (f + 1) (-1)) u = τ := by funext g k; simp [adL, chF]
        rw [e2] at hp
        rw [wB_X2_changeRuns_2]
        exact ⟨fun _ => hp S h hn, fun c => absurd rfl c⟩
      · obtain ⟨k, rfl⟩ : ∃ k : Nat, t = k := ⟨t.toNat, by omega⟩
        have hb := hT.p k h2
        have hw := h.w6 k (τ 10 k + u) h2
        have e5 : up τ 10 k (τ 10 k + u) 5 k = τ 5 k := up_ne (by decide)
        have e4 : up τ 10 k (τ 10 k + u) 4 0 = τ 4 0 := up_ne (by decide)
        have hT2 : okT (up τ 10 k (τ 10 k + u)) := hT.up (by decide) (by decide)
        have el : lnk T (k : Int) = some (T k) := by unfold lnk; rw [if_neg c]; rfl
        have rl := hw.tp' hT2 k (by rw [e4]; exact h2)
        rw [e5] at rl
        rw [wB_X2_changeRuns_2, el]
        simp only [Option.some.injEq, exists_eq_left', h.Tk k h2, true_and, h.t6 k h2, iI_add, rl]
        refine ⟨fun z => (by cases z), fun _ => ?_⟩
        rintro _ rfl
        have hlt : τ 5 k < k := by
          by_cases e : k = 0
          · subst e; rw [hT.2.2.1]; omega
          · have := hT.2.2.2 k (by omega) h2; omega
        refine ih (τ 5 k) _ _ hw (hn.w rfl) hT2 hb.1 (by rw [e4]; omega) (by omega) (fun S' h' hn' => hp S' ?_ hn')
        rw [chF_cong (a := τ) (fun i => up_ne (by decide)), adL_cons (fun z => by have := chF_le hT f (τ 5 k) hb.1 (by omega) k z; omega)] at h'
        simp only [chF]
        rw [if_neg c]
        exact h'
  have := hT.2.1
  have el : some (T t) = lnk T (t : Int) := by unfold lnk; rw [if_neg (by omega)]; rfl
  unfold wp_X2_changeRuns
  rw [el]
  exact ⟨_, key (T t) 11 t ρ S h hn hT (by omega) ht (by omega) hp⟩
theorem okT17 (hT : okT ρ) {j : Nat} {v : Int} : okT (up ρ 17 j v) := hT.up (by decide) (by decide)
theorem cx_give (hT : okT ρ) (hJ : okJ ρ) (h : RB P F S x T J V L E ρ al ln vi) (hn : rmB S E n B) {j : Nat} (hj : (j : Int) < ρ 12 0) {post : fMS → Nat → Prop} (hp : ∀ S', RB P F S' x T J V L E (htF ρ j) al ln vi → rmB S' E n B → post S' n) : wp_X0_giveUnitsBack S n (J j) post := by
  have bj := hJ.2.2 j hj
  obtain ⟨l, hl⟩ : ∃ l : Nat, ρ 13 j = l := ⟨(ρ 13 j).toNat, by omega⟩
  have hw := h.wSt j 0 hj
  have e : ∀ g k, g ≠ 17 → up ρ 17 j 0 g k = ρ g k := fun g k hg => up_ne hg
  have hj' : (j : Int) < up ρ 17 j 0 12 0 := by rw [e 12 0 (by decide)]; exact hj
  have r1 := hw.jl j hj'
  have r2 := hw.j2 j hj'
  rw [e 13 j (by decide), hl, Int.toNat_natCast] at r1
  rw [e 14 j (by decide)] at r2
  have k3 := hw.Tk l (by rw [e 4 0 (by decide)]; omega)
  unfold wp_X0_giveUnitsBack
  rw [h.Jk j hj, true_and]
  show ∃ a2 : Nat, sR (wI S (J j) 4 (iI (stV 0))) (J j) 1 = some a2 ∧ isA (wI S (J j) 4 (iI (stV 0))) 3 a2 ∧ wp_X2_changeRuns (wI S (J j) 4 (iI (stV 0))) n a2 (-(sI (wI S (J j) 4 (iI (stV 0))) (J j) 2)) _
  rw [r1, r2, iI_neg]
  simp only [Option.some.injEq, exists_eq_left', k3, true_and]
  refine cx_changeRuns (okT17 hT) hw (hn.w rfl) (by rw [e 4 0 (by decide)]; omega) (fun S' h' hn' => hp S' (h'.cg (fun g k _ h11 _ _ _ _ _ _ _ _ => ?_)) hn')
  unfold htF rmS
  rw [hl]
  try dsimp only
  simp only [Int.toNat_natCast]
  unfold adL
  have ec : chS (up (up ρ 17 j 0) 11 l (ρ 11 l + ρ 14 j)) l = chS (up ρ 17 j 0) l := chF_cong (fun k => up_ne (by decide)) 11 l
  rw [ec, up_ne h11]
theorem cx_take (hT : okT ρ) (hJ : okJ ρ) (h : RB P F S x T J V L E ρ al ln vi) (hn : rmB S E n B) {j : Nat} (hj : (j : Int) < ρ 12 0) {post : fMS → Nat → Prop} (hp : ∀ S', RB P F S' x T J V L E (bkF ρ j) al ln vi → rmB S' E n B → post S' n) : wp_X0_takeUnits S n (J j) post := by
  have bj := hJ.2.2 j hj
  obtain ⟨l, hl⟩ : ∃ l : Nat, ρ 13 j = l := ⟨(ρ 13 j).toNat, by omega⟩
  have hw := h.wSt j 1 hj
  have e : ∀ g k, g ≠ 17 → up ρ 17 j 1 g k = ρ g k := fun g k hg => up_ne hg
  have hj' : (j : Int) < up ρ 17 j 1 12 0 := by rw [e 12 0 (by decide)]; exact hj
  have r1 := hw.jl j hj'
  have r2 := hw.j2 j hj'
  rw [e 13 j (by decide), hl, Int.toNat_natCast] at r1
  rw [e 14 j (by decide)] at r2
  have k3 := hw.Tk l (by rw [e 4 0 (by decide)]; omega)
  unfold wp_X0_takeUnits
  rw [h.Jk j hj, true_and]
  show ∃ a2 : Nat, sR (wI S (J j) 4 (iI (stV 1))) (J j) 1 = some a2 ∧ isA (wI S (J j) 4 (iI (stV 1))) 3 a2 ∧ wp_X2_changeRuns (wI S (J j) 4 (iI (stV 1))) n a2 (sI (wI S (J j) 4 (iI (stV 1))) (J j) 2) _
  rw [r1, r2]
  simp only [Option.some.injEq, exists_eq_left', k3, true_and]
  refine cx_changeRuns (okT17 hT) hw (hn.w rfl) (by rw [e 4 0 (by decide)]; omega) (fun S' h' hn' => hp S' (h'.cg (fun g k _ h11 _ _ _ _ _ _ _ _ => ?_)) hn')
  unfold bkF rmS
  rw [hl]
  try dsimp only
  simp only [Int.toNat_natCast]
  unfold adL
  have ec : chS (up (up ρ 17 j 1) 11 l (ρ 11 l - ρ 14 j)) l = chS (up ρ 17 j 1) l := chF_cong (fun k => up_ne (by decide)) 11 l
  rw [ec, up_ne h11]
theorem stV_b (s : Int) : 99 ≤ stV s ∧ stV s ≤ 119 := by unfold stV; split <;> (try split) <;> (try split) <;> omega
theorem stV_w {s : Int} : stV s = 119 ↔ s = 0 := by unfold stV; split <;> (try split) <;> (try split) <;> omega
theorem stV_r {s : Int} : stV s = 114 ↔ s = 1 := by unfold stV; split <;> (try split) <;> (try split) <;> omega
theorem stV_e {s : Int} : stV s = 101 ↔ s = 2 := by unfold stV; split <;> (try split) <;> (try split) <;> omega
theorem cx_alive (h : RB P F S x T J V L E ρ al ln vi) {j : Nat} (hj : (j : Int) < ρ 12 0) {post : Int32 → Prop} (h1 : ρ 17 j = 0 ∨ ρ 17 j = 1 → post (iI 1)) (h0 : ¬ (ρ 17 j = 0 ∨ ρ 17 j = 1) → post (iI 0)) : wp_X0_isAlive S (J j) post := by
  have b := stV_b (ρ 17 j)
  unfold wp_X0_isAlive
  simp (disch := omega) only [h.Jk j hj, h.j4 j hj, true_and, show (119 : Int32) = iI 119 from rfl, show (114 : Int32) = iI 114 from rfl, iI_eq, stV_w, stV_r]
  exact ⟨fun c => h1 (Or.inl c), fun c => ⟨fun c2 => h0 (fun z => z.elim c c2), fun c2 => h1 (Or.inr c2)⟩⟩
theorem cx_limits (hT : okT ρ) (hB : okB ρ) (h : RB P F S x T J V L E ρ al ln vi) {t : Nat} (ht : (t : Int) < ρ 4 0) {u : Int} (hu : -100000 ≤ u ∧ u ≤ 100000) {post : Int32 → Prop} (h1 : limP ρ (chS ρ t) u → post (iI 1)) (h0 : ¬ limP ρ (chS ρ t) u → post (iI 0)) : wp_X2_limitsAllow S (T t) (iI u) post := by
  have key : ∀ (o f k : Nat), (k : Int) < ρ 4 0 → k < f → (limP ρ (chF ρ f k) u → post (iI 1)) → (¬ limP ρ (chF ρ f k) u → post (iI 0)) → wB_X2_limitsAllow_2 S post o (iI u) (f + 1) (some (T k)) := by
    intro o f; induction f with
    | zero => intro k _ h; omega
    | succ f ih =>
      intro k hk hf p1 p0
      have b10 := hB 10 k; have b7 := hB 7 k
      rw [wB_X2_limitsAllow_2]
      simp (disch := omega) only [Option.some.injEq, exists_eq_left', h.Tk k hk, true_and, h.tp k hk, h.t6 k hk, h.t4 k hk, iI_add, iI_le]
      by_cases e : k = 0
      · subst e
        refine ⟨fun _ => p1 (fun i hi hi0 => ?_), fun c => absurd (by rw [if_pos rfl]) c⟩
        have := chF_le hT (f + 1) 0 (by omega) hk i hi; omega
      · have b5 := hT.2.2.2 k (by omega) hk
        have hch : limP ρ (chF ρ (f + 1) k) u ↔ (ρ 10 k + u ≤ ρ 7 k ∧ limP ρ (chF ρ f (ρ 5 k)) u) := by
          simp only [chF]
          rw [if_neg (by omega)]
          simp only [Int.toNat_natCast]
          constructor
          · intro z; exact ⟨z k List.mem_cons_self (by omega), fun i hi => z i (List.mem_cons_of_mem _ hi)⟩
          · rintro ⟨z1, z2⟩ i hi hi0
            rcases List.mem_cons.mp hi with e | e
            · rw [e]; exact z1
            · exact z2 i e hi0
        rw [if_neg e]
        refine ⟨fun z => (by cases z), fun _ => ⟨fun c => ?_, fun c => p0 (fun z => c (hch.mp z).1)⟩⟩
        rintro _ rfl
        obtain ⟨q, hq⟩ : ∃ q : Nat, ρ 5 k = q := ⟨(ρ 5 k).toNat, by omega⟩
        rw [hq] at hch ⊢
        simp only [Int.toNat_natCast]
        exact ih q (by omega) (by omega) (fun z => p1 (hch.mpr ⟨c, z⟩)) (fun z => p0 (fun w => z (hch.mp w).2))
  have := hT.2.1
  exact ⟨_, key (T t) 11 t ht (by omega) h1 h0⟩
end
