section
variable {ρ σ τ : fG2}
theorem vcF_gon (t sz : Int) : ∀ (f : Nat) (σ τ : fG2) (H : List Nat), gon σ τ H → gon σ (hts τ (vcF t sz f τ).1) (H ++ (vcF t sz f τ).1) := by
  intro f; induction f with
  | zero => intro σ τ H h; simpa [vcF, hts] using h
  | succ f ih =>
    intro σ τ H hg
    obtain ⟨g1, g2, g3, g4, g5, g6⟩ := id hg
    simp only [vcF]
    split
    · simpa [hts] using hg
    · split
      · simpa [hts] using hg
      · rename_i c2
        have lo := (loS_ok g2.J t).resolve_left c2
        obtain ⟨j, hj⟩ : ∃ j : Nat, loS τ t = j := ⟨(loS τ t).toNat, by omega⟩
        rw [hj] at lo ⊢
        simp only [Int.toNat_natCast] at lo ⊢
        have e12 : τ 12 0 = σ 12 0 := g1 12 0 (by decide) (by decide) (by decide) (by decide) (by decide)
        have jn2 := lo.2.1
        have hG : j ∉ H := fun z => by
          have := g6 j; rw [if_pos z] at this; have := lo.2.2.1; omega
        have hs1 : σ 17 j = 1 := by
          have := g6 j
          rw [if_neg hG] at this; rw [← this]; exact lo.2.2.1
        have hin := htF_inv g2 jn2 lo.2.2.1
        have hg' : gon σ (htF τ j) (H ++ [j]) := by
          refine ⟨g1.tr (by rw [htF_g]; exact eqX.g), hin, by rw [htF_g] at hin ⊢; exact gF_B g3 hin (Or.inl rfl), ?_, fun g hgm => ?_, fun i => ?_⟩
          · rw [List.nodup_append]
            exact ⟨g4, by simp, fun a ha b hb => by simp at hb; subst hb; exact fun z => hG (z ▸ ha)⟩
          · rcases List.mem_append.mp hgm with z | z
            · exact g5 g z
            · simp at z; subst z; exact ⟨by omega, hs1⟩
          · rw [htF_g, gF_17]
            by_cases z : i = j
            · subst z; rw [if_pos rfl, if_pos (by simp)]
            · rw [if_neg z, g6]
              by_cases y : i ∈ H
              · rw [if_pos y, if_pos (by simp [y])]
              · rw [if_neg y, if_neg (by simp [y, z])]
        have := ih σ (htF τ j) (H ++ [j]) hg'
        have e : hts τ (j :: (vcF t sz f (htF τ j)).1) = hts (htF τ j) (vcF t sz f (htF τ j)).1 := rfl
        rw [e]
        simpa using this
theorem gnS_gon (hi : inv ρ) (hB : okB ρ) (j : Nat) : gon ρ (hts ρ (gnS ρ j)) (gnS ρ j) := by
  unfold gnS
  by_cases c : canP ρ j
  · rw [if_pos c]; exact gon_rf hi hB
  · rw [if_neg c]
    have := vcF_gon (ρ 13 j) (ρ 14 j) 40 ρ ρ [] (gon_rf hi hB)
    rw [List.nil_append] at this; exact this
/-- a step of the broker's serving -/
noncomputable def stpC (ρ : fG2) (j : Nat) : fG2 := up (stpS ρ j) 40 j (ρ 20 0 + 1)
theorem stpC_C (j : Nat) : eqC (stpS ρ j) (stpC ρ j) := eqC.up0 (Or.inl (by decide))
theorem stpC_ne {g k j : Nat} (h1 : g ≠ 10) (h2 : g ≠ 11) (h3 : g ≠ 17) (h4 : g ≠ 16) (h5 : g ≠ 18) (h6 : g ≠ 19) (h7 : g ≠ 20) (h8 : g ≠ 40) : stpC ρ j g k = ρ g k := by
  unfold stpC; rw [up_ne h8, stpS_ne h1 h2 h3 h4 h5 h6 h7]
theorem stpS_17 (j i : Nat) : stpS ρ j 17 i = if i = j then 1 else if i ∈ gnS ρ j then 0 else ρ 17 i := by
  unfold stpS; rw [stp_17, hts_17]
theorem stpS_19 (j i : Nat) : stpS ρ j 19 i = if i = j then ρ 20 0 else ρ 19 i := by
  unfold stpS; rw [stp_19, hts_ne (by decide) (by decide) (by decide), hts_ne (by decide) (by decide) (by decide)]
theorem stpC_alv (hi : inv ρ) (hB : okB ρ) {j : Nat} (hx : nxS ρ = some j) : alv (stpC ρ j) = alv ρ := by
  obtain ⟨j1, j2, -, -⟩ := nxS_ok hi hx
  have hg := gnS_gon hi hB j
  unfold alv
  rw [stpC_ne (by decide) (by decide) (by decide) (by decide) (by decide) (by decide) (by decide) (by decide)]
  refine List.filter_congr (fun i _ => ?_)
  have e : stpC ρ j 17 i = stpS ρ j 17 i := (stpC_C j) 17 i (by decide) (by decide)
  rw [e, stpS_17]
  by_cases c : i = j
  · rw [if_pos c, c, j2]; decide
  · rw [if_neg c]
    by_cases d : i ∈ gnS ρ j
    · have := (hg.2.2.2.2.1 i d).2
      rw [if_pos d, this]; decide
    · rw [if_neg d]
theorem stpC_cI {c : Int} (hc : cI ρ) (hD : okD ρ) (hC : okC c ρ) (hcb : c < 100000000) {j : Nat} (hx : nxS ρ = some j) : cI (stpC ρ j) ∧ okD (stpC ρ j) := by
  obtain ⟨j1, j2, j3, j4⟩ := nxS_ok hc.i hx
  have hs := (step_ok ⟨hc.i, hD, hc.E⟩ hx).1
  have hsC := (stpC_C (ρ := ρ) j).iS hs
  have hg := gnS_gon hc.i hc.B j
  have ne : ∀ g k, g ≠ 10 → g ≠ 11 → g ≠ 17 → g ≠ 16 → g ≠ 18 → g ≠ 19 → g ≠ 20 → g ≠ 40 → stpC ρ j g k = ρ g k := fun g k a b c d e f g h => stpC_ne a b c d e f g h
  have er : ∀ t, rsvS (stpC ρ j) t = rsvS ρ t := fun t => by
    unfold rsvS rsvF
    simp only [ne 22 _ (by decide) (by decide) (by decide) (by decide) (by decide) (by decide) (by decide) (by decide), ne 23 _ (by decide) (by decide) (by decide) (by decide) (by decide) (by decide) (by decide) (by decide), ne 24 _ (by decide) (by decide) (by decide) (by decide) (by decide) (by decide) (by decide) (by decide), ne 25 _ (by decide) (by decide) (by decide) (by decide) (by decide) (by decide) (by decide) (by decide), ne 26 _ (by decide) (by decide) (by decide) (by decide) (by decide) (by decide) (by decide) (by decide), ne 1 _ (by decide) (by decide) (by decide) (by decide) (by decide) (by decide) (by decide) (by decide)]
  have e4 := ne 4 0 (by decide) (by decide) (by decide) (by decide) (by decide) (by decide) (by decide) (by decide)
  have e12 := ne 12 0 (by decide) (by decide) (by decide) (by decide) (by decide) (by decide) (by decide) (by decide)
  have ek : kidsN (stpC ρ j) = kidsN ρ := kids_c (fun k => ne 4 k (by decide) (by decide) (by decide) (by decide) (by decide) (by decide) (by decide) (by decide)) (fun k => ne 5 k (by decide) (by decide) (by decide) (by decide) (by decide) (by decide) (by decide) (by decide))
  have hBs : okB (stpS ρ j) := by
    have hCh : okC c (hts ρ (gnS ρ j)) := by
      unfold okC; simp only [hts_ne (g := 20) (by decide) (by decide) (by decide), hts_ne (g := 18) (by decide) (by decide) (by decide)]; exact hC
    have e12' : hts ρ (gnS ρ j) 12 0 = ρ 12 0 := hts_ne (by decide) (by decide) (by decide) _ _
    refine stp_B hg.2.1 hg.2.2.1 hCh hcb (by rw [e12']; exact j1) ?_
    rw [hts_17, j2]; split <;> rfl
  refine ⟨⟨hsC.1, ?_, hsC.2.2, ?_, fun k hk => ?_, fun k hk => ?_, fun k hk => ?_, fun i hi hs => ?_⟩, hsC.2.1⟩
  · refine hBs.w ?_
    have := hC.1; omega
  · unfold okZ; rw [ek, e4]; simp only [ne 22 _ (by decide) (by decide) (by decide) (by decide) (by decide) (by decide) (by decide) (by decide), ne 23 _ (by decide) (by decide) (by decide) (by decide) (by decide) (by decide) (by decide) (by decide)]; exact hc.Z
  · rw [ne 6 k (by decide) (by decide) (by decide) (by decide) (by decide) (by decide) (by decide) (by decide)]; exact hc.w k (by omega)
  · rw [ne 44 k (by decide) (by decide) (by decide) (by decide) (by decide) (by decide) (by decide) (by decide), er]; exact hc.h44 k (by omega)
  · rw [ne 45 k (by decide) (by decide) (by decide) (by decide) (by decide) (by decide) (by decide) (by decide), hc.h45 k (by omega)]
    unfold dueS; rw [er, ne 28 k (by decide) (by decide) (by decide) (by decide) (by decide) (by decide) (by decide) (by decide)]
  · have e19 : stpC ρ j 19 i = stpS ρ j 19 i := (stpC_C j) 19 i (by decide) (by decide)
    have e17 : stpC ρ j 17 i = stpS ρ j 17 i := (stpC_C j) 17 i (by decide) (by decide)
    rw [e17, stpS_17] at hs
    rw [e19, stpS_19]
    by_cases c1 : i = j
    · rw [if_pos c1, c1]; unfold stpC; rw [up_at]
    · rw [if_neg c1] at hs ⊢
      unfold stpC
      rw [up_nj c1, stpS_ne (by decide) (by decide) (by decide) (by decide) (by decide) (by decide) (by decide)]
      refine hc.h40 i (by omega) ?_
      split at hs
      · exact absurd hs (by decide)
      · exact hs
end
section
variable {P : Nat → Prop} {F S S' : fMS} {x n B : Nat} {T J V L E E' : Nat → Nat} {ρ : fG2} {al ln vi : List Nat}
theorem cx_stopV (hi : inv ρ) {G : List Nat} (hG : ∀ g ∈ G, (g : Int) < ρ 12 0) (hnd : G.Nodup) (h : RB P F S x T J V L E ρ al ln G) (hn : rmB S E n B) {post : fMS → Nat → Prop}
    (hp : ∀ S', RB P F S' x T J V L E (stpF (hts ρ G) G) al ln G → rmB S' E n B → post S' n) : wp_X3_stopVictims S n x post := by
  have G40 : G.length ≤ 40 := by
    have := h.l.mx (vid6 (n := ρ 4 0))
    have e : cnt T J V ρ al ln G 6 = G.map J := rfl
    rw [e] at this; simpa [lmx] using this
  have key : ∀ (d i : Nat) (S : fMS), i + d = G.length → RB P F S x T J V L E (stpF (hts ρ (G.take i)) (G.take i)) al ln G → rmB S E n B → wB_X3_stopVictims_2 post x (d + 1) S n (iI i) := by
    intro d; induction d with
    | zero =>
      intro i S hk h hn
      simp only [wB_X3_stopVictims_2]
      simp (disch := omega) only [h.X, h.x6, Option.some.injEq, exists_eq_left', h.k6, true_and, h.s6, iI_le]
      refine ⟨fun _ => hp S ?_ hn, fun c => absurd c (by omega)⟩
      rw [List.take_of_length_le (by omega)] at h; exact h
    | succ d ih =>
      intro i S hk h hn
      have hgd : G.getD i 0 = G[i] := by rw [List.getD_eq_getElem?_getD, List.getElem?_eq_getElem (by omega)]; rfl
      obtain ⟨j, hj⟩ : ∃ j, j = G[i] := ⟨_, rfl⟩
      rw [← hj] at hgd
      have jn0 := hG j (by rw [hj]; exact List.getElem_mem _)
      obtain ⟨H, hH⟩ : ∃ H, H = G.take i := ⟨_, rfl⟩
      have hjH : j ∉ H := by
        rw [hH, hj]; intro z
        obtain ⟨m, hm, e⟩ := List.getElem_of_mem z
        rw [List.getElem_take] at e
        have hm' : m < i := by simp at hm; omega
        exact (List.pairwise_iff_getElem.mp hnd) m i (by omega) (by omega) hm' e
      have htk : G.take (i + 1) = H ++ [j] := by rw [hH, hj, List.take_add_one, List.getElem?_eq_getElem (by omega)]; rfl
      rw [← hH] at h
      have en : ∀ g k, g ≠ 10 → g ≠ 11 → g ≠ 17 → g ≠ 18 → stpF (hts ρ H) H g k = ρ g k := fun g k a b c d => by rw [stpF_ne d, hts_ne a b c]
      have hT' : okT (stpF (hts ρ H) H) := by unfold okT; simp only [en 4 _ (by decide) (by decide) (by decide) (by decide), en 5 _ (by decide) (by decide) (by decide) (by decide)]; exact hi.T
      have hJ' : okJ (stpF (hts ρ H) H) := by unfold okJ; simp only [en 12 _ (by decide) (by decide) (by decide) (by decide), en 13 _ (by decide) (by decide) (by decide) (by decide), en 4 _ (by decide) (by decide) (by decide) (by decide), en 14 _ (by decide) (by decide) (by decide) (by decide), en 15 _ (by decide) (by decide) (by decide) (by decide)]; exact hi.J
      have jn : (j : Int) < stpF (hts ρ H) H 12 0 := by rw [en 12 0 (by decide) (by decide) (by decide) (by decide)]; exact jn0
      rw [wB_X3_stopVictims_2]
      simp (disch := omega) only [h.X, h.x6, Option.some.injEq, exists_eq_left', h.k6, true_and, h.s6, iI_le]
      refine ⟨fun c => absurd c (by omega), fun _ => ?_⟩
      rw [h.g6 i (by omega), hgd]
      simp only [Option.some.injEq, exists_eq_left', h.Jk j jn, true_and]
      refine cx_give hT' hJ' h hn jn (fun S' h' hn' => ?_)
      have jn2 : (j : Int) < htF (stpF (hts ρ H) H) j 12 0 := by rw [htF_g, gF_ne (by decide) (by decide) (by decide)]; exact jn
      simp only [h'.Jk j jn2, true_and, h'.j6 j jn2, iI_1, iI_add]
      rintro _ rfl
      have w := h'.wj6 j (htF (stpF (hts ρ H) H) j 18 j + 1) jn2
      refine ih (i + 1) _ (by omega) ?_ (hn'.w rfl)
      have ef : up (htF (stpF (hts ρ H) H) j) 18 j (htF (stpF (hts ρ H) H) j 18 j + 1) = stpF (hts ρ (G.take (i + 1))) (G.take (i + 1)) := by
        funext g k
        rw [htk, hts_app]
        by_cases c : g = 18 ∧ k = j
        · obtain ⟨rfl, rfl⟩ := c
          rw [up_at, ht_stp]
          unfold stpF
          rw [if_neg (fun z => hjH z.2), if_pos ⟨rfl, by simp⟩]
        · have : up (htF (stpF (hts ρ H) H) j) 18 j (htF (stpF (hts ρ H) H) j 18 j + 1) g k = htF (stpF (hts ρ H) H) j g k := if_neg c
          rw [this, ht_stp]
          unfold stpF
          by_cases d : g = 18
          · subst d
            have hkj : k ≠ j := fun z => c ⟨rfl, z⟩
            by_cases e : k ∈ H
            · rw [if_pos ⟨rfl, e⟩, if_pos ⟨rfl, by simp [e]⟩]
            · rw [if_neg (fun z => e z.2), if_neg (fun z => by have := z.2; simp [e, hkj] at this)]
          · rw [if_neg (fun z => d z.1), if_neg (fun z => d z.1)]
      rw [← ef]; exact w
  refine ⟨_, key G.length 0 S (by omega) ?_ hn⟩
  have : stpF (hts ρ (G.take 0)) (G.take 0) = ρ := by funext g k; simp [stpF, hts]
  rw [this]; exact h
theorem cx_start (hT : okT ρ) (hJ : okJ ρ) (h : RB P F S x T J V L E ρ al ln vi) (hn : rmB S E n B) {j : Nat} (hj : (j : Int) < ρ 12 0) {post : fMS → Nat → Prop}
    (hp : ∀ S', RB P F S' x T J V L E (up (stF ρ j) 40 j (ρ 20 0 + 1)) al ln vi → rmB S' E n B → post S' n) : wp_X3_start S n x (some (J j)) post := by
  unfold wp_X3_start
  simp only [Option.some.injEq, exists_eq_left', h.Jk j hj, true_and]
  refine cx_take hT hJ h hn hj (fun S1 h1 hn1 => ?_)
  have ne : ∀ g k, g ≠ 10 → g ≠ 11 → g ≠ 17 → bkF ρ j g k = ρ g k := fun g k a b c => by rw [bkF_g]; exact gF_ne a b c
  have e12 := ne 12 0 (by decide) (by decide) (by decide)
  have j1 : (j : Int) < bkF ρ j 12 0 := by rw [e12]; exact hj
  have w1 := h1.wj5 j (ρ 15 j) j1
  have w2 := w1.wX 10 20 (ρ 20 0 + 1) (Or.inr (Or.inr (Or.inr ⟨rfl, rfl⟩)))
  have j3 : (j : Int) < up (up (bkF ρ j) 16 j (ρ 15 j)) 20 0 (ρ 20 0 + 1) 12 0 := by rw [up_ne (by decide), up_ne (by decide)]; exact j1
  have w3 := w2.wj7 j (ρ 20 0 + 1) j3
  have r1 := h1.j3 j j1
  rw [ne 15 j (by decide) (by decide) (by decide)] at r1
  have r2 := w1.x10
  rw [up_ne (by decide), ne 20 0 (by decide) (by decide) (by decide)] at r2
  have r3 := w2.x10
  rw [up_at] at r3
  rw [h1.Jk j j1, true_and, r1, r2, iI_1, iI_add, r3]
  refine ⟨w1.1.1, hp _ (w3.cg (fun g k h0 h11 h19 _ _ _ _ _ _ _ => ?_)) (((hn1.w rfl).w rfl).w rfl)⟩
  -- the same but for what the broker doesn't hold
  by_cases c40 : g = 40 ∧ k = j
  · obtain ⟨rfl, rfl⟩ := c40; rw [up_at, up_at]
  · have a1 : up (stF ρ j) 40 j (ρ 20 0 + 1) g k = stF ρ j g k := if_neg c40
    have a2 : up (up (up (bkF ρ j) 16 j (ρ 15 j)) 20 0 (ρ 20 0 + 1)) 40 j (ρ 20 0 + 1) g k = up (up (bkF ρ j) 16 j (ρ 15 j)) 20 0 (ρ 20 0 + 1) g k := if_neg c40
    rw [a1, a2, stF_g, bkF_g]
    have st : ∀ g k, g ≠ 16 → g ≠ 19 → g ≠ 20 → stB ρ j g k = ρ g k := fun g k a b c => by unfold stB; rw [up_ne c, up_ne b, up_ne a]
    by_cases c20 : g = 20
    · subst c20
      rw [gF_ne (by decide) (by decide) (by decide)]
      unfold stB
      by_cases k0 : k = 0
      · subst k0; rw [up_at, up_at]
      · rw [up_nj k0, up_nj k0, up_ne (by decide), up_ne (by decide), up_ne (by decide), gF_ne (by decide) (by decide) (by decide)]
    · rw [up_ne c20]
      by_cases c16 : g = 16
      · subst c16
        rw [gF_ne (by decide) (by decide) (by decide)]
        unfold stB
        rw [up_ne (by decide), up_ne (by decide)]
        by_cases kj : k = j
        · subst kj; rw [up_at, up_at]
        · rw [up_nj kj, up_nj kj, gF_ne (by decide) (by decide) (by decide)]
      · rw [up_ne c16]
        by_cases c10 : g = 10
        · subst c10
          unfold gF rmS adL
          rw [gF_ch, gF_ch]
          have hch : ∀ t, chS (stB ρ j) t = chS ρ t := fun t => chF_cong (fun k => st 5 k (by decide) (by decide) (by decide)) 11 t
          simp only [hch, st 13 _ (by decide) (by decide) (by decide), up_ne (show (10 : Nat) ≠ 11 by decide), up_ne (show (10 : Nat) ≠ 17 by decide), st 10 _ (by decide) (by decide) (by decide)]
        · by_cases c17 : g = 17
          · subst c17; rw [gF_17, gF_17, st 17 _ (by decide) (by decide) (by decide)]
          · rw [gF_ne c10 h11 c17, gF_ne c10 h11 c17]
            by_cases c19 : g = 19
            · exact absurd c19 h19
            · exact st g k c16 c19 c20
theorem cx_serveNext (hc : cI ρ) (hal : al = alv ρ) (h : RB P F S x T J V L E ρ al ln vi) (hn : rmB S E n B) {post : Int32 → fMS → Nat → Prop}
    (p0 : nxS ρ = none → ∀ S' n' E' ln' vi', RB P F S' x T J V L E' ρ al ln' vi' → rmB S' E' n' B → post (iI 0) S' n')
    (p1 : ∀ j, nxS ρ = some j → ∀ S' n' E' ln' vi', RB P F S' x T J V L E' (stpC ρ j) al ln' vi' → rmB S' E' n' B → post (iI 1) S' n') : wp_X3_serveNext S n x post := by
  obtain ⟨l, hl⟩ : ∃ l, l = lnS ρ := ⟨_, rfl⟩
  have l10 : l.length ≤ 40 ∧ True := by
    refine ⟨?_, trivial⟩
    have : ∀ (d t : Nat) (l : List Nat), (lnF ρ t d l).length ≤ l.length + d := by
      intro d; induction d with
      | zero => intro t l; exact Nat.le_refl _
      | succ d ih =>
        intro t l
        unfold lnF
        split
        · have := ih (t + 1) (insAt l (atB ρ l t l.length) t)
          rw [insAt_len (atB_le ρ l t _)] at this; omega
        · have := ih (t + 1) l; omega
    have := this (ρ 4 0).toNat 0 []
    have := hc.i.T.2.1
    rw [hl]; unfold lnS; simp at *; omega
  have key : ∀ (d k : Nat) (S : fMS) (n : Nat) (E : Nat → Nat) (vi : List Nat), k + d = l.length → RB P F S x T J V L E ρ al (l.map (fjS ρ)) vi → rmB S E n B → nxL ρ (l.drop k) = nxS ρ → wB_X3_serveNext_6 post x (d + 1) S n (iI k) := by
    have len : (l.map (fjS ρ)).length = l.length := List.length_map _
    intro d; induction d with
    | zero =>
      intro k S n E vi hk h hn hx
      rw [List.drop_eq_nil_of_le (by omega)] at hx
      simp only [wB_X3_serveNext_6]
      simp (disch := omega) only [h.X, h.x5, Option.some.injEq, exists_eq_left', h.k5, true_and, h.s5, len, iI_le]
      exact ⟨fun _ => p0 hx.symm S n E _ _ h hn, fun c => absurd c (by omega)⟩
    | succ d ih =>
      intro k S n E vi hk h hn hx
      have hd : l.drop k = l[k] :: l.drop (k + 1) := List.drop_eq_getElem_cons (by omega)
      obtain ⟨t, ht⟩ : ∃ t, t = l[k] := ⟨_, rfl⟩
      have hgd : (l.map (fjS ρ)).getD k 0 = fjS ρ t := by rw [List.getD_eq_getElem?_getD, List.getElem?_eq_getElem (by omega), ht]; simp
      rw [← ht] at hd
      have htm : t ∈ lnS ρ := by rw [← hl, ht]; exact List.getElem_mem _
      have ht3 := lnS_mem hc.i.T htm
      obtain ⟨j, j1, j2, j3, j4⟩ := fstS_ok hc.i.J t ht3.2.2
      have ej : fjS ρ t = j := by unfold fjS; rw [j1]; rfl
      rw [ej] at hgd
      rw [hd] at hx
      rw [wB_X3_serveNext_6]
      simp (disch := omega) only [h.X, h.x5, Option.some.injEq, exists_eq_left', h.k5, true_and, h.s5, len, iI_le]
      refine ⟨fun c => absurd c (by omega), fun _ => ?_⟩
      rw [h.g5 k (by omega), hgd]
      simp only [Option.some.injEq, exists_eq_left', h.Jk j j2, true_and]
      refine cx_can hc hal h hn j2 (fun c S1 n1 E1 h1 hn1 => ⟨fun z => absurd z (by decide), fun _ => ⟨h1.1.1, ?_⟩⟩) (fun c S1 n1 E1 vi1 h1 hn1 => ⟨fun _ => ?_, fun z => absurd rfl z⟩)
      · rw [nxL_y j1 c] at hx
        have hg := gnS_gon hc.i hc.B j
        refine cx_stopV hc.i (fun g hgm => (hg.2.2.2.2.1 g hgm).1) hg.2.2.2.1 h1 hn1 (fun S2 h2 hn2 => ⟨h2.1.1, ?_⟩)
        have en : ∀ g k, g ≠ 10 → g ≠ 11 → g ≠ 17 → g ≠ 18 → stpF (hts ρ (gnS ρ j)) (gnS ρ j) g k = ρ g k := fun g k a b c d => by rw [stpF_ne d, hts_ne a b c]
        have hT' : okT (stpF (hts ρ (gnS ρ j)) (gnS ρ j)) := by unfold okT; simp only [en 4 _ (by decide) (by decide) (by decide) (by decide), en 5 _ (by decide) (by decide) (by decide) (by decide)]; exact hc.i.T
        have hJ' : okJ (stpF (hts ρ (gnS ρ j)) (gnS ρ j)) := by unfold okJ; simp only [en 12 _ (by decide) (by decide) (by decide) (by decide), en 13 _ (by decide) (by decide) (by decide) (by decide), en 4 _ (by decide) (by decide) (by decide) (by decide), en 14 _ (by decide) (by decide) (by decide) (by decide), en 15 _ (by decide) (by decide) (by decide) (by decide)]; exact hc.i.J
        refine cx_start hT' hJ' h2 hn2 (by rw [en 12 0 (by decide) (by decide) (by decide) (by decide)]; exact j2) (fun S3 h3 hn3 => ?_)
        rw [en 20 0 (by decide) (by decide) (by decide) (by decide)] at h3
        exact p1 j hx.symm S3 n1 E1 _ _ h3 hn3
      · rw [nxL_n j1 c] at hx
        simp only [iI_1, iI_add]
        rintro _ rfl
        exact ih (k + 1) S1 n1 E1 vi1 (by omega) h1 hn1 hx
  unfold wp_X3_serveNext
  rw [h.X, true_and]
  refine cx_formLine hc.i hc.B hc.E hc.w hal h hn (fun S' n' E' h' hn' => ⟨_, key l.length 0 S' n' E' vi (by omega) ?_ hn' ?_⟩)
  · unfold jlS at h'; rw [← hl] at h'; exact h'
  · rw [List.drop_zero, hl]; rfl
end
