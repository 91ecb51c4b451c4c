section
variable {ρ σ τ : fG2}
/-- 18 and the rest apart -/
theorem ht_stp (σ : fG2) (G : List Nat) (j g k : Nat) : htF (stpF σ G) j g k = stpF (htF σ j) G g k := by
  have e : ∀ g k, g ≠ 18 → stpF σ G g k = σ g k := fun g k h => stpF_ne h
  by_cases c : g = 18
  · subst c
    rw [htF_g, gF_ne (by decide) (by decide) (by decide)]
    unfold stpF
    rw [htF_g, gF_ne (by decide) (by decide) (by decide)]
  · rw [stpF_ne c, htF_g, htF_g, e 14 j (by decide)]
    by_cases c1 : g = 10
    · subst c1
      unfold gF rmS adL
      rw [gF_ch, gF_ch]
      have hch : ∀ t, chS (stpF σ G) t = chS σ t := fun t => chF_cong (fun k => e 5 k (by decide)) 11 t
      simp only [hch, e 13 _ (by decide), up_ne (show (10 : Nat) ≠ 11 by decide), up_ne (show (10 : Nat) ≠ 17 by decide), e 10 _ (by decide)]
    · by_cases c2 : g = 11
      · subst c2; rw [gF_11, gF_11, e 13 _ (by decide), e 11 _ (by decide)]
      · by_cases c3 : g = 17
        · subst c3; rw [gF_17, gF_17, e 17 _ (by decide)]
        · rw [gF_ne c1 c2 c3, gF_ne c1 c2 c3, e g k c]
theorem hts_app (σ : fG2) (G : List Nat) (j : Nat) : hts σ (G ++ [j]) = htF (hts σ G) j := by
  unfold hts; rw [List.foldl_append]; rfl
end
section
variable {P : Nat → Prop} {F S S' : fMS} {x n B : Nat} {T J V L E E' : Nat → Nat} {ρ : fG2} {al ln vi : List Nat}
/-- behind a trial: all back -/
theorem cx_back (hc : cI ρ) {post : Int32 → fMS → Nat → Prop} {fl : Int} (hfl : fl = 0 ∨ fl = 1) {o : Nat} (ho : o = x) {p1 : Option Nat} {G : List Nat}
    (hp : ∀ S', RB P F S' x T J V L E ρ al ln G → rmB S' E n B → post (iI fl) S' n) : ∀ (d k : Nat) (S : fMS) (τ : fG2), k + d = G.length → G.length ≤ 40 → RB P F S x T J V L E τ al ln G → rmB S E n B → gon ρ τ (G.drop k) → wB_X3_findVictims_81 post o p1 (d + 1) S n (iI fl) (iI k) := by
  subst ho
  intro d; induction d with
  | zero =>
    intro k S τ hk h40 h hn hg
    rw [List.drop_eq_nil_of_le (by omega)] at hg
    simp only [wB_X3_findVictims_81]
    simp (disch := omega) only [h.X, h.x6, Option.some.injEq, exists_eq_left', h.k6, true_and, h.s6, iI_le]
    refine ⟨fun _ => ⟨nar01 hfl, hp S ?_ hn⟩, fun c => absurd c (by omega)⟩
    have e := gon_nil hc.i hg
    exact h.cg (fun g k _ _ _ _ _ _ _ _ a b => (e g k a b).symm)
  | succ d ih =>
    intro k S τ hk h40 h hn hg
    have hd : G.drop k = G[k] :: G.drop (k + 1) := List.drop_eq_getElem_cons (by omega)
    have hgd : G.getD k 0 = G[k] := by rw [List.getD_eq_getElem?_getD, List.getElem?_eq_getElem (by omega)]; rfl
    obtain ⟨j, hj⟩ : ∃ j, j = G[k] := ⟨_, rfl⟩
    rw [← hj] at hd hgd
    rw [hd] at hg
    obtain ⟨g1, g2, g3, g4, g5, g6⟩ := hg
    have hjn := g5 j List.mem_cons_self
    have e12 : τ 12 0 = ρ 12 0 := g1 12 0 (by decide) (by decide) (by decide) (by decide) (by decide)
    have jn : (j : Int) < τ 12 0 := by omega
    have s17 : τ 17 j = 0 := by rw [g6, if_pos List.mem_cons_self]
    rw [wB_X3_findVictims_81]
    simp (disch := omega) only [h.X, h.x6, Option.some.injEq, exists_eq_left', h.k6, true_and, h.s6, iI_le]
    refine ⟨fun c => absurd c (by omega), fun _ => ?_⟩
    rw [h.g6 k (by omega), hgd]
    simp only [Option.some.injEq, exists_eq_left', h.Jk j jn, true_and]
    refine cx_take g2.T g2.J h hn jn (fun S' h' hn' => ?_)
    simp only [iI_1, iI_add]
    rintro _ rfl
    have hin := bkF_inv g2 jn s17
    rw [bkF_g] at h' hin
    have nd := List.nodup_cons.mp g4
    refine ih (k + 1) S' _ (by omega) h40 h' hn' ⟨g1.tr eqX.g, hin, gF_B g3 hin (Or.inr rfl), nd.2, fun g hg => g5 g (List.mem_cons_of_mem _ hg), fun i => ?_⟩
    rw [gF_17]
    by_cases e : i = j
    · subst e; rw [if_pos rfl, if_neg nd.1, hjn.2]
    · rw [if_neg e, g6]
      by_cases c : i ∈ G.drop (k + 1)
      · rw [if_pos c, if_pos (List.mem_cons_of_mem _ c)]
      · rw [if_neg c, if_neg (fun z => (List.mem_cons.mp z).elim e c)]
def flB (b : Bool) : Int := if b then 1 else 0
theorem cx_victims (hc : cI ρ) (hal : al = alv ρ) (h : RB P F S x T J V L E ρ al ln []) (hn : rmB S E n B) {j0 : Nat} (hj0 : (j0 : Int) < ρ 12 0) {post : Int32 → fMS → Nat → Prop}
    (hp : ∀ S' n' E', RB P F S' x T J V L E' ρ al ln (vcS ρ j0).1 → rmB S' E' n' B → post (iI (flB (vcS ρ j0).2)) S' n') : wp_X3_findVictims S n x (some (J j0)) post := by
  have bj := hc.i.J.2.2 j0 hj0
  obtain ⟨t, ht⟩ : ∃ t : Nat, ρ 13 j0 = t := ⟨(ρ 13 j0).toNat, by omega⟩
  have hv : vcS ρ j0 = vcF (t : Int) (ρ 14 j0) 40 ρ := by unfold vcS; rw [ht]
  -- the trial is over
  have fin : ∀ (S : fMS) (n : Nat) (E : Nat → Nat) (τ : fG2) (vi : List Nat), RB P F S x T J V L E τ al ln vi → rmB S E n B → gon ρ τ vi → vi.length ≤ 40 → (vcS ρ j0).1 = vi → ((vcS ρ j0).2 = true ↔ ρ 14 j0 ≤ freS τ t) → wB_X3_findVictims_58 post x (some (J j0)) S n := by
    intro S n E τ vi h hn hg h40 e1 e2
    have hcτ := gon_cI hc hg
    obtain ⟨g1, g2, g3, g4, g5, g6⟩ := id hg
    have e12 : τ 12 0 = ρ 12 0 := g1 12 0 (by decide) (by decide) (by decide) (by decide) (by decide)
    have e13 : τ 13 j0 = t := by rw [g1 13 j0 (by decide) (by decide) (by decide) (by decide) (by decide)]; exact ht
    have e14 : τ 14 j0 = ρ 14 j0 := g1 14 j0 (by decide) (by decide) (by decide) (by decide) (by decide)
    have e4 : τ 4 0 = ρ 4 0 := g1 4 0 (by decide) (by decide) (by decide) (by decide) (by decide)
    have jn : (j0 : Int) < τ 12 0 := by omega
    have tn : (t : Int) < τ 4 0 := by omega
    have bf := fre_b hcτ.i.P hcτ.i.U hcτ.i.T hcτ.i.c t
    have back := fun (fl : Int) (hfl : fl = 0 ∨ fl = 1) (hf : fl = flB (vcS ρ j0).2) => cx_back (post := post) (P := P) (F := F) (T := T) (J := J) (V := V) (L := L) (E := E) (n := n) (B := B) (al := al) (ln := ln) hc hfl (o := x) rfl (p1 := some (J j0)) (G := vi) (fun S' h' hn' => by
      have := hp S' n E (by rw [e1]; exact h') hn'
      rw [← hf] at this; exact this) vi.length 0 S τ (by omega) h40 h hn (by rw [List.drop_zero]; exact hg)
    unfold wB_X3_findVictims_58
    simp only [Option.some.injEq, exists_eq_left', h.Jk j0 jn, true_and, h.X, h.jl j0 jn, e13, Int.toNat_natCast]
    refine cx_free hcτ h tn ?_
    simp (disch := omega) only [h.j2 j0 jn, e14, iI_lt]
    refine ⟨fun c => ⟨_, back 0 (Or.inl rfl) ?_⟩, fun c => ⟨_, back 1 (Or.inr rfl) ?_⟩⟩
    · have : (vcS ρ j0).2 = false := by
        cases z : (vcS ρ j0).2 with
        | false => rfl
        | true => have := e2.mp z; omega
      rw [this]; rfl
    · rw [e2.mpr (by omega)]; rfl
  have key : ∀ (f : Nat) (S : fMS) (n : Nat) (E : Nat → Nat) (τ : fG2) (vi : List Nat), vi.length + f = 40 → RB P F S x T J V L E τ al ln vi → rmB S E n B → gon ρ τ vi →
      vi ++ (vcF (t : Int) (ρ 14 j0) f τ).1 = (vcS ρ j0).1 → (vcF (t : Int) (ρ 14 j0) f τ).2 = (vcS ρ j0).2 → wB_X3_findVictims_2 post x (some (J j0)) (f + 1) S n (iI vi.length) := by
    intro f; induction f with
    | zero =>
      intro S n E τ vi hl h hn hg e1 e2
      simp only [wB_X3_findVictims_2]
      simp (disch := omega) only [show (40 : Int32) = iI 40 from rfl, iI_le]
      refine ⟨fun _ => fin S n E τ vi h hn hg (by omega) ?_ ?_, fun c => absurd (by omega) c⟩
      · rw [← e1]; simp [vcF]
      · rw [← e2]; simp [vcF]
    | succ f ih =>
      intro S n E τ vi hl h hn hg e1 e2
      have hcτ := gon_cI hc hg
      obtain ⟨g1, g2, g3, g4, g5, g6⟩ := id hg
      have e12 : τ 12 0 = ρ 12 0 := g1 12 0 (by decide) (by decide) (by decide) (by decide) (by decide)
      have e13 : τ 13 j0 = t := by rw [g1 13 j0 (by decide) (by decide) (by decide) (by decide) (by decide)]; exact ht
      have e14 : τ 14 j0 = ρ 14 j0 := g1 14 j0 (by decide) (by decide) (by decide) (by decide) (by decide)
      have e4 : τ 4 0 = ρ 4 0 := g1 4 0 (by decide) (by decide) (by decide) (by decide) (by decide)
      have jn : (j0 : Int) < τ 12 0 := by omega
      have tn : (t : Int) < τ 4 0 := by omega
      have bf := fre_b hcτ.i.P hcτ.i.U hcτ.i.T hcτ.i.c t
      have q4 := hc.i.J.2.1
      have lo := loS_ok g2.J (t : Int)
      rw [wB_X3_findVictims_2]
      simp (disch := omega) only [show (40 : Int32) = iI 40 from rfl, iI_le, Option.some.injEq, exists_eq_left', h.Jk j0 jn, true_and, h.X, h.jl j0 jn, e13, Int.toNat_natCast]
      refine ⟨fun c => absurd c (by omega), fun _ => cx_free hcτ h tn ?_⟩
      simp (disch := omega) only [h.j2 j0 jn, e14, iI_le]
      refine ⟨fun c => ?_, fun c => cx_youngest hcτ (by rw [hal, gon_alv hc.i.J hg]) h tn ⟨fun c2 => ?_, fun c2 => ?_⟩⟩
      · have ev : vcF (t : Int) (ρ 14 j0) (f + 1) τ = ([], true) := by simp only [vcF]; rw [if_pos c]
        rw [ev] at e1 e2
        refine fin S n E τ vi h hn hg (by omega) ?_ ?_
        · rw [← e1]; simp
        · rw [← e2]; simp [c]
      · have hl1 : loS τ t ≠ -1 := fun z => c2 (by unfold lnJ; rw [if_pos z])
        have lo := lo.resolve_left hl1
        obtain ⟨j, hj⟩ : ∃ j : Nat, loS τ t = j := ⟨(loS τ t).toNat, by omega⟩
        rw [hj] at lo hl1 ⊢
        simp only [Int.toNat_natCast] at lo
        have ej : lnJ J (j : Int) = some (J j) := by unfold lnJ; rw [if_neg hl1]; rfl
        have ev : vcF (t : Int) (ρ 14 j0) (f + 1) τ = (j :: (vcF t (ρ 14 j0) f (htF τ j)).1, (vcF t (ρ 14 j0) f (htF τ j)).2) := by
          simp only [vcF]
          rw [if_neg c, hj, if_neg hl1]
          rfl
        rw [ev] at e1 e2
        have jn2 := lo.2.1
        have hG : j ∉ vi := fun z => by
          have := g6 j; rw [if_pos z] at this; have := lo.2.2.1; omega
        have hs1 : ρ 17 j = 1 := by
          have := g6 j
          rw [if_neg hG] at this; rw [← this]; exact lo.2.2.1
        rw [ej]
        simp only [Option.some.injEq, exists_eq_left', h.Jk j jn2, true_and]
        refine cx_give g2.T g2.J h hn jn2 (fun S' h' hn' => ⟨h'.1.1, ?_⟩)
        have hin := htF_inv g2 jn2 lo.2.2.1
        have hg' : gon ρ (htF τ j) (vi ++ [j]) := by
          refine ⟨g1.tr (by rw [htF_g]; exact eqX.g), hin, by rw [htF_g] at hin ⊢; exact gF_B g3 hin (Or.inl rfl), ?_, fun g hgm => ?_, fun i => ?_⟩
          · rw [List.nodup_append]
            exact ⟨g4, by simp, fun a ha b hb => by simp at hb; subst hb; exact fun z => hG (z ▸ ha)⟩
          · rcases List.mem_append.mp hgm with z | z
            · exact g5 g z
            · simp at z; subst z; exact ⟨by omega, hs1⟩
          · rw [htF_g, gF_17]
            by_cases z : i = j
            · subst z; rw [if_pos rfl, if_pos (by simp)]
            · rw [if_neg z, g6]
              by_cases y : i ∈ vi
              · rw [if_pos y, if_pos (by simp [y])]
              · rw [if_neg y, if_neg (by simp [y, z])]
        have j12 : (j : Int) < htF τ j 12 0 := by rw [htF_g, gF_ne (by decide) (by decide) (by decide)]; exact jn2
        simp only [h'.x6, Option.some.injEq, exists_eq_left', h'.k6, true_and]
        refine h'.add6 hn' j12 (by omega) (fun S2 n2 E2 h2 hn2 => ?_)
        simp only [iI_1, iI_add]
        rintro _ rfl
        have := ih S2 n2 E2 (htF τ j) (vi ++ [j]) (by simp; omega) h2 hn2 hg' (by rw [← e1]; simp) e2
        simpa using this
      · have hl1 : loS τ t = -1 := by
          unfold lnJ at c2; split at c2
          · assumption
          · cases c2
        have ev : vcF (t : Int) (ρ 14 j0) (f + 1) τ = ([], false) := by simp only [vcF]; rw [if_neg c, if_pos hl1]
        rw [ev] at e1 e2
        refine fin S n E τ vi h hn hg (by omega) ?_ ?_
        · rw [← e1]; simp
        · rw [← e2]; simp [c]
  exact ⟨_, key 40 S n E ρ [] (by simp) h hn (gon_rf hc.i hc.B) (by simp [hv]) (by rw [hv])⟩
theorem cx_can (hc : cI ρ) (hal : al = alv ρ) (h : RB P F S x T J V L E ρ al ln vi) (hn : rmB S E n B) {j : Nat} (hj : (j : Int) < ρ 12 0) {post : Int32 → fMS → Nat → Prop}
    (p1 : canX ρ j → ∀ S' n' E', RB P F S' x T J V L E' ρ al ln (gnS ρ j) → rmB S' E' n' B → post (iI 1) S' n')
    (p0 : ¬ canX ρ j → ∀ S' n' E' vi', RB P F S' x T J V L E' ρ al ln vi' → rmB S' E' n' B → post (iI 0) S' n') : wp_X3_canStartOrReclaim S n x (some (J j)) post := by
  have bj := hc.i.J.2.2 j hj
  obtain ⟨t, ht⟩ : ∃ t : Nat, ρ 13 j = t := ⟨(ρ 13 j).toNat, by omega⟩
  have tn : (t : Int) < ρ 4 0 := by omega
  have bf := fre_b hc.i.P hc.i.U hc.i.T hc.i.c t
  have b10 := hc.i.U t; have b45 := hc.B 45 t; have e45 := hc.h45 t tn
  unfold wp_X3_canStartOrReclaim
  simp only [h.X, h.x6, Option.some.injEq, exists_eq_left', h.k6, true_and]
  refine h.clr6 hn (fun S1 h1 hn1 => ?_)
  simp only [Option.some.injEq, exists_eq_left', h1.Jk j hj, true_and, h1.jl j hj, ht, Int.toNat_natCast, h1.Tk t tn, h1.j2 j hj]
  refine cx_limits hc.i.T hc.B h1 tn (by omega) (fun c => ⟨fun _ => ⟨h1.1.1, ?_⟩, fun z => absurd z (by decide)⟩) (fun c => ⟨fun z => absurd rfl z, fun _ => ?_⟩)
  · refine cx_free hc h1 tn ?_
    simp (disch := omega) only [iI_lt, h1.t12 t tn, h1.t6 t tn, iI_add]
    refine ⟨fun c2 => ⟨fun c3 => ?_, fun c3 => ?_⟩, fun c2 => ?_⟩
    · refine p0 (fun z => ?_) S1 n E [] h1 hn1
      rcases z with z | z
      · have := z.2; rw [ht] at this; omega
      · have := z.1.2.2; rw [ht] at this; simp only [Int.toNat_natCast] at this; omega
    · have hm : mkQ ρ j := ⟨by rw [ht]; exact c, by rw [ht]; omega, by rw [ht]; simp only [Int.toNat_natCast]; omega⟩
      have hnc : ¬ canP ρ j := fun z => by have := z.2; rw [ht] at this; omega
      refine cx_victims hc hal h1 hn1 hj (fun S2 n2 E2 h2 hn2 => ?_)
      cases z : (vcS ρ j).2 with
      | true =>
        refine ⟨fun y => absurd y (by decide), fun _ => p1 (Or.inr ⟨hm, z⟩) S2 n2 E2 ?_ hn2⟩
        have : gnS ρ j = (vcS ρ j).1 := by unfold gnS; rw [if_neg hnc]
        rw [this]; exact h2
      | false =>
        refine ⟨fun _ => p0 (fun y => ?_) S2 n2 E2 _ h2 hn2, fun y => absurd rfl y⟩
        rcases y with y | y
        · exact hnc y
        · rw [z] at y; exact absurd y.2 (by decide)
    · have hcp : canP ρ j := ⟨by rw [ht]; exact c, by rw [ht]; omega⟩
      refine p1 (Or.inl hcp) S1 n E ?_ hn1
      have : gnS ρ j = [] := by unfold gnS; rw [if_pos hcp]
      rw [this]; exact h1
  · refine p0 (fun z => ?_) S1 n E [] h1 hn1
    rcases z with z | z
    · have := z.1; rw [ht] at this; exact c this
    · have := z.1.1; rw [ht] at this; exact c this
end
