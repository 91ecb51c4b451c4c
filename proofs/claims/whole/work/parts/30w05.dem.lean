section
variable {ρ σ : fG2}
/-- the jobs that wait or run, by rising numbers -/
def alv (ρ : fG2) : List Nat := (List.range (ρ 12 0).toNat).filter (fun j => decide (ρ 17 j = 0 ∨ ρ 17 j = 1))
theorem lsm_filter {f : Nat → Int} {p : Nat → Bool} : ∀ d k : Nat, lsm f ((List.range' k d).filter p) = fSum (fun j => if p j = true then f j else 0) k d := by
  intro d; induction d with
  | zero => intro k; rfl
  | succ d ih =>
    intro k
    rw [List.range'_succ, List.filter_cons]
    simp only [fSum]
    rw [← ih (k + 1)]
    by_cases c : p k = true
    · rw [if_pos c, if_pos c]; rfl
    · rw [if_neg c, if_neg c]; omega
theorem alv_mem {j : Nat} (hJ : okJ ρ) : j ∈ alv ρ ↔ (j : Int) < ρ 12 0 ∧ (ρ 17 j = 0 ∨ ρ 17 j = 1) := by
  unfold alv
  rw [List.mem_filter, List.mem_range, decide_eq_true_iff]
  have := hJ.1
  constructor
  · rintro ⟨a, b⟩; exact ⟨by omega, b⟩
  · rintro ⟨a, b⟩; exact ⟨by omega, b⟩
theorem alv_len : (((alv ρ).length : Nat) : Int) = fSum (alF ρ) 0 (njN ρ) := by
  have : ∀ d k : Nat, ((((List.range' k d).filter (fun j => decide (ρ 17 j = 0 ∨ ρ 17 j = 1))).length : Nat) : Int) = fSum (alF ρ) k d := by
    intro d; induction d with
    | zero => intro k; rfl
    | succ d ih =>
      intro k
      rw [List.range'_succ, List.filter_cons]
      simp only [fSum]
      rw [← ih (k + 1)]
      unfold alF
      by_cases c : ρ 17 k = 0 ∨ ρ 17 k = 1
      · rw [if_pos (by rw [decide_eq_true_iff]; exact c), if_pos c]; simp; omega
      · rw [if_neg (by rw [decide_eq_true_iff]; exact c), if_neg c]; omega
  unfold alv njN
  rw [List.range_eq_range']; exact this _ _
/-- what the jobs of a team want -/
def owF (ρ : fG2) (k : Nat) : Nat → Int := fun j => if ρ 13 j = k then ρ 14 j else 0
theorem own_eq (hi : inv ρ) (hE : okE ρ) {k : Nat} (hk : (k : Int) < ρ 4 0) : lsm (owF ρ k) (alv ρ) = if kidsN ρ k = 0 then ρ 11 k + ρ 10 k else 0 := by
  unfold alv
  rw [List.range_eq_range', lsm_filter]
  have hs : fSum (fun j => if decide (ρ 17 j = 0 ∨ ρ 17 j = 1) = true then owF ρ k j else 0) 0 (ρ 12 0).toNat = if kidsN ρ k = 0 then fSum (wtF ρ k) 0 (njN ρ) + fSum (rnF ρ k) 0 (njN ρ) else 0 := by
    by_cases c : kidsN ρ k = 0
    · rw [if_pos c]
      have add : ∀ d i : Nat, i + d ≤ (ρ 12 0).toNat → fSum (fun j => if decide (ρ 17 j = 0 ∨ ρ 17 j = 1) = true then owF ρ k j else 0) i d = fSum (wtF ρ k) i d + fSum (rnF ρ k) i d := by
        intro d; induction d with
        | zero => intro i _; rfl
        | succ d ih =>
          intro i h
          simp only [fSum]
          rw [ih (i + 1) (by omega)]
          have hin : (i : Int) < ρ 12 0 := by have := hi.J.1; omega
          have bj := hi.J.2.2 i hin
          have hl := chS_leaf hi.T (t := ρ 13 i) (by omega) (by omega) (k := k) c
          have : (if decide (ρ 17 i = 0 ∨ ρ 17 i = 1) = true then owF ρ k i else 0) = wtF ρ k i + rnF ρ k i := by
            unfold owF wtF rnF
            by_cases a0 : ρ 17 i = 0
            · rw [if_pos (by rw [decide_eq_true_iff]; exact Or.inl a0), if_neg (show ¬ (ρ 17 i = 1 ∧ _) by omega)]
              by_cases e : ρ 13 i = k
              · rw [if_pos e, if_pos ⟨a0, e⟩]; omega
              · rw [if_neg e, if_neg (fun z => e z.2)]; omega
            · by_cases a1 : ρ 17 i = 1
              · rw [if_pos (by rw [decide_eq_true_iff]; exact Or.inr a1), if_neg (show ¬ (ρ 17 i = 0 ∧ ρ 13 i = k) from fun z => a0 z.1)]
                by_cases e : ρ 13 i = k
                · rw [if_pos e, if_pos ⟨a1, hl.mpr e.symm⟩]; omega
                · rw [if_neg e, if_neg (fun z => e (hl.mp z.2).symm)]; omega
              · rw [if_neg (by rw [decide_eq_true_iff]; exact fun z => z.elim a0 a1), if_neg (fun z => a0 z.1), if_neg (fun z => a1 z.1)]; omega
          omega
      exact add _ 0 (by omega)
    · rw [if_neg c]
      have z : ∀ d i : Nat, i + d ≤ (ρ 12 0).toNat → fSum (fun j => if decide (ρ 17 j = 0 ∨ ρ 17 j = 1) = true then owF ρ k j else 0) i d = 0 := by
        intro d; induction d with
        | zero => intro i _; rfl
        | succ d ih =>
          intro i h
          simp only [fSum]
          rw [ih (i + 1) (by omega)]
          have hin : (i : Int) < ρ 12 0 := by have := hi.J.1; omega
          have : owF ρ k i = 0 := by
            unfold owF; rw [if_neg (fun e => c (by rw [← e]; exact hE i hin))]
          rw [this]; split <;> omega
      exact z _ 0 (by omega)
  rw [hs, ← hi.t.1 k, ← hi.t.2.1 k]
theorem dm_st (hT : okT ρ) : ∀ (d t : Nat), (t : Int) < ρ 4 0 → ρ 4 0 ≤ t + d → dmF ρ d t = dmF ρ (d + 1) t := by
  intro d; induction d with
  | zero => intro t h1 h2; omega
  | succ d ih =>
    intro t h1 h2
    have e : fSum (fun k => if ρ 5 k = t then dmF ρ d k else 0) 1 (nt1 ρ) = fSum (fun k => if ρ 5 k = t then dmF ρ (d + 1) k else 0) 1 (nt1 ρ) := by
      refine fSum_cong _ _ (fun k hk1 hk2 => ?_)
      have q := hT.1
      by_cases c : ρ 5 k = t
      · have b := hT.2.2.2 k hk1 (by unfold nt1 at hk2; omega)
        rw [if_pos c, if_pos c]
        exact ih k (by unfold nt1 at hk2; omega) (by omega)
      · rw [if_neg c, if_neg c]
    show (if 0 < t ∧ ρ 7 t < _ then _ else _) = (if 0 < t ∧ ρ 7 t < _ then _ else _)
    rw [e]
theorem dmS_fix (hT : okT ρ) (t : Nat) : dmS ρ t = (if 0 < t ∧ ρ 7 t < (if kidsN ρ t = 0 then ρ 11 t + ρ 10 t else 0) + fSum (fun k => if ρ 5 k = t then dmS ρ k else 0) 1 (nt1 ρ) then ρ 7 t else (if kidsN ρ t = 0 then ρ 11 t + ρ 10 t else 0) + fSum (fun k => if ρ 5 k = t then dmS ρ k else 0) 1 (nt1 ρ)) := by
  have q1 := hT.1; have q2 := hT.2.1
  have e : fSum (fun k => if ρ 5 k = t then dmF ρ 10 k else 0) 1 (nt1 ρ) = fSum (fun k => if ρ 5 k = t then dmS ρ k else 0) 1 (nt1 ρ) := by
    refine fSum_cong _ _ (fun k hk1 hk2 => ?_)
    by_cases c : ρ 5 k = t
    · rw [if_pos c, if_pos c]
      exact dm_st hT 10 k (by unfold nt1 at hk2; omega) (by omega)
    · rw [if_neg c, if_neg c]
  rw [← e]; rfl
/-- the children of k from i on -/
def tlS (ρ : fG2) (i : Nat) (k : Nat) : Int := fSum (fun c => if ρ 5 c = k then dmS ρ c else 0) i ((ρ 4 0).toNat - i)
theorem tl_full (hT : okT ρ) {k : Nat} (hk : (k : Int) < ρ 4 0) : tlS ρ (k + 1) k = fSum (fun c => if ρ 5 c = k then dmS ρ c else 0) 1 (nt1 ρ) := by
  -- the children of k stand behind it
  have sk : ∀ d, d ≤ k → fSum (fun c => if ρ 5 c = k then dmS ρ c else 0) (k + 1 - d) ((ρ 4 0).toNat - (k + 1) + d) = tlS ρ (k + 1) k := by
    intro d; induction d with
    | zero => intro _; rfl
    | succ d ih =>
      intro hd
      rw [show (ρ 4 0).toNat - (k + 1) + (d + 1) = ((ρ 4 0).toNat - (k + 1) + d) + 1 by omega]
      simp only [fSum]
      have b := hT.2.2.2 (k + 1 - (d + 1)) (by omega) (by omega)
      rw [if_neg (by omega), show k + 1 - (d + 1) + 1 = k + 1 - d by omega, ih (by omega)]; omega
  have := sk k (Nat.le_refl _)
  rw [show k + 1 - k = 1 by omega] at this
  rw [← this]
  congr 1
  unfold nt1; omega
end
section
variable {P : Nat → Prop} {F S S' : fMS} {x n B : Nat} {T J V L E E' : Nat → Nat} {ρ : fG2} {al ln vi : List Nat}
def rdS (ρ : fG2) : fG2 := sF ρ 41 (fun k => if (k : Int) < ρ 4 0 then dmS ρ k else ρ 41 k)
theorem alv_l (hi : inv ρ) : (alv ρ).length ≤ 40 := by
  have h1 := alv_len (ρ := ρ); have h2 := hi.t.2.2; have h3 := hi.a; omega
theorem cx_demands (hi : inv ρ) (hE : okE ρ) (hal : al = alv ρ) (h : RB P F S x T J V L E ρ al ln vi) (hn : rmB S E n B) {post : fMS → Nat → Prop}
    (hp : ∀ S', RB P F S' x T J V L E (rdS ρ) al ln vi → rmB S' E n B → post S' n) : wp_X3_reckonDemands S n x post := by
  obtain ⟨q1, q2, q3, q4⟩ := hi.B4
  obtain ⟨N, hN⟩ : ∃ N : Nat, ρ 4 0 = N := ⟨(ρ 4 0).toNat, by omega⟩
  have alm : ∀ j ∈ al, (j : Int) < ρ 12 0 ∧ (ρ 17 j = 0 ∨ ρ 17 j = 1) := fun j hj => by rw [hal] at hj; exact (alv_mem hi.J).mp hj
  have all : al.length ≤ 40 := by rw [hal]; exact alv_l hi
  have D0 : ∀ k, 0 ≤ dmS ρ k ∧ dmS ρ k ≤ 20000 ∧ (1 ≤ k → dmS ρ k ≤ 500) := fun k => dm_b hi.T hi.U hi.L 11 k
  have fl4 : ∀ (g : Nat → Int), sF ρ 41 g 4 0 = N := fun g => hN
  have ow : ∀ k : Nat, (k : Int) < ρ 4 0 → lsm (owF ρ k) al = if kidsN ρ k = 0 then ρ 11 k + ρ 10 k else 0 := fun k hk => by rw [hal]; exact own_eq hi hE hk
  have owb : ∀ k : Nat, (k : Int) < ρ 4 0 → 0 ≤ lsm (owF ρ k) al ∧ lsm (owF ρ k) al ≤ 6000 := fun k hk => by
    rw [ow k hk]; have := hi.U k; have := hi.L.2 k; split <;> omega
  have tlb : ∀ i k, 1 ≤ i → 0 ≤ tlS ρ i k ∧ tlS ρ i k ≤ 5000 := fun i k h1 => by
    have := fSum_bd (f := fun c => if ρ 5 c = k then dmS ρ c else 0) (c := 500) (by omega) ((ρ 4 0).toNat - i) i (fun c h2 _ => by
      have := D0 c; have := this.2.2 (by omega)
      show 0 ≤ (if ρ 5 c = (k : Int) then dmS ρ c else 0) ∧ (if ρ 5 c = (k : Int) then dmS ρ c else 0) ≤ 500
      split <;> omega)
    unfold tlS; omega
  -- from the last team to the first
  have l3 : ∀ (d : Nat) (g : Nat → Int) (S : fMS), d ≤ N → RB P F S x T J V L E (sF ρ 41 g) al ln vi → rmB S E n B → (∀ k : Nat, k < N → g k = if d ≤ k then dmS ρ k else lsm (owF ρ k) al + tlS ρ d k) → (∀ k : Nat, ¬ k < N → g k = ρ 41 k) → wB_X3_reckonDemands_91 post x (d + 1) S n (iI ((d : Int) - 1)) := by
    intro d; induction d with
    | zero =>
      intro g S _ h hn hg hg2
      simp only [wB_X3_reckonDemands_91]
      simp (disch := omega) only [iI_0, iI_lt]
      refine ⟨fun _ => hp S ?_ hn, fun c => absurd (by omega) c⟩
      have : rdS ρ = sF ρ 41 g := by
        unfold rdS; congr 1; funext k
        by_cases c : (k : Int) < ρ 4 0
        · rw [if_pos c, hg k (by omega), if_pos (by omega)]
        · rw [if_neg c, hg2 k (by omega)]
      rw [this]; exact h
    | succ d ih =>
      intro g S hdN h hn hg hg2
      have hT' : okT (sF ρ 41 g) := hi.T
      have e4 := fl4 g
      have hd : (d : Int) < sF ρ 41 g 4 0 := by rw [e4]; omega
      have hdN' : (d : Int) < ρ 4 0 := by omega
      have e41 : sF ρ 41 g 41 d = g d := sF_at
      have e7 : sF ρ 41 g 7 d = ρ 7 d := rfl
      have e5 : sF ρ 41 g 5 d = ρ 5 d := rfl
      have gd := hg d (by omega)
      rw [if_neg (by omega)] at gd
      have b7 := hi.l d
      have bo := owb d hdN'; have bt := tlb (d + 1) d (by omega)
      have fx := dmS_fix hi.T d
      rw [← ow d hdN', ← tl_full hi.T hdN', ← gd] at fx
      have ed : ((d + 1 : Nat) : Int) - 1 = d := by omega
      rw [wB_X3_reckonDemands_91, ed]
      simp (disch := omega) only [iI_0, iI_lt, h.X, h.x0, Option.some.injEq, exists_eq_left', h.k0, true_and]
      refine ⟨fun c => absurd c (by omega), fun _ => ?_⟩
      rw [h.g0 d hd]
      simp only [Option.some.injEq, exists_eq_left', h.Tk d hd, true_and]
      unfold wp_X2_settleDemand
      simp (disch := omega) only [h.Tk d hd, true_and, h.tp d hd, h.t4 d hd, h.t8 d hd, e41, e7, e5]
      have en : ∀ v : Int32, v = iI (d : Nat) + -1 → v = iI ((d : Int) - 1) := fun v hv => by rw [hv, show (-1 : Int32) = iI (-1) from rfl, iI_add]; congr 1
      by_cases d0 : d = 0
      · refine ⟨fun _ v hv => ?_, fun c => absurd (by rw [if_pos d0]) c⟩
        rw [en v hv]
        refine ih g S (by omega) h hn (fun k hk => ?_) hg2
        rw [if_pos (by omega), hg k hk]
        by_cases c : d + 1 ≤ k
        · rw [if_pos c]
        · rw [if_neg c]
          have : k = d := by omega
          rw [this, ← gd]
          rw [if_neg (by omega)] at fx
          exact fx.symm
      · have p5 := hi.T.2.2.2 d (by omega) hdN'
        obtain ⟨p, hpp⟩ : ∃ p : Nat, ρ 5 d = p := ⟨(ρ 5 d).toNat, by omega⟩
        rw [if_neg d0, hpp, Int.toNat_natCast]
        refine ⟨fun c => (by cases c), fun _ => ?_⟩
        have eM : (if iI (ρ 7 d) < iI (g d) then iI (ρ 7 d) else iI (g d)) = iI (dmS ρ d) := by
          rw [iI_ite (by omega) (by omega) (by omega) (by omega), fx]
          by_cases c : ρ 7 d < g d
          · rw [if_pos c, if_pos ⟨by omega, c⟩]
          · rw [if_neg c, if_neg (fun z => c z.2)]
        rw [eM]
        have w1 := h.w8 d (dmS ρ d) hd
        rw [up_sF, sF_sF, sF_at'] at w1
        obtain ⟨g2, hg2'⟩ : ∃ g2, g2 = fun k => if k = d then dmS ρ d else g k := ⟨_, rfl⟩
        rw [← hg2'] at w1
        have hd2 : (d : Int) < sF ρ 41 g2 4 0 := hd
        have hp2 : (p : Int) < sF ρ 41 g2 4 0 := by show (p : Int) < ρ 4 0; omega
        have w2 := w1.w8 p (g p + dmS ρ d) hp2
        rw [up_sF, sF_sF, sF_at'] at w2
        have rp := w1.tp d hd2
        have e5' : sF ρ 41 g2 5 d = ρ 5 d := rfl
        rw [if_neg d0, e5', hpp, Int.toNat_natCast] at rp
        have a1 : sF ρ 41 g2 41 p = g p := by rw [sF_at, hg2']; exact if_neg (by omega)
        have a2 : sF ρ 41 g2 41 d = dmS ρ d := by rw [sF_at, hg2']; exact if_pos rfl
        simp only [rp, Option.some.injEq, exists_eq_left', w1.Tk p hp2, true_and, w1.t8 p hp2, w1.t8 d hd2, a1, a2, iI_add]
        intro v hv
        rw [en v hv]
        refine ih _ _ (by omega) w2 ((hn.w rfl).w rfl) (fun k hk => ?_) (fun k hk => ?_)
        · rw [hg2']
          show (if k = p then g p + dmS ρ d else if k = d then dmS ρ d else g k) = _
          have tls : tlS ρ d k = (if ρ 5 d = k then dmS ρ d else 0) + tlS ρ (d + 1) k := by
            unfold tlS
            rw [show (ρ 4 0).toNat - d = ((ρ 4 0).toNat - (d + 1)) + 1 by omega]; rfl
          by_cases c1 : k = p
          · rw [if_pos c1, if_neg (by omega), tls, if_pos (by omega), c1, hg p (by omega), if_neg (by omega)]; omega
          · rw [if_neg c1]
            by_cases c2 : k = d
            · rw [if_pos c2, if_pos (by omega), c2]
            · rw [if_neg c2, hg k hk]
              by_cases c3 : d + 1 ≤ k
              · rw [if_pos c3, if_pos (by omega)]
              · rw [if_neg c3, if_neg (by omega), tls, if_neg (by omega)]; omega
        · rw [hg2']
          show (if k = p then g p + dmS ρ d else if k = d then dmS ρ d else g k) = _
          rw [if_neg (by omega), if_neg (by omega)]; exact hg2 k hk
  -- what the jobs want
  have l2 : ∀ (d i : Nat) (g : Nat → Int) (S : fMS), i + d = al.length → RB P F S x T J V L E (sF ρ 41 g) al ln vi → rmB S E n B → (∀ k : Nat, k < N → g k + lsm (owF ρ k) (al.drop i) = lsm (owF ρ k) al) → (∀ k : Nat, ¬ k < N → g k = ρ 41 k) → wB_X3_reckonDemands_36 post x (d + 1) S n (iI i) := by
    intro d; induction d with
    | zero =>
      intro i g S hi' h hn hg hg2
      rw [List.drop_eq_nil_of_le (by omega)] at hg
      simp only [lsm, Int.add_zero] at hg
      have e4 := fl4 g
      simp only [wB_X3_reckonDemands_36]
      simp (disch := omega) only [h.X, h.x3, h.x0, Option.some.injEq, exists_eq_left', h.k3, h.k0, true_and, h.s3, iI_le, h.s0 (by rw [e4]; omega), e4, iI_1, iI_sub]
      refine ⟨fun _ => ?_, fun c => absurd c (by omega)⟩
      rintro _ rfl
      refine ⟨_, l3 N g S (Nat.le_refl _) h hn (fun k hk => ?_) hg2⟩
      rw [if_neg (by omega), hg k hk]
      have : tlS ρ N k = 0 := by unfold tlS; rw [show (ρ 4 0).toNat - N = 0 by omega]; rfl
      omega
    | succ d ih =>
      intro i g S hi' h hn hg hg2
      have hdr : al.drop i = al[i] :: al.drop (i + 1) := List.drop_eq_getElem_cons (by omega)
      have hgd : al.getD i 0 = al[i] := by rw [List.getD_eq_getElem?_getD, List.getElem?_eq_getElem (by omega)]; rfl
      obtain ⟨j, hj⟩ : ∃ j, j = al[i] := ⟨_, rfl⟩
      rw [← hj] at hdr hgd
      have jm := alm j (by rw [hj]; exact List.getElem_mem _)
      have bj := hi.J.2.2 j jm.1
      obtain ⟨l, hl⟩ : ∃ l : Nat, ρ 13 j = l := ⟨(ρ 13 j).toNat, by omega⟩
      have jn : (j : Int) < sF ρ 41 g 12 0 := jm.1
      have e13 : sF ρ 41 g 13 j = ρ 13 j := rfl
      have e14 : sF ρ 41 g 14 j = ρ 14 j := rfl
      have ln' : (l : Int) < sF ρ 41 g 4 0 := by show (l : Int) < ρ 4 0; omega
      have e41 : sF ρ 41 g 41 l = g l := sF_at
      have w := h.w8 l (g l + ρ 14 j) ln'
      rw [up_sF, sF_sF, sF_at'] at w
      rw [wB_X3_reckonDemands_36]
      simp (disch := omega) only [h.X, h.x3, Option.some.injEq, exists_eq_left', h.k3, true_and, h.s3, iI_le]
      refine ⟨fun c => absurd c (by omega), fun _ => ?_⟩
      rw [h.g3 i (by omega), hgd]
      simp only [Option.some.injEq, exists_eq_left', h.Jk j jn, true_and, h.jl j jn, e13, hl, Int.toNat_natCast, h.Tk l ln', h.t8 l ln', h.j2 j jn, e14, e41, iI_add, iI_1]
      rintro _ rfl
      refine ih (i + 1) _ _ (by omega) w (hn.w rfl) (fun k hk => ?_) (fun k hk => ?_)
      · have := hg k hk
        rw [hdr] at this
        simp only [lsm] at this
        show (if k = l then g l + ρ 14 j else g k) + _ = _
        unfold owF at this ⊢
        by_cases c : k = l
        · rw [if_pos c]; subst c; rw [if_pos hl] at this; omega
        · rw [if_neg c]; rw [if_neg (by omega)] at this; omega
      · show (if k = l then g l + ρ 14 j else g k) = _
        rw [if_neg (by omega)]; exact hg2 k hk
  -- nothing wanted at first
  have l1 : ∀ (d i : Nat) (g : Nat → Int) (S : fMS), i + d = N → RB P F S x T J V L E (sF ρ 41 g) al ln vi → rmB S E n B → (∀ k : Nat, k < i → g k = 0) → (∀ k : Nat, ¬ k < N → g k = ρ 41 k) → wB_X3_reckonDemands_2 post x (d + 1) S n (iI i) := by
    intro d; induction d with
    | zero =>
      intro i g S hi' h hn hg hg2
      have e4 := fl4 g
      simp only [wB_X3_reckonDemands_2]
      simp (disch := omega) only [h.X, h.x0, Option.some.injEq, exists_eq_left', h.k0, true_and, h.s0 (by rw [e4]; omega), e4, iI_le]
      refine ⟨fun _ => ⟨_, l2 al.length 0 g S (by omega) h hn (fun k hk => by rw [hg k (by omega)]; simp) hg2⟩, fun c => absurd c (by omega)⟩
    | succ d ih =>
      intro i g S hi' h hn hg hg2
      have e4 := fl4 g
      have hin : (i : Int) < sF ρ 41 g 4 0 := by rw [e4]; omega
      have w := h.w8 i 0 hin
      rw [up_sF, sF_sF, sF_at'] at w
      rw [wB_X3_reckonDemands_2]
      simp (disch := omega) only [h.X, h.x0, Option.some.injEq, exists_eq_left', h.k0, true_and, h.s0 (by rw [e4]; omega), e4, iI_le]
      refine ⟨fun c => absurd c (by omega), fun _ => ?_⟩
      rw [h.g0 i hin]
      simp only [Option.some.injEq, exists_eq_left', h.Tk i hin, true_and, iI_1, iI_add]
      rintro _ rfl
      refine ih (i + 1) _ _ (by omega) w (hn.w rfl) (fun k hk => ?_) (fun k hk => ?_)
      · show (if k = i then (0 : Int) else g k) = 0
        by_cases c : k = i
        · rw [if_pos c]
        · rw [if_neg c]; exact hg k (by omega)
      · show (if k = i then (0 : Int) else g k) = _
        rw [if_neg (by omega)]; exact hg2 k hk
  exact ⟨_, l1 N 0 (ρ 41) S (by omega) (by rw [sF_self]; exact h) hn (fun k hk => absurd hk (by omega)) (fun k hk => rfl)⟩
end
