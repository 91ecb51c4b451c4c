-- ===== addTeam by the broker =====
section
variable {P : Nat → Prop} {F S S' : fMS} {x n B out q q2 : Nat} {T J V L E E' : Nat → Nat} {ρ ρ' σ τ φ ψ : fG2} {al ln vi ln' vi' Q : List Nat}
theorem RLs.c {I : Nat → Prop} {ls ls' : Nat → List Nat} (h : RLs I S L E ls) (e : ∀ i, I i → ls' i = ls i) : RLs I S L E ls' := by
  refine ⟨h.1, h.2.1, fun i hi => by rw [e i hi]; exact h.2.2.1 i hi, fun i hi => by rw [e i hi]; exact h.2.2.2.1 i hi, h.2.2.2.2⟩
theorem vid_s {nt : Int} {i : Nat} (h0 : 0 ≤ nt) : vid (nt + 1) i ↔ vid nt i ∨ i = 10 + nt.toNat := by unfold vid; omega
theorem vid_no {nt : Int} (h0 : 0 ≤ nt) : ¬ vid nt (10 + nt.toNat) := by unfold vid; omega
theorem RLs.more {nt : Int} {ls : Nat → List Nat} (h : RLs (vid nt) S L E ls) (h0 : 0 ≤ nt) (hq : isA S 6 q2) (hL : ∀ i, vid nt i → L i ≠ q2) (s1 : sR S q2 1 = some (sE S)) (s2 : sI S q2 2 = iI 0) : RLs (vid (nt + 1)) S (nV L (10 + nt.toNat) q2) E (lsU ls (10 + nt.toNat) []) := by
  have hno := vid_no h0
  have eE : E (10 + nt.toNat) = sE S := h.2.1 _ hno
  have nh : ∀ {i}, vid nt i → i ≠ 10 + nt.toNat := fun hi z => hno (by rw [← z]; exact hi)
  have ev : ∀ {i}, vid nt i → nV L (10 + nt.toNat) q2 i = L i := fun hi => if_neg (nh hi)
  have eN : nV L (10 + nt.toNat) q2 (10 + nt.toNat) = q2 := if_pos rfl
  have el : ∀ {i}, vid nt i → lsU ls (10 + nt.toNat) [] i = ls i := fun hi => if_neg (nh hi)
  have eM : lsU ls (10 + nt.toNat) [] (10 + nt.toNat) = [] := if_pos rfl
  refine ⟨h.1, fun i hi => h.2.1 i (fun z => hi ((vid_s h0).mpr (Or.inl z))), fun i hi => ?_, fun i hi a ha => ?_, fun i j hi hj e => ?_, fun i j hi hj e => ?_⟩
  · rcases (vid_s h0).mp hi with z | z
    · rw [ev z, el z]; exact h.2.2.1 i z
    · subst z
      rw [eN, eM, eE]
      refine ⟨hq, s1, s2, Or.inr rfl, Nat.zero_le _, by rw [h.1.2]; exact Nat.zero_le _, Nat.zero_le _, fun k hk => absurd hk (Nat.not_lt_zero k)⟩
  · rcases (vid_s h0).mp hi with z | z
    · rw [el z] at ha; exact h.2.2.2.1 i z a ha
    · subst z; rw [eM] at ha; exact absurd ha List.not_mem_nil
  · rcases (vid_s h0).mp hi with z | z
    · rcases (vid_s h0).mp hj with y | y
      · rw [ev z, ev y] at e; exact h.2.2.2.2.1 i j z y e
      · subst y; rw [ev z, eN] at e; exact absurd e (hL i z)
    · rcases (vid_s h0).mp hj with y | y
      · subst z; rw [ev y, eN] at e; exact absurd e.symm (hL j y)
      · rw [z, y]
  · rcases (vid_s h0).mp hi with z | z
    · rcases (vid_s h0).mp hj with y | y
      · exact h.2.2.2.2.2 i j z y e
      · subst y; right; rw [e, eE]
    · subst z; right; exact eE
/-- the numbers with a team more -/
def atS (ρ : fG2) (p w : Int) : fG2 := fun g k => if k = (ρ 4 0).toNat ∧ 41 ≤ g ∧ g ≤ 46 then 0 else addS ρ p w g k
theorem at_C {p w : Int} : eqC (addS ρ p w) (atS ρ p w) := fun g k _ h => if_neg (by omega)
theorem at_i {p w : Int} {g k : Nat} (h4 : g ≠ 4) (hk : k ≠ (ρ 4 0).toNat) : atS ρ p w g k = ρ g k := by
  unfold atS; rw [if_neg (fun z => hk z.1)]
  have hu : ∀ (σ : fG2) (b : Nat) (v : Int), up σ b (ρ 4 0).toNat v g k = σ g k := fun σ b v => if_neg (fun z => hk z.2)
  unfold addS; rw [up_ne h4, hu, hu, hu]
theorem at_g {p w : Int} {g k : Nat} (h4 : g ≠ 4) (h5 : g ≠ 5) (h6 : g ≠ 6) (h7 : g ≠ 7) (h41 : g < 41 ∨ 46 < g) : atS ρ p w g k = ρ g k := by
  unfold atS; rw [if_neg (by omega)]; unfold addS; rw [up_ne h4, up_ne h7, up_ne h6, up_ne h5]
theorem at_4 {p w : Int} : atS ρ p w 4 0 = ρ 4 0 + 1 := by unfold atS; rw [if_neg (by omega)]; exact up_at
theorem at_5 {p w : Int} : atS ρ p w 5 (ρ 4 0).toNat = p := by unfold atS; rw [if_neg (by omega)]; unfold addS; rw [up_ne (by decide), up_ne (by decide), up_ne (by decide)]; exact up_at
theorem at_6 {p w : Int} : atS ρ p w 6 (ρ 4 0).toNat = w := by unfold atS; rw [if_neg (by omega)]; unfold addS; rw [up_ne (by decide), up_ne (by decide)]; exact up_at
theorem at_7 {p w : Int} : atS ρ p w 7 (ρ 4 0).toNat = 500 := by unfold atS; rw [if_neg (by omega)]; unfold addS; rw [up_ne (by decide)]; exact up_at
theorem at_41 {p w : Int} {g : Nat} (h1 : 41 ≤ g) (h2 : g ≤ 46) : atS ρ p w g (ρ 4 0).toNat = 0 := if_pos ⟨rfl, h1, h2⟩
theorem at_kdl {p w : Int} (hT : okT ρ) (hp : 0 ≤ p) (hp2 : p < ρ 4 0) {k : Nat} : kdl (atS ρ p w) k = if (k : Int) = p then kdl ρ k ++ [(ρ 4 0).toNat] else if (k : Int) < ρ 4 0 then kdl ρ k else kdl (atS ρ p w) k := by
  have key : kdl (atS ρ p w) k = kdl ρ k ++ (if (k : Int) = p then [(ρ 4 0).toNat] else []) := by
    have n0 := hT.1
    unfold kdl
    rw [at_4, show (ρ 4 0 + 1).toNat = (ρ 4 0).toNat + 1 by omega, List.range_succ, List.filter_append]
    congr 1
    · refine List.filter_congr (fun i hi => ?_)
      rw [at_i (by decide) (by have := List.mem_range.mp hi; omega)]
    · by_cases c : (k : Int) = p
      · rw [if_pos c, List.filter_cons_of_pos (by rw [decide_eq_true_eq, at_5]; exact c.symm)]; rfl
      · rw [if_neg c, List.filter_cons_of_neg (by rw [decide_eq_true_eq, at_5]; exact fun z => c z.symm)]; rfl
  by_cases c : (k : Int) = p
  · rw [key, if_pos c, if_pos c]
  · rw [if_neg c]
    split
    · rw [key, if_neg c, List.append_nil]
    · rfl
theorem kdl_0 (hT : okT ρ) {k : Nat} (hk : ρ 4 0 ≤ k) : kdl ρ k = [] := by
  unfold kdl
  refine List.filter_eq_nil_iff.mpr (fun c hc => ?_)
  have := List.mem_range.mp hc
  have b := hT.p c (by omega)
  rw [decide_eq_true_eq]
  by_cases e : c = 0
  · subst e; rw [hT.2.2.1]; omega
  · have := hT.2.2.2 c (by omega) (by omega); omega
theorem RB.addT {p : Nat} {w : Int} (h : RB P F S x T J V L E ρ al ln vi) (hn : rmB S E n B) (hT : okT ρ) (hJ : okJ ρ) (hZ : okZ ρ) (h10 : ρ 4 0 < 10) (hp : (p : Int) < ρ 4 0) (hq : isA S 3 q) (hq2 : isA S 6 q2) (hTq : ∀ k : Nat, (k : Int) < ρ 4 0 → T k ≠ q) (hLq : ∀ i, vid (ρ 4 0) i → L i ≠ q2)
    (f8 : ρ 8 (ρ 4 0).toNat = 0) (f9 : ρ 9 (ρ 4 0).toNat = 0) (f10 : ρ 10 (ρ 4 0).toNat = 0) (l1 : sR S q2 1 = some (sE S)) (l2 : sI S q2 2 = iI 0)
    (s0 : sI S q 0 = iI (ρ 4 0)) (s1 : sR S q 1 = some (T p)) (s2 : sR S q 2 = some q2) (s3 : sI S q 3 = iI w) (s4 : sI S q 4 = iI 500) (sz : ∀ s, s = 5 ∨ s = 6 ∨ (8 ≤ s ∧ s ≤ 13) → sI S q s = iI 0) (s7 : sJ S q 7 = jJ 0)
    {post : fMS → Nat → Prop} (hpost : ∀ S' n' E', RB P F S' x (nV T (ρ 4 0).toNat q) J V (nV L (10 + (ρ 4 0).toNat) q2) E' (atS ρ p w) al ln vi → rmB S' E' n' B → post S' n') :
    wp_Jx4a65c_add_9ea2d S n (L 0) (some q) (fun _ S27 n28 => isA S27 3 (T p) ∧ ∃ a30 : Nat, sR S27 (T p) 2 = some a30 ∧ isA S27 6 a30 ∧ wp_Jx4a65c_add_9ea2d S27 n28 a30 (some q) (fun _ S34 n35 => post S34 n35)) := by
  have n0 := hT.1
  obtain ⟨N, hN⟩ : ∃ N, N = (ρ 4 0).toNat := ⟨_, rfl⟩
  have hl := h.l.more (by omega) hq2 hLq l1 l2
  rw [← hN] at hpost f8 f9 f10 hl
  have eL : ∀ {i}, i ≠ 10 + N → nV L (10 + N) q2 i = L i := fun hi => if_neg hi
  have eT : ∀ {i}, i ≠ N → nV T N q i = T i := fun hi => if_neg hi
  have eTN : nV T N q N = q := if_pos rfl
  have c0 : cnt T J V ρ al ln vi 0 = (List.range N).map T := by rw [hN]; rfl
  have cp : cnt T J V ρ al ln vi (10 + p) = (kdl ρ p).map T := cntC T J V ρ al ln vi p
  have i0 : lsU (cnt T J V ρ al ln vi) (10 + N) [] 0 = (List.range N).map T := by rw [lsU_ne (by omega), c0]
  have step1 := hl.add (i := 0) (a := q) (n := n) (Or.inl rfl) (by decide) (Or.inr (Or.inr hq)) (by rw [i0]; simp [lmx]; omega) (hn.n h.l) (post := fun _ S27 n28 => isA S27 3 (T p) ∧ ∃ a30 : Nat, sR S27 (T p) 2 = some a30 ∧ isA S27 6 a30 ∧ wp_Jx4a65c_add_9ea2d S27 n28 a30 (some q) (fun _ S34 n35 => post S34 n35)) (fun S1 n1 E1 h1 fr1 hp1 => ?_)
  · rw [eL (by omega)] at step1; exact step1
  obtain ⟨b1, b2, b3, b4, b5⟩ := h.frX fr1
  have hn1 := hn.to hp1
  have bp := b2.1 p hp
  have hv : vid (ρ 4 0 + 1) (10 + p) := vidC (by omega)
  have kids10 : (kdl ρ p).length ≤ N := by
    unfold kdl; rw [← hN]
    have := List.length_filter_le (fun c => decide (ρ 5 c = (p : Int))) (List.range N)
    rw [List.length_range] at this; exact this
  have ip : lsU (lsU (cnt T J V ρ al ln vi) (10 + N) []) 0 (lsU (cnt T J V ρ al ln vi) (10 + N) [] 0 ++ [q]) (10 + p) = (kdl ρ p).map T := by rw [lsU_ne (by omega), lsU_ne (by omega), cp]
  have kL := h1.k hv
  rw [eL (by omega)] at kL
  refine ⟨bp.1, L (10 + p), bp.2.2.2.1, kL, ?_⟩
  have step2 := h1.add (i := 10 + p) (a := q) (n := n1) hv (by omega) (Or.inr (Or.inr (fr1.a hq))) (by rw [ip]; simp [lmx]; split <;> omega) (hn1.n h1) (post := fun _ S34 n35 => post S34 n35) (fun S2 n2 E2 h2 fr2 hp2 => ?_)
  · rw [eL (by omega)] at step2; exact step2
  refine hpost S2 n2 E2 ?_ (hn1.to hp2)
  have fr := fr1.tr fr2
  obtain ⟨b1, b2, b3, b4, b5⟩ := h.frX fr
  have fq := fr.2.2.2 q hq.1 (by rw [hq.2]; decide) (by rw [hq.2]; decide)
  have tI : ∀ {g k : Nat}, g ≠ 4 → (k : Int) < ρ 4 0 → atS ρ p w g k = ρ g k := fun hg hk => at_i hg (by omega)
  refine ⟨?_, ⟨fun k hk => ?_, fun k l hk hl hkl => ?_⟩, ⟨fun j hj => ?_, ?_⟩, ⟨fun j hj => ?_, ?_⟩, ?_, ?_⟩
  · unfold RX
    rw [eT (by omega), eL (by omega), eL (by omega), eL (by omega), eL (by omega), eL (by omega), eL (by omega), at_g (by decide) (by decide) (by decide) (by decide) (by decide), at_g (by decide) (by decide) (by decide) (by decide) (by decide), at_g (by decide) (by decide) (by decide) (by decide) (by decide), at_g (by decide) (by decide) (by decide) (by decide) (by decide)]
    exact b1
  · rw [at_4] at hk
    by_cases c : k = N
    · subst c
      have w5 : atS ρ p w 5 k = p := by rw [hN]; exact at_5
      have w8 : atS ρ p w 8 k = 0 := by rw [at_g (by decide) (by decide) (by decide) (by decide) (by decide)]; exact f8
      rw [eTN, if_neg (by omega), w5, Int.toNat_natCast, eT (by omega), w8, (fq 0).1, (fq 1).2.2, (fq 2).2.2, (fq 7).2.1]
      have eLk : nV L (10 + k) q2 (10 + k) = q2 := if_pos rfl
      rw [eLk]
      refine ⟨fr.a hq, by rw [s0]; congr 1; omega, s1, s2, fun s hs => ?_, s7⟩
      rw [(fq s).1]
      have : s = 3 ∨ s = 4 ∨ s = 5 ∨ s = 6 ∨ (8 ≤ s ∧ s ≤ 13) := by
        have : ∀ s : Fin 14, tS s = true → s.val = 3 ∨ s.val = 4 ∨ s.val = 5 ∨ s.val = 6 ∨ (8 ≤ s.val ∧ s.val ≤ 13) := by decide
        exact this ⟨s, tS_lt hs⟩ hs
      rcases this with e | e | e | e | e
      · subst e; rw [s3, show tF 3 = 6 from rfl, hN, at_6]
      · subst e; rw [s4, show tF 4 = 7 from rfl, hN, at_7]
      · subst e; rw [sz 5 (by omega), show tF 5 = 9 from rfl, at_g (by decide) (by decide) (by decide) (by decide) (by decide), f9]
      · subst e; rw [sz 6 (by omega), show tF 6 = 10 from rfl, at_g (by decide) (by decide) (by decide) (by decide) (by decide), f10]
      · rw [sz s (by omega)]
        have : 41 ≤ tF s ∧ tF s ≤ 46 := by
          have : ∀ s : Fin 14, 8 ≤ s.val → 41 ≤ tF s ∧ tF s ≤ 46 := by decide
          exact this ⟨s, by omega⟩ e.1
        rw [hN, at_41 this.1 this.2]
    · have hk' : (k : Int) < ρ 4 0 := by omega
      obtain ⟨c1, c2, c3, c4, c5, c6⟩ := b2.1 k hk'
      rw [eT c, tI (by decide) hk', tI (by decide) hk', eL (by omega)]
      refine ⟨c1, c2, ?_, c4, fun s hs => ?_, c6⟩
      · rw [c3]
        by_cases k0 : k = 0
        · rw [if_pos k0, if_pos k0]
        · have := hT.2.2.2 k (by omega) hk'
          rw [if_neg k0, if_neg k0, eT (by omega)]
      · rw [tI (fun z => (tF_ne hs).2.2.2.1 z) hk']; exact c5 s hs
  · rw [at_4] at hk hl
    by_cases ck : k = N
    · by_cases cl : l = N
      · rw [ck, cl]
      · rw [ck, eTN, eT cl] at hkl; exact absurd hkl.symm (hTq l (by omega))
    · by_cases cl : l = N
      · rw [cl, eTN, eT ck] at hkl; exact absurd hkl (hTq k (by omega))
      · rw [eT ck, eT cl] at hkl; exact b2.2 k l (by omega) (by omega) hkl
  · rw [at_g (by decide) (by decide) (by decide) (by decide) (by decide)] at hj
    obtain ⟨c1, c2, c3, c4, c5⟩ := b3.1 j hj
    have bj := hJ.2.2 j hj
    rw [at_g (by decide) (by decide) (by decide) (by decide) (by decide), at_g (by decide) (by decide) (by decide) (by decide) (by decide), eT (by omega)]
    refine ⟨c1, c2, c3, c4, fun s hs => ?_⟩
    have hr := jF_r ⟨s, jS_lt hs⟩ hs
    have hr' : (13 ≤ jF s ∧ jF s ≤ 18) ∨ jF s = 40 := hr
    rw [at_g (by omega) (by omega) (by omega) (by omega) (by omega)]; exact c5 s hs
  · rw [at_g (by decide) (by decide) (by decide) (by decide) (by decide)]; exact b3.2
  · rw [at_g (by decide) (by decide) (by decide) (by decide) (by decide)] at hj
    have bz := (hZ j hj).1
    rw [at_g (by decide) (by decide) (by decide) (by decide) (by decide), at_g (by decide) (by decide) (by decide) (by decide) (by decide), at_g (by decide) (by decide) (by decide) (by decide) (by decide), at_g (by decide) (by decide) (by decide) (by decide) (by decide), eT (by omega)]
    exact b4.1 j hj
  · rw [at_g (by decide) (by decide) (by decide) (by decide) (by decide)]; exact b4.2
  · rw [at_4]
    refine h2.c (fun i hi => ?_)
    rw [ip]
    by_cases ci : i = 10 + p
    · subst ci
      rw [lsU_at, cntC, at_kdl hT (by omega) hp, if_pos rfl, List.map_append]
      congr 1
      · refine List.map_congr_left (fun a ha => eT ?_)
        have := List.mem_range.mp (List.mem_filter.mp ha).1; omega
      · simp [← hN, eTN]
    · rw [lsU_ne ci]
      by_cases c00 : i = 0
      · subst c00
        rw [lsU_at, i0]
        show (List.range (atS ρ p w 4 0).toNat).map (nV T N q) = _
        rw [at_4, show (ρ 4 0 + 1).toNat = N + 1 by omega, List.range_succ, List.map_append]
        congr 1
        · refine List.map_congr_left (fun a ha => eT ?_)
          have := List.mem_range.mp ha; omega
        · simp [eTN]
      · rw [lsU_ne c00]
        by_cases cN : i = 10 + N
        · subst cN
          rw [lsU_at, cntC]
          have hT' : okT (atS ρ p w) := by
            refine ⟨by rw [at_4]; omega, by rw [at_4]; omega, by rw [at_i (by decide) (by omega)]; exact hT.2.2.1, fun k k1 hk => ?_⟩
            rw [at_4] at hk
            by_cases c : k = N
            · rw [c, hN, at_5]; omega
            · rw [at_i (by decide) (by omega)]; exact hT.2.2.2 k k1 (by omega)
          have : kdl (atS ρ p w) N = [] := by
            rw [at_kdl hT (by omega) hp, if_neg (by omega), if_neg (by omega)]
            unfold kdl
            refine List.filter_eq_nil_iff.mpr (fun c hc => ?_)
            have hc := List.mem_range.mp hc
            rw [at_4] at hc
            rw [decide_eq_true_eq]
            by_cases e : c = N
            · rw [e, hN, at_5]; omega
            · by_cases e0 : c = 0
              · rw [e0, hT'.2.2.1]; omega
              · have := hT'.2.2.2 c (by omega) (by rw [at_4]; omega); omega
          rw [this]; rfl
        · rw [lsU_ne cN]
          have e12 : atS ρ p w 12 0 = ρ 12 0 := at_g (by decide) (by decide) (by decide) (by decide) (by decide)
          have e22 : atS ρ p w 22 0 = ρ 22 0 := at_g (by decide) (by decide) (by decide) (by decide) (by decide)
          by_cases hk : 10 ≤ i
          · obtain ⟨k, rfl⟩ : ∃ k, i = 10 + k := ⟨i - 10, by omega⟩
            have hk2 : (k : Int) < ρ 4 0 := by unfold vid at hi; omega
            rw [cntC, cntC, at_kdl hT (by omega) hp, if_neg (by omega), if_pos hk2]
            refine List.map_congr_left (fun a ha => eT ?_)
            have := List.mem_range.mp (List.mem_filter.mp ha).1; omega
          · unfold cnt
            rw [if_neg c00, if_neg c00, e12, e22]
            by_cases a2 : i = 2
            · rw [if_pos a2, if_pos a2]
            · rw [if_neg a2, if_neg a2]
              by_cases a3 : i = 3
              · rw [if_pos a3, if_pos a3]
              · rw [if_neg a3, if_neg a3]
                by_cases a4 : i = 4
                · rw [if_pos a4, if_pos a4]
                · rw [if_neg a4, if_neg a4]
                  by_cases a5 : i = 5
                  · rw [if_pos a5, if_pos a5]
                  · rw [if_neg a5, if_neg a5]
                    by_cases a6 : i = 6
                    · rw [if_pos a6, if_pos a6]
                    · exfalso; unfold vid at hi; omega
  · unfold RF; rw [at_g (by decide) (by decide) (by decide) (by decide) (by decide)]; exact b5
end
