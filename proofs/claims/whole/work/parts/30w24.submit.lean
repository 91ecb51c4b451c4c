-- ===== submit by the broker =====
section
variable {P : Nat → Prop} {F S S' : fMS} {x n B out q : Nat} {T J V L E E' : Nat → Nat} {ρ ρ' σ τ φ ψ : fG2} {al ln vi ln' vi' Q : List Nat}
theorem eqC.K0 {c : Int} (e : eqC σ τ) (h : K0 c σ) : K0 c τ := ⟨e.iS h.1, e.Z h.2.1, e.W1 h.2.2.1, e.okS h.2.2.2.1, e.C h.2.2.2.2.1, h.2.2.2.2.2⟩
/-- one job more; what stood behind moves on -/
def nJ (J : Nat → Nat) (N q : Nat) : Nat → Nat := fun i => if i < N then J i else if i = N then q else J (i - 1)
def mv1 (N : Nat) (l : List Nat) : List Nat := l.map (fun a => if a < N then a else a + 1)
theorem mv1_map (N : Nat) (l : List Nat) : (mv1 N l).map (nJ J N q) = l.map J := by
  unfold mv1; rw [List.map_map]
  refine List.map_congr_left (fun a _ => ?_)
  show nJ J N q (if a < N then a else a + 1) = J a
  unfold nJ
  by_cases c : a < N
  · rw [if_pos c, if_pos c]
  · rw [if_neg c, if_neg (by omega), if_neg (by omega)]; congr 1
theorem mv1_lt {N : Nat} {l : List Nat} (h : ∀ a ∈ l, a < N) : mv1 N l = l := by
  unfold mv1
  calc _ = l.map id := List.map_congr_left (fun a ha => if_pos (h a ha))
    _ = l := List.map_id l
/-- the numbers with a job more -/
def nwS (ρ : fG2) (t s k : Int) : fG2 := up (up (up (up (up (up ρ 13 (ρ 12 0).toNat t) 14 (ρ 12 0).toNat s) 15 (ρ 12 0).toNat k) 17 (ρ 12 0).toNat 0) 12 0 (ρ 12 0 + 1)) 40 (ρ 12 0).toNat 0
theorem nw_ne {t s k : Int} {g i : Nat} (h : g ≠ 13) (h1 : g ≠ 14) (h2 : g ≠ 15) (h3 : g ≠ 17) (h4 : g ≠ 12) (h5 : g ≠ 40) : nwS ρ t s k g i = ρ g i := by
  unfold nwS; rw [up_ne h5, up_ne h4, up_ne h3, up_ne h2, up_ne h1, up_ne h]
theorem nw_i {t s k : Int} {g i : Nat} (h4 : g ≠ 12) (hi : i ≠ (ρ 12 0).toNat) : nwS ρ t s k g i = ρ g i := by
  have hu : ∀ (σ : fG2) (b : Nat) (v : Int), up σ b (ρ 12 0).toNat v g i = σ g i := fun σ b v => if_neg (fun z => hi z.2)
  unfold nwS; rw [hu, up_ne h4, hu, hu, hu, hu]
theorem nw_12 {t s k : Int} : nwS ρ t s k 12 0 = ρ 12 0 + 1 := by unfold nwS; rw [up_ne (by decide)]; exact up_at
theorem nw_13 {t s k : Int} : nwS ρ t s k 13 (ρ 12 0).toNat = t := by unfold nwS; rw [up_ne (by decide), up_ne (by decide), up_ne (by decide), up_ne (by decide), up_ne (by decide)]; exact up_at
theorem nw_14 {t s k : Int} : nwS ρ t s k 14 (ρ 12 0).toNat = s := by unfold nwS; rw [up_ne (by decide), up_ne (by decide), up_ne (by decide), up_ne (by decide)]; exact up_at
theorem nw_15 {t s k : Int} : nwS ρ t s k 15 (ρ 12 0).toNat = k := by unfold nwS; rw [up_ne (by decide), up_ne (by decide), up_ne (by decide)]; exact up_at
theorem nw_17 {t s k : Int} : nwS ρ t s k 17 (ρ 12 0).toNat = 0 := by unfold nwS; rw [up_ne (by decide), up_ne (by decide)]; exact up_at
theorem nw_40 {t s k : Int} : nwS ρ t s k 40 (ρ 12 0).toNat = 0 := by unfold nwS; exact up_at
theorem sub_nw {t s k : Int} {g i : Nat} (h11 : g ≠ 11) (h21 : g ≠ 21) : up (subS ρ t s k) 40 (ρ 12 0).toNat 0 g i = up (nwS ρ t s k) 9 t.toNat 1 g i := by
  by_cases c9 : g = 9
  · subst c9
    unfold subS nwS
    rw [up_ne (by decide), up_ne (by decide), up_ne (by decide)]
    unfold up
    split
    · rfl
    · rename_i c
      rw [if_neg (fun z => absurd z.1 (by decide)), if_neg (fun z => absurd z.1 (by decide)), if_neg (fun z => absurd z.1 (by decide)), if_neg (fun z => absurd z.1 (by decide)), if_neg (fun z => absurd z.1 (by decide)), if_neg (fun z => absurd z.1 (by decide)), if_neg (fun z => absurd z.1 (by decide))]
  · rw [up_ne c9]
    unfold subS nwS
    by_cases c40 : g = 40 ∧ i = (ρ 12 0).toNat
    · unfold up; rw [if_pos c40, if_pos c40]
    · have e1 : ∀ σ : fG2, up σ 40 (ρ 12 0).toNat 0 g i = σ g i := fun σ => if_neg c40
      rw [e1, e1, up_ne h21]
      by_cases c12 : g = 12 ∧ i = 0
      · unfold up; rw [if_pos c12, if_pos c12]
      · have e2 : ∀ (σ : fG2) (v : Int), up σ 12 0 v g i = σ g i := fun σ v => if_neg c12
        rw [e2, e2, up_ne c9, up_ne h11]
theorem RB.addJ {t : Nat} {s k : Int} (h : RB P F S x T J V L E ρ al ln vi) (hn : rmB S E n B) (h0 : 0 ≤ ρ 12 0) (h5 : ρ 12 0 < 512) (ht : (t : Int) < ρ 4 0) (ha : al.length < 40) (alm : ∀ a ∈ al, (a : Int) < ρ 12 0) (hJ : okJ ρ) (hq : isA S 1 q) (hJq : ∀ j : Nat, (j : Int) < ρ 12 0 → J j ≠ q)
    (f16 : ρ 16 (ρ 12 0).toNat = 0) (f18 : ρ 18 (ρ 12 0).toNat = 0) (s1 : sR S q 1 = some (T t)) (s0 : sI S q 0 = iI (ρ 12 0)) (s2 : sI S q 2 = iI s) (s3 : sI S q 3 = iI k) (s4 : sI S q 4 = iI (stV 0)) (s5 : sI S q 5 = iI 0) (s6 : sI S q 6 = iI 0) (s7 : sI S q 7 = iI 0)
    {post : fMS → Nat → Prop} (hp : ∀ S' n' E', RB P F S' x T (nJ J (ρ 12 0).toNat q) V L E' (nwS ρ t s k) (al ++ [(ρ 12 0).toNat]) (mv1 (ρ 12 0).toNat ln) (mv1 (ρ 12 0).toNat vi) → rmB S' E' n' B → post S' n') :
    wp_Jx4a65c_add_9ea2d S n (L 2) (some q) (fun _ S28 n29 => isA S28 4 x ∧ ∃ a31 : Nat, sR S28 x 3 = some a31 ∧ isA S28 6 a31 ∧ wp_Jx4a65c_add_9ea2d S28 n29 a31 (some q) (fun _ S35 n36 => post S35 n36)) := by
  have e2 : cnt T J V ρ al ln vi 2 = (List.range (ρ 12 0).toNat).map J := rfl
  have e3 : cnt T J V ρ al ln vi 3 = al.map J := rfl
  obtain ⟨N, hN⟩ : ∃ N, N = (ρ 12 0).toNat := ⟨_, rfl⟩
  rw [← hN] at hp e2 f16 f18
  refine h.l.add vid2 (by decide) (Or.inl hq) (by rw [e2]; simp [lmx]; omega) (hn.n h.l) (fun S1 n1 E1 h1 fr1 hp1 => ?_)
  obtain ⟨b1, b2, b3, b4, b5⟩ := h.frX fr1
  have hn1 := hn.to hp1
  refine ⟨b1.1, L 3, b1.2.2.1.2.2.1, h1.k vid3, ?_⟩
  have e3' : lsU (cnt T J V ρ al ln vi) 2 (cnt T J V ρ al ln vi 2 ++ [q]) 3 = al.map J := lsU_ne (by decide)
  refine h1.add vid3 (by decide) (Or.inl (fr1.a hq)) (by rw [e3']; simp [lmx]; omega) (hn1.n h1) (fun S2 n2 E2 h2 fr2 hp2 => hp S2 n2 E2 ?_ (hn1.to hp2))
  have fr := fr1.tr fr2
  obtain ⟨b1, b2, b3, b4, b5⟩ := h.frX fr
  have ne : ∀ {g i : Nat}, g ≠ 13 → g ≠ 14 → g ≠ 15 → g ≠ 17 → g ≠ 12 → g ≠ 40 → nwS ρ t s k g i = ρ g i := fun h h1 h2 h3 h4 h5 => nw_ne h h1 h2 h3 h4 h5
  have n4 : nwS ρ t s k 4 0 = ρ 4 0 := ne (by decide) (by decide) (by decide) (by decide) (by decide) (by decide)
  have fq := fr.2.2.2 q hq.1 (by rw [hq.2]; decide) (by rw [hq.2]; decide)
  refine ⟨b1.c (ne (by decide) (by decide) (by decide) (by decide) (by decide) (by decide)) (ne (by decide) (by decide) (by decide) (by decide) (by decide) (by decide)) (ne (by decide) (by decide) (by decide) (by decide) (by decide) (by decide)) (ne (by decide) (by decide) (by decide) (by decide) (by decide) (by decide)),
    b2.c n4 (fun g i _ hg => ne (by omega) (by omega) (by omega) (by omega) (by omega) (by omega)), ⟨fun j hj => ?_, fun i j hi hj hij => ?_⟩, ⟨fun j hj => ?_, ?_⟩, ?_, ?_⟩
  · rw [nw_12] at hj
    by_cases c : j = N
    · subst c
      have v1 : nJ J j q j = q := by unfold nJ; rw [if_neg (by omega), if_pos rfl]
      have w13 : nwS ρ t s k 13 j = t := by rw [hN]; exact nw_13
      have w17 : nwS ρ t s k 17 j = 0 := by rw [hN]; exact nw_17
      rw [v1, w13, w17, Int.toNat_natCast, (fq 0).1, (fq 1).2.2, (fq 4).1]
      refine ⟨fr.a hq, by rw [s0]; congr 1; omega, s1, s4, fun a ha => ?_⟩
      rw [(fq a).1]
      have ha8 := jS_lt ha
      have : a = 2 ∨ a = 3 ∨ a = 5 ∨ a = 6 ∨ a = 7 := by
        have : ∀ a : Fin 8, jS a = true → a.val = 2 ∨ a.val = 3 ∨ a.val = 5 ∨ a.val = 6 ∨ a.val = 7 := by decide
        exact this ⟨a, ha8⟩ ha
      rcases this with e | e | e | e | e <;> subst e
      · rw [s2, show jF 2 = 14 from rfl, hN, nw_14]
      · rw [s3, show jF 3 = 15 from rfl, hN, nw_15]
      · rw [s5, show jF 5 = 16 from rfl, ne (by decide) (by decide) (by decide) (by decide) (by decide) (by decide), f16]
      · rw [s6, show jF 6 = 18 from rfl, ne (by decide) (by decide) (by decide) (by decide) (by decide) (by decide), f18]
      · rw [s7, show jF 7 = 40 from rfl, hN, nw_40]
    · have v1 : nJ J N q j = J j := by unfold nJ; rw [if_pos (by omega)]
      have wi : ∀ {g : Nat}, g ≠ 12 → nwS ρ t s k g j = ρ g j := fun hg => nw_i hg (by omega)
      obtain ⟨c1, c2, c3, c4, c5⟩ := b3.1 j (by omega)
      rw [v1, wi (by decide), wi (by decide)]
      exact ⟨c1, c2, c3, c4, fun a ha => by rw [wi (fun z => (jF_ne ha).2.2.2.2.2.2.1 z)]; exact c5 a ha⟩
  · rw [nw_12] at hi hj
    unfold nJ at hij
    by_cases ci : i < N
    · rw [if_pos ci] at hij
      by_cases cj : j < N
      · rw [if_pos cj] at hij; exact b3.2 i j (by omega) (by omega) hij
      · rw [if_neg cj, if_pos (by omega)] at hij; exact absurd hij (hJq i (by omega))
    · rw [if_neg ci, if_pos (by omega)] at hij
      by_cases cj : j < N
      · rw [if_pos cj] at hij; exact absurd hij.symm (hJq j (by omega))
      · omega
  · rw [ne (by decide) (by decide) (by decide) (by decide) (by decide) (by decide)] at hj
    rw [ne (by decide) (by decide) (by decide) (by decide) (by decide) (by decide), ne (by decide) (by decide) (by decide) (by decide) (by decide) (by decide), ne (by decide) (by decide) (by decide) (by decide) (by decide) (by decide), ne (by decide) (by decide) (by decide) (by decide) (by decide) (by decide)]
    exact b4.1 j hj
  · rw [ne (by decide) (by decide) (by decide) (by decide) (by decide) (by decide)]; exact b4.2
  · have key : cnt T (nJ J N q) V (nwS ρ t s k) (al ++ [N]) (mv1 N ln) (mv1 N vi) = lsU (lsU (cnt T J V ρ al ln vi) 2 (cnt T J V ρ al ln vi 2 ++ [q])) 3 (lsU (cnt T J V ρ al ln vi) 2 (cnt T J V ρ al ln vi 2 ++ [q]) 3 ++ [q]) := by
      have vN : nJ J N q N = q := by unfold nJ; rw [if_neg (by omega), if_pos rfl]
      funext i
      rw [e3', e2]
      by_cases c3 : i = 3
      · subst c3
        show (al ++ [N]).map (nJ J N q) = al.map J ++ [q]
        rw [List.map_append]
        congr 1
        · refine List.map_congr_left (fun a ha => ?_)
          have := alm a ha
          unfold nJ; rw [if_pos (by omega)]
        · simp [vN]
      · by_cases c2 : i = 2
        · subst c2
          show (List.range (nwS ρ t s k 12 0).toNat).map (nJ J N q) = (List.range N).map J ++ [q]
          rw [nw_12, show (ρ 12 0 + 1).toNat = N + 1 by omega, List.range_succ, List.map_append]
          congr 1
          · refine List.map_congr_left (fun a ha => ?_)
            have := List.mem_range.mp ha
            unfold nJ; rw [if_pos this]
          · simp [vN]
        · show _ = (if i = 3 then _ else if i = 2 then _ else cnt T J V ρ al ln vi i)
          rw [if_neg c3, if_neg c2]
          unfold cnt kdl
          simp only [if_neg c3, if_neg c2, mv1_map, n4, ne (g := 5) (by decide) (by decide) (by decide) (by decide) (by decide) (by decide), ne (g := 22) (by decide) (by decide) (by decide) (by decide) (by decide) (by decide)]
    rw [key, n4]; exact h2
  · unfold RF; rw [ne (by decide) (by decide) (by decide) (by decide) (by decide) (by decide)]; exact b5
theorem xl_submit {c : Int} {t s k : Int} (K : cdSub ρ t s k = 0 → K0 c (subS ρ t s k)) (hi : inv ρ) (hlt : ρ 12 0 < 512) (f16 : ρ 16 (ρ 12 0).toNat = 0) (f18 : ρ 18 (ρ 12 0).toNat = 0) (h : BB P S S x T J V L E ρ al ln vi n B) (hO : oK P S out 12) (ht : i32 t) (hs : i32 s) (hk : i32 k) {post : Int32 → fMS → Nat → Prop}
    (hp : xP P S x B out (svS (subS ρ t s k)) ρ (cdSub ρ t s k) (Int32.toInt64 (iI (ρ 12 0))) post) : wp_L_submit S n (some x) (iI t) (iI s) (iI k) (some out) post := by
  have hr := h.r
  have X := hp.no h
  have hB := h.2.2.2.1
  obtain ⟨q1, q2, q3, q4⟩ := hi.B4
  unfold wp_L_submit wp_X3_submit
  refine ⟨x, rfl, h.1.1.1, h.1.1.1, cx_teamAt hi.T h ht (fun c => Or.inl ⟨rfl, fun _ => X 1 (by unfold cdSub; rw [if_neg c]) (by decide)⟩) (fun l el hl => ?_)⟩
  subst el
  have t0 : 0 ≤ (l : Int) ∧ (l : Int) < ρ 4 0 := ⟨by omega, hl⟩
  refine cx_range (a := 1) (b := 60) hs (by unfold i32; omega) (by unfold i32; omega) (by omega) (fun c => Or.inr (Or.inl ⟨rfl, fun _ => X 2 (by unfold cdSub; rw [if_pos t0, if_neg (fun z => c z.1)]) (by decide)⟩)) (fun u1 u2 => ?_)
  refine cx_range (a := 1) (b := 50) hk (by unfold i32; omega) (by unfold i32; omega) (by omega) (fun c => Or.inr (Or.inl ⟨rfl, fun _ => X 2 (by unfold cdSub; rw [if_pos t0, if_neg (fun z => c z.2)]) (by decide)⟩)) (fun f1 f2 => ?_)
  refine cx_reqLeaf hi.T h hl (fun c => Or.inr (Or.inr (Or.inl ⟨rfl, fun _ => X 3 (by unfold cdSub; rw [if_pos t0, if_pos ⟨⟨u1, u2⟩, f1, f2⟩, if_neg c]) (by decide)⟩))) (fun hleaf => ?_)
  have alen : ((al.length : Nat) : Int) = ρ 21 0 := by rw [h.2.2.1, alv_len]; exact hi.t.2.2.symm
  have all : al.length ≤ 40 := by rw [h.2.2.1]; exact alv_l hi
  refine ⟨L 3, h.1.x3, of_eq_true h.1.k3, ?_⟩
  rw [h.1.s3]
  have c40 : ((40 : Int32) ≤ iI (al.length : Nat)) = (40 ≤ ((al.length : Nat) : Int)) := iI_le (a := 40) (by omega) (by omega) (by omega) (by omega)
  rw [c40]
  refine ⟨fun c => ⟨by omega, Or.inr (Or.inr (Or.inr ⟨rfl, fun _ => X 4 (by unfold cdSub; rw [if_pos t0, if_pos ⟨⟨u1, u2⟩, f1, f2⟩, if_pos hleaf, if_pos (by omega)]) (by decide)⟩))⟩, fun c => ?_⟩
  refine ⟨L 2, h.1.x2, of_eq_true h.1.k2, ?_⟩
  rw [h.1.s2 q3]
  have c512 : (iI (ρ 12 0) < (512 : Int32)) = (ρ 12 0 < 512) := iI_lt (b := 512) (by omega) (by omega) (by omega) (by omega)
  rw [c512]
  refine ⟨fun _ => ⟨by omega, fun q hq hqE => ?_⟩, fun z => absurd hlt z⟩
  have cd : cdSub ρ l s k = 0 := by unfold cdSub; rw [if_pos t0, if_pos ⟨⟨u1, u2⟩, f1, f2⟩, if_pos hleaf, if_neg (by omega)]
  have K := K cd
  have hp := hp.1 cd
  have hQ : q ∈ [q] := List.mem_cons_self
  have fq0 : frQ S (wN S q 1 0) [q] := (frQ.rf (S := S)).mk (k := 1) (N := 0) hq hqE
  have h0 := h.1.mk fq0
  refine ⟨L 2, h0.x2, of_eq_true h0.k2, ?_⟩
  rw [h0.s2 q3]
  unfold wp_X0_init
  refine ⟨isA_made, ?_⟩
  rintro _ rfl _ rfl _ rfl _ rfl _ rfl _ rfl _ rfl _ rfl
  have fq : frQ S (wI (wI (wR (wI (wI (wI (wI (wI (wN S q 1 0) q 4 (119 : Int32)) q 5 (0 : Int32)) q 6 (0 : Int32)) q 7 (0 : Int32)) q 0 (iI (ρ 12 0))) q 1 (some (T l))) q 2 (iI s)) q 3 (iI k)) [q] := (((((((fq0.wI hQ).wI hQ).wI hQ).wI hQ).wI hQ).wR hQ).wI hQ).wI hQ
  have h1 := h.1.mk fq
  have hn1 := h.2.1.mk (k := 9) fq h.1.l (by have := h.2.2.2.2.2; omega)
  have alm : ∀ a ∈ al, (a : Int) < ρ 12 0 := fun a ha => by rw [h.2.2.1] at ha; exact ((alv_mem hi.J).mp ha).1
  have no : ∀ {a b : Nat} {u v : Int32}, a ≠ b → (if q = q ∧ a = b then u else v) = v := fun hab => if_neg (fun z => hab z.2)
  refine ⟨h1.1.1, L 2, h1.x2, of_eq_true h1.k2, ?_⟩
  refine h1.addJ (t := l) (s := s) (k := k) hn1 q3 hlt hl (by omega) alm hi.J ⟨List.mem_append_right _ hQ, va_up_self _ _ _⟩ (fun j hj z => hq (z ▸ (h.1.2.2.1.1 j hj).1.1)) f16 f18 (if_pos ⟨rfl, rfl⟩) ?_ ?_ ?_ ?_ ?_ ?_ ?_ (fun S2 n2 E2 h2 hn2 => ?_)
  · exact (no (by decide)).trans ((no (by decide)).trans (if_pos ⟨rfl, rfl⟩))
  · exact (no (by decide)).trans (if_pos ⟨rfl, rfl⟩)
  · exact if_pos ⟨rfl, rfl⟩
  · exact (no (by decide)).trans ((no (by decide)).trans ((no (by decide)).trans ((no (by decide)).trans ((no (by decide)).trans ((no (by decide)).trans (if_pos ⟨rfl, rfl⟩))))))
  · exact (no (by decide)).trans ((no (by decide)).trans ((no (by decide)).trans ((no (by decide)).trans ((no (by decide)).trans (if_pos ⟨rfl, rfl⟩)))))
  · exact (no (by decide)).trans ((no (by decide)).trans ((no (by decide)).trans ((no (by decide)).trans (if_pos ⟨rfl, rfl⟩))))
  · exact (no (by decide)).trans ((no (by decide)).trans ((no (by decide)).trans (if_pos ⟨rfl, rfl⟩)))
  · have n4 : nwS ρ l s k 4 0 = ρ 4 0 := nw_ne (by decide) (by decide) (by decide) (by decide) (by decide) (by decide)
    refine ⟨T l, rfl, of_eq_true (h2.Tk l (by rw [n4]; exact hl)), ?_⟩
    have hw := h2.w5 l 1 (by rw [n4]; exact hl)
    refine ⟨hw.1.1, ?_⟩
    obtain ⟨N, hN⟩ : ∃ N, N = (ρ 12 0).toNat := ⟨_, rfl⟩
    obtain ⟨φ, hφ⟩ : ∃ φ, φ = up (subS ρ l s k) 40 (ρ 12 0).toNat 0 := ⟨_, rfl⟩
    have eφ : ∀ g i, g ≠ 11 → g ≠ 21 → φ g i = up (nwS ρ l s k) 9 l 1 g i := fun g i a b => by rw [hφ, sub_nw a b, Int.toNat_natCast]
    have hR : RB P S (wI S2 (T l) 5 (iI 1)) x T (nJ J (ρ 12 0).toNat q) V L E2 φ (al ++ [(ρ 12 0).toNat]) (mv1 (ρ 12 0).toNat ln) (mv1 (ρ 12 0).toNat vi) := hw.cg (fun g i _ h11 _ h21 _ _ _ _ _ _ => eφ g i h11 h21)
    have eC : eqC (subS ρ l s k) φ := by rw [hφ]; exact eqC.up0 (Or.inl (by decide))
    have e12 : φ 12 0 = ρ 12 0 + 1 := by rw [eφ 12 0 (by decide) (by decide), up_ne (by decide)]; exact nw_12
    have e17 : ∀ i, i ≠ N → φ 17 i = ρ 17 i := fun i hi => by rw [eφ 17 i (by decide) (by decide), up_ne (by decide)]; exact nw_i (by decide) (by omega)
    have e17N : φ 17 N = 0 := by rw [eφ 17 N (by decide) (by decide), up_ne (by decide), hN]; exact nw_17
    have hBφ : okB φ := by
      have b11 := hi.L.2 l; have b21 := hi.a; have b0 := hi.t.2.2
      have b21' := hB 21 0
      rw [hφ]; unfold subS
      exact ((((((((hB.w (by omega)).w (by omega)).w (by omega)).w (by omega)).w (by rw [Int.toNat_natCast]; omega)).w (by omega)).w (by omega)).w (by omega)).w (by omega)
    refine cx_sv2 (B := B + 20) (eC.K0 K) ?_ hBφ ?_ hR (hn2.w rfl) (by omega) h.2.2.2.2.2 (fun S' n' E' ρ' ln' vi' h' he hL => ?_)
    · unfold alv
      rw [e12, show (ρ 12 0 + 1).toNat = N + 1 by omega, List.range_succ, List.filter_append, ← hN]
      congr 1
      · rw [h.2.2.1]; unfold alv; rw [← hN]
        refine List.filter_congr (fun i hi => ?_)
        rw [e17 i (by have := List.mem_range.mp hi; omega)]
      · rw [List.filter_cons_of_pos (by rw [decide_eq_true_eq]; exact Or.inl e17N)]; rfl
    · intro i hi' hs'
      rw [e12] at hi'
      have c : i ≠ N := fun z => by rw [z, e17N] at hs'; omega
      rw [e17 i c] at hs'
      have e40 : φ 40 i = ρ 40 i := by rw [eφ 40 i (by decide) (by decide), up_ne (by decide)]; exact nw_i (by decide) (by omega)
      have e19 : φ 19 i = ρ 19 i := by rw [eφ 19 i (by decide) (by decide), up_ne (by decide)]; exact nw_i (by decide) (by omega)
      rw [e40, e19]
      exact h.2.2.2.2.1 i (by omega) hs'
    · have e12' : ρ' 12 0 = ρ 12 0 + 1 := by rw [he 12 0 (by decide) (by decide), sv_n (by decide), e12]
      have vN : nJ J N q N = q := by unfold nJ; rw [if_neg (by omega), if_pos rfl]
      rw [← hN] at h'
      have kq := of_eq_true (h'.Jk N (by omega))
      have jq := h'.j0 N (by omega)
      rw [vN] at kq jq
      have hL2 : LB P S S' x (svS (subS ρ l s k)) n' (B + 20) := hL.eq (svS_cong eC)
      refine ⟨kq, ?_⟩
      rw [jq, show ((N : Nat) : Int) = ρ 12 0 by omega]
      exact wr_end hL2 hO (hp S' n' hL2)
end
