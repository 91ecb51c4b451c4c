-- ===== reserve by the broker =====
section
variable {P : Nat → Prop} {F S S' : fMS} {x n B out q : Nat} {T J V L E E' : Nat → Nat} {ρ ρ' σ τ φ ψ : fG2} {al ln vi ln' vi' Q : List Nat}
theorem cx_118 {c : Int} {t k B1 B2 : Nat} {u : Int} (K : K0 c (resB ρ t k u)) (hB : okB ρ) (h4 : h40 ρ) (hal : al = alv ρ) (h : RB P F S x T J V L E ρ al ln vi) (hn : rmB S E n B1) (hb : B1 ≤ B2) (hb2 : B2 ≤ 20000) (hk : (k : Int) < ρ 22 0) (ht : (t : Int) < ρ 4 0) (hk2 : 0 ≤ ρ 24 k ∧ ρ 24 k ≤ 200) (hu : 0 ≤ u ∧ u ≤ 60)
    {post : Int32 → fMS → Nat → Prop} {postX : String → fMS → Nat → Prop} {p1 p3 p4 : Int32} (hp : ∀ S' n', LB P F S' x (svS (resB ρ t k u)) n' B2 → post (iI (ρ 24 k + u)) S' n') : wB_X3_reserve_118 post postX x p1 (iI u) p3 p4 S n (some (T t)) (some (V k)) := by
  have hw := h.wV k (ρ 24 k + u) hk
  have e4 : up ρ 24 k (ρ 24 k + u) 4 0 = ρ 4 0 := up_ne (by decide)
  have hw2 := hw.w5 t 1 (by rw [e4]; exact ht)
  have e1 : sI S (V k) 3 + iI u = iI (ρ 24 k + u) := by rw [h.v3 k hk, iI_add]
  unfold wB_X3_reserve_118
  refine ⟨V k, rfl, of_eq_true (h.Vk k hk), T t, rfl, ?_⟩
  rw [e1]
  refine ⟨of_eq_true (hw.Tk t (by rw [e4]; exact ht)), hw2.1.1, ?_⟩
  have en : ∀ g i, g ≠ 24 → g ≠ 9 → resB ρ t k u g i = ρ g i := fun g i a b => by unfold resB; rw [up_ne b, up_ne a]
  refine cx_sv2 (ρ := resB ρ t k u) K ?_ ((hB.w (by omega)).w (by omega)) ?_ hw2 ((hn.w rfl).w rfl) hb hb2 (fun S' n' E' ρ' ln' vi' h' he hL => ?_)
  · rw [hal]; unfold alv; simp only [en 12 _ (by decide) (by decide), en 17 _ (by decide) (by decide)]
  · unfold h40; simp only [en 12 _ (by decide) (by decide), en 17 _ (by decide) (by decide), en 19 _ (by decide) (by decide), en 40 _ (by decide) (by decide)]; exact h4
  · have e22 : ρ' 22 0 = ρ 22 0 := by rw [he 22 0 (by decide) (by decide), sv_n (by decide), en 22 0 (by decide) (by decide)]
    have e24 : ρ' 24 k = ρ 24 k + u := by
      rw [he 24 k (by decide) (by decide), sv_n (by decide)]; unfold resB; rw [up_ne (by decide)]; exact up_at
    refine ⟨of_eq_true (h'.Vk k (by rw [e22]; exact hk)), ?_⟩
    rw [h'.v3 k (by rw [e22]; exact hk), e24]
    exact hp S' n' hL
theorem xl_reserve {c : Int} {t u f e : Int} (K : cdRes ρ t u f e = 0 → K0 c (resS ρ t u f e)) (hi : inv ρ) (hZ : okZ ρ) (h : BB P S S x T J V L E ρ al ln vi n B) (hO : oK P S out 12) (ht : i32 t) (hu : i32 u) (hf : i32 f) (he : i32 e) {post : Int32 → fMS → Nat → Prop}
    (hp : xP P S x B out (svS (resS ρ t u f e)) ρ (cdRes ρ t u f e) (Int32.toInt64 (iI (resS ρ t u f e 24 (resK ρ t f e)))) post) : wp_L_reserve S n (some x) (iI t) (iI u) (iI f) (iI e) (some out) post := by
  have hr := h.r
  have X := hp.no h
  have hB := h.2.2.2.1
  obtain ⟨q1, q2, q3, q4⟩ := hi.B4
  have r1 := hi.P.1; have r2 := hi.P.2.1
  unfold wp_L_reserve wp_X3_reserve
  refine ⟨x, rfl, h.1.1.1, h.1.1.1, cx_teamAt hi.T h ht (fun c => Or.inl ⟨rfl, fun _ => X 1 (by unfold cdRes; rw [if_neg c]) (by decide)⟩) (fun l el hl => ?_)⟩
  subst el
  have t0 : 0 ≤ (l : Int) ∧ (l : Int) < ρ 4 0 := ⟨by omega, hl⟩
  have X2 : ¬ ((1 ≤ u ∧ u ≤ 60) ∧ (0 ≤ f ∧ f ≤ 9999) ∧ ¬ e ≤ f ∧ ¬ 9999 < e ∧ (spS ρ l f e = -1 ∨ ρ 24 (spS ρ l f e).toNat + u ≤ 200)) → post (iI 2) S (n + 7) := fun c => X 2 (by unfold cdRes; rw [if_pos t0, if_neg c]) (by decide)
  have XX : ∀ {a : Prop}, post (iI 2) S (n + 7) → a ∨ ("java/lang/IllegalArgumentException" = "java/lang/IllegalArgumentException" ∧ ∀ q14 : Nat, post (2 : Int32) S (n + 7)) ∨ ("java/lang/IllegalArgumentException" = "java/lang/UnsupportedOperationException" ∧ ∀ q14 : Nat, post (3 : Int32) S (n + 7)) ∨ ("java/lang/IllegalArgumentException" = "java/lang/IllegalStateException" ∧ ∀ q14 : Nat, post (4 : Int32) S (n + 7)) := fun z => Or.inr (Or.inl ⟨rfl, fun _ => z⟩)
  refine cx_range (a := 1) (b := 60) hu (by unfold i32; omega) (by unfold i32; omega) (by omega) (fun c => XX (X2 (fun z => c z.1))) (fun u1 u2 => ?_)
  refine cx_range (a := 0) (b := 9999) hf (by unfold i32; omega) (by unfold i32; omega) (by omega) (fun c => XX (X2 (fun z => c z.2.1))) (fun f1 f2 => ?_)
  have ef : iI f + 1 = iI (f + 1) := iI_add f 1
  rw [ef]
  refine cx_range (a := f + 1) (b := 9999) he (by unfold i32; omega) (by unfold i32; omega) (by omega) (fun c => XX (X2 (fun z => c ⟨by have := z.2.2.1; omega, by have := z.2.2.2.1; omega⟩))) (fun e1 e2 => ?_)
  refine cx_resFor hi.P hZ hB h.1 ht hf he ?_
  -- what both come to
  have m62 : (spS ρ l f e = -1 ∨ ρ 24 (spS ρ l f e).toNat + u ≤ 200) → wB_X3_reserve_62 (fun v4 S5 n6 => ∃ a7 : Nat, some out = some a7 ∧ isA S5 12 a7 ∧ vp_in (0 : Int32) (sN S5 a7) ∧ post (0 : Int32) (wJ S5 a7 (Int32.toNatClampNeg (0 : Int32)) (Int32.toInt64 v4)) n6) (fun X11 S12 n13 => (X11 = "java/lang/IndexOutOfBoundsException" ∧ ∀ q14 : Nat, post (1 : Int32) S12 n13) ∨ (X11 = "java/lang/IllegalArgumentException" ∧ ∀ q14 : Nat, post (2 : Int32) S12 n13) ∨ (X11 = "java/lang/UnsupportedOperationException" ∧ ∀ q14 : Nat, post (3 : Int32) S12 n13) ∨ (X11 = "java/lang/IllegalStateException" ∧ ∀ q14 : Nat, post (4 : Int32) S12 n13)) x (iI l) (iI u) (iI f) (iI e) S n (some (T l)) (lnJ V (spS ρ l f e)) := by
    intro hsum
    have call : (1 ≤ u ∧ u ≤ 60) ∧ (0 ≤ f ∧ f ≤ 9999) ∧ ¬ e ≤ f ∧ ¬ 9999 < e ∧ (spS ρ l f e = -1 ∨ ρ 24 (spS ρ l f e).toNat + u ≤ 200) := ⟨⟨u1, u2⟩, ⟨f1, f2⟩, by omega, by omega, hsum⟩
    unfold wB_X3_reserve_62
    refine cx_reqLeaf hi.T h hl (fun c => Or.inr (Or.inr (Or.inl ⟨rfl, fun _ => X 3 (by unfold cdRes; rw [if_pos t0, if_pos call, if_neg c]) (by decide)⟩))) (fun hleaf => ?_)
    rcases spS_ok hi.P l f e with d | ⟨k, z1, z2, z3, -⟩
    · -- a new one
      unfold lnJ
      rw [if_pos d]
      refine ⟨fun z => absurd rfl z, fun _ => ⟨h.1.1.1, L 4, h.1.x4, of_eq_true h.1.k4, ?_⟩⟩
      rw [h.1.s4 r1]
      have c8 : (iI (ρ 22 0) < (8 : Int32)) = (ρ 22 0 < 8) := iI_lt (b := 8) (by omega) (by omega) (by omega) (by omega)
      rw [c8]
      refine ⟨fun h8 => ⟨by omega, fun q hq hqE => ?_⟩, fun c => ⟨by omega, Or.inr (Or.inr (Or.inr ⟨rfl, fun _ => X 4 (by unfold cdRes; rw [if_pos t0, if_pos call, if_pos hleaf, if_pos ⟨by omega, d⟩]) (by decide)⟩))⟩⟩
      have cd : cdRes ρ l u f e = 0 := by unfold cdRes; rw [if_pos t0, if_pos call, if_pos hleaf, if_neg (fun z => by have := z.1; omega)]
      have K := K cd
      have hp := hp.1 cd
      have eS : resS ρ l u f e = resB (resA ρ l f e) l (ρ 22 0).toNat u := by unfold resS; rw [if_pos d, Int.toNat_natCast]
      have eK : resK ρ l f e = (ρ 22 0).toNat := if_pos d
      rw [eS] at K hp
      rw [eK] at hp
      obtain ⟨N, hN⟩ : ∃ N, N = (ρ 22 0).toNat := ⟨_, rfl⟩
      rw [← hN] at K hp
      unfold wp_X1_init
      refine ⟨isA_made, ?_⟩
      rintro _ rfl _ rfl _ rfl _ rfl
      have hQ : q ∈ [q] := List.mem_cons_self
      have fq : frQ S (wI (wI (wR (wI (wN S q 2 0) q 3 (0 : Int32)) q 0 (some (T l))) q 1 (iI f)) q 2 (iI e)) [q] := ((((((frQ.rf (S := S)).mk (k := 2) (N := 0) hq hqE).wI hQ).wR hQ).wI hQ).wI hQ)
      have h1 := h.1.mk fq
      have hn1 := h.2.1.mk (k := 5) fq h.1.l (by have := h.2.2.2.2.2; omega)
      refine ⟨h1.1.1, L 4, h1.x4, of_eq_true h1.k4, ?_⟩
      have w24 : resA ρ l f e 24 N = 0 := by unfold resA; rw [up_ne (by decide), up_ne (by decide), up_ne (by decide), ← hN]; exact up_at
      have g : ∀ {g k : Nat}, g < 22 ∨ 26 < g → resA ρ l f e g k = ρ g k := fun hg => by
        unfold resA; rw [up_ne (by omega), up_ne (by omega), up_ne (by omega), up_ne (by omega), up_ne (by omega)]
      refine h1.add4 (t := l) (f := f) (e := e) hn1 r1 h8 hl ⟨List.mem_append_right _ hQ, va_up_self _ _ _⟩ (fun j hj z => hq (z ▸ (h.1.2.2.2.1.1 j hj).1.1)) (fun z => hq (h.1.f.2.2 q z).1) ?_ ?_ ?_ ?_ (fun v S2 n2 E2 h2 hn2 => ?_)
      · exact if_pos ⟨rfl, rfl⟩
      · exact (if_neg (fun z => absurd z.2 (by decide))).trans (if_pos ⟨rfl, rfl⟩)
      · exact if_pos ⟨rfl, rfl⟩
      · exact (if_neg (fun z => absurd z.2 (by decide))).trans ((if_neg (fun z => absurd z.2 (by decide))).trans (if_pos ⟨rfl, rfl⟩))
      · rw [← hN] at h2
        have ev : nV V N q N = q := if_pos rfl
        have ea : al = alv (resA ρ l f e) := by rw [h.2.2.1]; unfold alv; simp only [g (g := 12) (Or.inl (by decide)), g (g := 17) (Or.inl (by decide))]
        have hB2 : okB (resA ρ l f e) := by unfold resA; exact ((((hB.w (by omega)).w (by omega)).w (by omega)).w (by omega)).w (by omega)
        have h42 : h40 (resA ρ l f e) := by unfold h40; simp only [g (g := 12) (Or.inl (by decide)), g (g := 17) (Or.inl (by decide)), g (g := 19) (Or.inl (by decide)), g (g := 40) (Or.inr (by decide))]; exact h.2.2.2.2.1
        have e22 : resA ρ l f e 22 0 = ρ 22 0 + 1 := up_at
        have fin := cx_118 (post := fun v4 S5 n6 => ∃ a7 : Nat, some out = some a7 ∧ isA S5 12 a7 ∧ vp_in (0 : Int32) (sN S5 a7) ∧ post (0 : Int32) (wJ S5 a7 (Int32.toNatClampNeg (0 : Int32)) (Int32.toInt64 v4)) n6) (postX := fun X11 S12 n13 => (X11 = "java/lang/IndexOutOfBoundsException" ∧ ∀ q14 : Nat, post (1 : Int32) S12 n13) ∨ (X11 = "java/lang/IllegalArgumentException" ∧ ∀ q14 : Nat, post (2 : Int32) S12 n13) ∨ (X11 = "java/lang/UnsupportedOperationException" ∧ ∀ q14 : Nat, post (3 : Int32) S12 n13) ∨ (X11 = "java/lang/IllegalStateException" ∧ ∀ q14 : Nat, post (4 : Int32) S12 n13)) (p1 := iI l) (p3 := iI f) (p4 := iI e) (B2 := B + 20) (t := l) (k := N) (u := u) K hB2 h42 ea h2 hn2 (by omega) h.2.2.2.2.2 (by rw [e22]; omega) (by rw [g (Or.inl (by decide))]; exact hl) (by rw [w24]; omega) (by omega) (fun S' n' hL => ?_)
        · rw [ev] at fin; exact fin
        · have e24 : resB (resA ρ l f e) l N u 24 N = resA ρ l f e 24 N + u := by unfold resB; rw [up_ne (by decide)]; exact up_at
          rw [e24] at hp
          exact wr_end hL hO (hp S' n' hL)
    · have d : ¬ spS ρ l f e = -1 := by omega
      have cd : cdRes ρ l u f e = 0 := by unfold cdRes; rw [if_pos t0, if_pos call, if_pos hleaf, if_neg (fun z => d z.2)]
      have K := K cd
      have hp := hp.1 cd
      have eS : resS ρ l u f e = resB ρ l k u := by unfold resS; rw [if_neg d, Int.toNat_natCast, z1, Int.toNat_natCast]
      have eK : resK ρ l f e = k := by unfold resK; rw [if_neg d, z1, Int.toNat_natCast]
      rw [eS] at K hp
      rw [eK] at hp
      have el : lnJ V (spS ρ l f e) = some (V k) := by unfold lnJ; rw [if_neg d, z1, Int.toNat_natCast]
      rw [el]
      refine ⟨fun _ => ?_, fun z => by cases z⟩
      refine cx_118 (B1 := B) (B2 := B + 20) (t := l) (k := k) (u := u) K hB h.2.2.2.2.1 h.2.2.1 h.1 h.2.1 (by omega) h.2.2.2.2.2 z2 hl (hi.P.2.2 k) (by omega) (fun S' n' hL => ?_)
      have e24 : resB ρ l k u 24 k = ρ 24 k + u := by unfold resB; rw [up_ne (by decide)]; exact up_at
      rw [e24] at hp
      exact wr_end hL hO (hp S' n' hL)
  refine ⟨fun z => ?_, fun z => ?_⟩
  · refine m62 (Or.inl ?_)
    unfold lnJ at z
    split at z
    · rename_i d; exact d
    · cases z
  · rcases spS_ok hi.P l f e with d | ⟨k, z1, z2, z3, -⟩
    · exact absurd (by unfold lnJ; rw [if_pos d]) z
    · have d : ¬ spS ρ l f e = -1 := by omega
      have el : lnJ V (spS ρ l f e) = some (V k) := by unfold lnJ; rw [if_neg d, z1, Int.toNat_natCast]
      refine ⟨V k, el, of_eq_true (h.1.Vk k z2), ?_⟩
      rw [h.1.v3 k z2, iI_add]
      have b24 := hi.P.2.2 k
      exact cx_range (a := 1) (b := 200) (by unfold i32; omega) (by unfold i32; omega) (by unfold i32; omega) (by omega) (fun c => XX (X2 (fun y => by
        have := y.2.2.2.2
        rw [z1, Int.toNat_natCast] at this; omega))) (fun _ s2 => m62 (Or.inr (by rw [z1, Int.toNat_natCast]; exact s2)))
end
