-- ===== addTeam by the broker: the call =====
section
variable {P : Nat → Prop} {F S S' : fMS} {x n B out q q2 a b i j : Nat} {T J V L E E' : Nat → Nat} {ρ ρ' σ τ φ ψ : fG2} {al ln vi ln' vi' Q : List Nat} {v : Int32} {u : Int64} {r : Option Nat}
theorem sI_eq : sI (wI S a i v) a i = v := if_pos ⟨rfl, rfl⟩
theorem sI_sl (h : j ≠ i) : sI (wI S a i v) b j = sI S b j := if_neg (fun z => h z.2)
theorem sI_ne (h : b ≠ a) : sI (wI S a i v) b j = sI S b j := if_neg (fun z => h z.1)
theorem sI_wR : sI (wR S a i r) b j = sI S b j := rfl
theorem sI_wJ : sI (wJ S a i u) b j = sI S b j := rfl
theorem sI_wN {k N : Nat} : sI (wN S q k N) q j = 0 := if_pos rfl
theorem sI_wNn {k N : Nat} (h : b ≠ q) : sI (wN S q k N) b j = sI S b j := if_neg h
theorem sR_eq : sR (wR S a i r) a i = r := if_pos ⟨rfl, rfl⟩
theorem sR_sl (h : j ≠ i) : sR (wR S a i r) b j = sR S b j := if_neg (fun z => h z.2)
theorem sR_ne (h : b ≠ a) : sR (wR S a i r) b j = sR S b j := if_neg (fun z => h z.1)
theorem sR_wI : sR (wI S a i v) b j = sR S b j := rfl
theorem sR_wJ : sR (wJ S a i u) b j = sR S b j := rfl
theorem sJ_wI : sJ (wI S a i v) b j = sJ S b j := rfl
theorem sJ_wR : sJ (wR S a i r) b j = sJ S b j := rfl
theorem sJ_eq : sJ (wJ S a i u) a i = u := if_pos ⟨rfl, rfl⟩
/-- a team being made -/
def mkT (S S' : fMS) (q q2 : Nat) : Prop := frQ S S' [q, q2] ∧ q2 ≠ q ∧ isA S' 3 q ∧ isA S' 6 q2 ∧ sR S' q2 1 = some (sE S') ∧ sI S' q2 2 = iI 0
theorem mkT.aI (h : mkT S S' q q2) {S1 : fMS} {s : Nat} {v : Int32} (e : S1 = wI S' q s v) : mkT S S1 q q2 := by
  subst e
  obtain ⟨a1, a2, a3, a4, a5, a6⟩ := h
  exact ⟨a1.wI List.mem_cons_self, a2, a3, a4, a5, (sI_ne a2).trans a6⟩
theorem mkT.aJ (h : mkT S S' q q2) {S1 : fMS} {s : Nat} {v : Int64} (e : S1 = wJ S' q s v) : mkT S S1 q q2 := by
  subst e
  obtain ⟨a1, a2, a3, a4, a5, a6⟩ := h
  exact ⟨a1.wJ List.mem_cons_self, a2, a3, a4, a5, a6⟩
theorem mkT.aR (h : mkT S S' q q2) {S1 : fMS} {s : Nat} {v : Option Nat} (e : S1 = wR S' q s v) : mkT S S1 q q2 := by
  subst e
  obtain ⟨a1, a2, a3, a4, a5, a6⟩ := h
  exact ⟨a1.wR List.mem_cons_self, a2, a3, a4, (sR_ne a2).trans a5, a6⟩
theorem mkT.st {S1 S5 S7 : fMS} (hq : q ∉ sL S) (hqE : q ≠ sE S) (e1 : S1 = wN S q 3 0) (hq2 : q2 ∉ sL S1) (hq2E : q2 ≠ sE S1) (e5 : S5 = wN S1 q2 6 0) (e7 : S7 = wR (wI S5 q2 0 (0 : Int32)) q2 1 (some (sE (wI S5 q2 0 (0 : Int32))))) : mkT S S7 q q2 := by
  have f0 : frQ S S1 [q] := by rw [e1]; exact (frQ.rf (S := S)).mk hq hqE
  have f1 : frQ S S5 [q, q2] := by rw [e5]; exact f0.mk hq2 hq2E
  have hne : q2 ≠ q := fun z => hq2 (by rw [e1, z]; exact List.mem_append_right _ List.mem_cons_self)
  have kq1 : isA S1 3 q := by rw [e1]; exact isA_made
  have kq : isA S5 3 q := by rw [e5]; exact isA_new hq2 kq1
  have kq2 : isA S5 6 q2 := by rw [e5]; exact isA_made
  have hQ2 : q2 ∈ [q, q2] := List.mem_cons_of_mem _ List.mem_cons_self
  have z2 : sI S5 q2 2 = iI 0 := by rw [e5]; exact sI_wN
  rw [e7]
  exact ⟨(f1.wI hQ2).wR hQ2, hne, kq, kq2, sR_eq, (sI_sl (by decide)).trans z2⟩
theorem xl_addTeam {c : Int} {p w : Int} (K : cdAdd ρ p w = 0 → K0 c (addS ρ p w)) (hi : inv ρ) (hZ : okZ ρ) (f8 : ρ 8 (ρ 4 0).toNat = 0) (f9 : ρ 9 (ρ 4 0).toNat = 0) (f10 : ρ 10 (ρ 4 0).toNat = 0) (h : BB P S S x T J V L E ρ al ln vi n B) (hO : oK P S out 12) (hpi : i32 p) (hw : i32 w) {post : Int32 → fMS → Nat → Prop}
    (hp : xP P S x B out (svS (addS ρ p w)) ρ (cdAdd ρ p w) (Int32.toInt64 (iI (ρ 4 0))) post) : wp_L_addTeam S n (some x) (iI p) (iI w) (some out) post := by
  have hr := h.r
  have X := hp.no h
  have hB := h.2.2.2.1
  obtain ⟨q1, qq2, q3, q4⟩ := hi.B4
  unfold wp_L_addTeam wp_X3_addTeam
  refine ⟨x, rfl, h.1.1.1, h.1.1.1, cx_teamAt hi.T h hpi (fun c => Or.inl ⟨rfl, fun _ => X 1 (by unfold cdAdd; rw [if_neg c]) (by decide)⟩) (fun l el hl => ?_)⟩
  subst el
  have t0 : 0 ≤ (l : Int) ∧ (l : Int) < ρ 4 0 := ⟨by omega, hl⟩
  refine cx_range (a := 1) (b := 9) hw (by unfold i32; omega) (by unfold i32; omega) (by omega) (fun c => Or.inr (Or.inl ⟨rfl, fun _ => X 2 (by unfold cdAdd; rw [if_pos t0, if_neg c]) (by decide)⟩)) (fun u1 u2 => ?_)
  refine ⟨L 0, h.1.x0, of_eq_true h.1.k0, ?_⟩
  rw [h.1.s0 (by omega)]
  have c10 : ((10 : Int32) ≤ iI (ρ 4 0)) = (10 ≤ ρ 4 0) := iI_le (a := 10) (by omega) (by omega) (by omega) (by omega)
  rw [c10]
  refine ⟨fun c => ⟨by omega, Or.inr (Or.inr ⟨rfl, fun _ => X 3 (by unfold cdAdd; rw [if_pos t0, if_pos ⟨u1, u2⟩, if_pos (Or.inl (by omega))]) (by decide)⟩)⟩, fun c => ⟨T l, rfl, of_eq_true (h.1.Tk l hl), ?_⟩⟩
  rw [h.1.t5 l hl]
  have b9 := hB 9 l
  have c9 : (iI (ρ 9 l) = (0 : Int32)) = (ρ 9 l = 0) := iI_eq (b := 0) (by omega) (by omega) (by omega) (by omega)
  rw [c9]
  refine ⟨fun d => ⟨by omega, fun q hq hqE => ?_⟩, fun d => ⟨by omega, Or.inr (Or.inr ⟨rfl, fun _ => X 3 (by unfold cdAdd; rw [if_pos t0, if_pos ⟨u1, u2⟩, if_pos (Or.inr (by rw [Int.toNat_natCast]; exact d))]) (by decide)⟩)⟩⟩
  have cd : cdAdd ρ l w = 0 := by unfold cdAdd; rw [if_pos t0, if_pos ⟨u1, u2⟩, if_neg (by rw [Int.toNat_natCast]; omega)]
  have K := K cd
  have hp := hp.1 cd
  obtain ⟨S1, e1⟩ : ∃ S1, S1 = wN S q 3 0 := ⟨_, rfl⟩
  rw [← e1]
  have fq0 : frQ S S1 [q] := by rw [e1]; exact (frQ.rf (S := S)).mk hq hqE
  have h0 := h.1.mk fq0
  refine ⟨L 0, h0.x0, of_eq_true h0.k0, ?_⟩
  rw [h0.s0 (by omega)]
  unfold wp_X2_init
  refine ⟨by omega, fun q2 hq2 hq2E => ?_⟩
  intro S5 e5
  unfold wp_Jx4a65c_init_da8c8 wp_Jxc12de_init_da8c8 wp_Jxa1e45_init_da8c8
  obtain ⟨S7, e7⟩ : ∃ S7, S7 = wR (wI S5 q2 0 (0 : Int32)) q2 1 (some (sE (wI S5 q2 0 (0 : Int32)))) := ⟨_, rfl⟩
  have m7 := mkT.st hq hqE e1 hq2 hq2E e5 e7
  have kq2 : isA S5 6 q2 := by rw [e5]; exact isA_made
  refine ⟨kq2, kq2, ?_⟩
  rw [← e7]
  refine ⟨m7.2.2.1, ?_⟩
  intro S10 e10 S12 e12 S14 e14 S16 e16 S18 e18 S20 e20 S22 e22 S24 e24 S26 e26 S28 e28 S30 e30 S32 e32 S34 e34 S36 e36
  have m36 := (((((((((((((m7.aR e10).aI e12).aI e14).aI e16).aJ e18).aI e20).aI e22).aI e24).aI e26).aI e28).aI e30).aI e32).aR e34).aI e36
  have fq := m36.1
  have s3 : sI S36 q 3 = iI w := by rw [e36, sI_eq]
  have s1 : sR S36 q 1 = some (T l) := by rw [e36, sR_wI, e34, sR_eq]
  have d0 : ∀ {s}, s ≠ 3 → sI S36 q s = sI S32 q s := fun hs => by rw [e36, sI_sl hs, e34, sI_wR]
  have s0 : sI S36 q 0 = iI (ρ 4 0) := by rw [d0 (by decide), e32, sI_eq]
  have d1 : ∀ {s}, s ≠ 3 → s ≠ 0 → sI S36 q s = sI S30 q s := fun hs h0 => by rw [d0 hs, e32, sI_sl h0]
  have s13 : sI S36 q 13 = iI 0 := by rw [d1 (by decide) (by decide), e30, sI_eq]; rfl
  have s12 : sI S36 q 12 = iI 0 := by rw [d1 (by decide) (by decide), e30, sI_sl (by decide), e28, sI_eq]; rfl
  have s11 : sI S36 q 11 = iI 0 := by rw [d1 (by decide) (by decide), e30, sI_sl (by decide), e28, sI_sl (by decide), e26, sI_eq]; rfl
  have d2 : ∀ {s}, s ≠ 3 → s ≠ 0 → s ≠ 13 → s ≠ 12 → s ≠ 11 → sI S36 q s = sI S24 q s := fun h3 h0 a b c => by rw [d1 h3 h0, e30, sI_sl a, e28, sI_sl b, e26, sI_sl c]
  have s10 : sI S36 q 10 = iI 0 := by rw [d2 (by decide) (by decide) (by decide) (by decide) (by decide), e24, sI_eq]; rfl
  have s9 : sI S36 q 9 = iI 0 := by rw [d2 (by decide) (by decide) (by decide) (by decide) (by decide), e24, sI_sl (by decide), e22, sI_eq]; rfl
  have s8 : sI S36 q 8 = iI 0 := by rw [d2 (by decide) (by decide) (by decide) (by decide) (by decide), e24, sI_sl (by decide), e22, sI_sl (by decide), e20, sI_eq]; rfl
  have d3 : ∀ {s}, s ≠ 3 → s ≠ 0 → s ≠ 13 → s ≠ 12 → s ≠ 11 → s ≠ 10 → s ≠ 9 → s ≠ 8 → sI S36 q s = sI S16 q s := fun h3 h0 a b c d e f => by rw [d2 h3 h0 a b c, e24, sI_sl d, e22, sI_sl e, e20, sI_sl f, e18, sI_wJ]
  have s6 : sI S36 q 6 = iI 0 := by rw [d3 (by decide) (by decide) (by decide) (by decide) (by decide) (by decide) (by decide) (by decide), e16, sI_eq]; rfl
  have s5 : sI S36 q 5 = iI 0 := by rw [d3 (by decide) (by decide) (by decide) (by decide) (by decide) (by decide) (by decide) (by decide), e16, sI_sl (by decide), e14, sI_eq]; rfl
  have s4 : sI S36 q 4 = iI 500 := by rw [d3 (by decide) (by decide) (by decide) (by decide) (by decide) (by decide) (by decide) (by decide), e16, sI_sl (by decide), e14, sI_sl (by decide), e12, sI_eq]; rfl
  have s2 : sR S36 q 2 = some q2 := by rw [e36, sR_wI, e34, sR_sl (by decide), e32, sR_wI, e30, sR_wI, e28, sR_wI, e26, sR_wI, e24, sR_wI, e22, sR_wI, e20, sR_wI, e18, sR_wJ, e16, sR_wI, e14, sR_wI, e12, sR_wI, e10, sR_eq]
  have s7 : sJ S36 q 7 = jJ 0 := by rw [e36, sJ_wI, e34, sJ_wR, e32, sJ_wI, e30, sJ_wI, e28, sJ_wI, e26, sJ_wI, e24, sJ_wI, e22, sJ_wI, e20, sJ_wI, e18, sJ_eq]; rfl
  clear e10 e12 e14 e16 e18 e20 e22 e24 e26 e28 e30 e32 e34 e36 d0 d1 d2 d3
  have h1 := h.1.mk fq
  have hn1 := h.2.1.mk (k := 19) fq h.1.l (by have := h.2.2.2.2.2; omega)
  refine ⟨h1.1.1, L 0, h1.x0, of_eq_true h1.k0, ?_⟩
  refine h1.addT (q2 := q2) (p := l) (w := w) hn1 hi.T hi.J hZ (by omega) hl m36.2.2.1 m36.2.2.2.1 (fun k hk z => hq (z ▸ (h.1.2.1.1 k hk).1.1)) (fun i hv z => (fq.2.2.2.1 q2 (List.mem_cons_of_mem _ List.mem_cons_self)).1 (z ▸ (h.1.l.k hv).1)) f8 f9 f10 m36.2.2.2.2.1 m36.2.2.2.2.2 s0 s1 s2 s3 s4 ?_ s7 (fun S2 n2 E2 h2 hn2 => ?_)
  · intro s hs
    have : s = 5 ∨ s = 6 ∨ s = 8 ∨ s = 9 ∨ s = 10 ∨ s = 11 ∨ s = 12 ∨ s = 13 := by omega
    rcases this with e | e | e | e | e | e | e | e <;> subst e <;> assumption
  · refine ⟨h2.1.1, ?_⟩
    obtain ⟨N, hN⟩ : ∃ N, N = (ρ 4 0).toNat := ⟨_, rfl⟩
    have g : ∀ {g k : Nat}, 8 ≤ g → g < 41 → atS ρ l w g k = ρ g k := fun h8 h41 => at_g (by omega) (by omega) (by omega) (by omega) (by omega)
    have hB2 : okB (atS ρ l w) := by
      intro a b
      unfold atS
      split
      · omega
      · unfold addS; exact ((((hB.w (by omega)).w (by omega)).w (by omega)).w (by omega)) a b
    refine cx_sv2 (B := B + 20) (at_C.K0 K) ?_ hB2 ?_ h2 hn2 (by omega) h.2.2.2.2.2 (fun S' n' E' ρ' ln' vi' h' he hL => ?_)
    · rw [h.2.2.1]; unfold alv; rw [g (by decide) (by decide)]
      refine List.filter_congr (fun i _ => ?_)
      rw [g (by decide) (by decide)]
    · unfold h40; simp only [g (g := 12) (by decide) (by decide), g (g := 17) (by decide) (by decide), g (g := 19) (by decide) (by decide), g (g := 40) (by decide) (by decide)]; exact h.2.2.2.2.1
    · have e4' : ρ' 4 0 = ρ 4 0 + 1 := by rw [he 4 0 (by decide) (by decide), sv_n (by decide)]; exact at_4
      have vN : nV T N q N = q := if_pos rfl
      rw [← hN] at h'
      have k3 := of_eq_true (h'.Tk N (by omega))
      have j3 := h'.t0 N (by omega)
      rw [vN] at k3 j3
      have hL2 : LB P S S' x (svS (addS ρ l w)) n' (B + 20) := hL.eq (svS_cong at_C)
      refine ⟨k3, ?_⟩
      rw [j3, show ((N : Nat) : Int) = ρ 4 0 by omega]
      exact wr_end hL2 hO (hp S' n' hL2)
end
