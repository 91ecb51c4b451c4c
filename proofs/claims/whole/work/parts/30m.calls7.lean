section
variable {F S : fMS} {m n : Nat} {A : Nat → Nat} {σ τ ρ : fG2}
/-- the span of leaf t from f to e, from k on -/
def spF (σ : fG2) (t f e : Int) : Nat → Nat → Int
  | _, 0 => -1
  | k, d + 1 => if σ 23 k = t ∧ σ 25 k = f ∧ σ 26 k = e then k else spF σ t f e (k + 1) d
def spS (σ : fG2) (t f e : Int) : Int := spF σ t f e 0 (σ 22 0).toNat
theorem spF_ok (t f e : Int) : ∀ d k : Nat, spF σ t f e k d = -1 ∨ ∃ i : Nat, spF σ t f e k d = i ∧ k ≤ i ∧ i < k + d ∧ σ 23 i = t ∧ σ 25 i = f ∧ σ 26 i = e := by
  intro d; induction d with
  | zero => intro k; exact Or.inl rfl
  | succ d ih =>
    intro k
    simp only [spF]
    split
    · rename_i c; exact Or.inr ⟨k, rfl, by omega, by omega, c⟩
    · rcases ih (k + 1) with z | ⟨j, z1, z2, z3, z4⟩
      · exact Or.inl z
      · exact Or.inr ⟨j, z1, by omega, by omega, z4⟩
theorem spS_ok (hP : okP σ) (t f e : Int) : spS σ t f e = -1 ∨ ∃ i : Nat, spS σ t f e = i ∧ (i : Int) < σ 22 0 ∧ i < 8 ∧ σ 23 i = t ∧ σ 25 i = f ∧ σ 26 i = e := by
  have q1 := hP.1; have q2 := hP.2.1
  rcases spF_ok (σ := σ) t f e (σ 22 0).toNat 0 with z | ⟨i, z1, z2, z3, z4⟩
  · exact Or.inl z
  · exact Or.inr ⟨i, z1, by omega, by omega, z4⟩
theorem spS_c {t f e : Int} (h : eqC σ τ) : spS τ t f e = spS σ t f e := by
  have : ∀ d k, spF τ t f e k d = spF σ t f e k d := by
    intro d; induction d with
    | zero => intro k; rfl
    | succ d ih => intro k; simp only [spF, ih, h 23 _ (by decide) (by decide), h 25 _ (by decide) (by decide), h 26 _ (by decide) (by decide)]
  unfold spS; rw [this, h 22 _ (by decide) (by decide)]
theorem sp_spanOf (h : RM F S m A σ) (hB : okB σ) (hP : okP σ) {t f e : Int} (ht : i32 t) (hf : i32 f) (he : i32 e) {post} (hp : post (iI (spS σ t f e))) : wp_X4_spanOf S m (iI t) (iI f) (iI e) post := by
  have q1 := hP.1; have q2 := hP.2.1
  have t1 := ht.1; have t2 := ht.2; have f1 := hf.1; have f2 := hf.2; have e1 := he.1; have e2 := he.2
  have key : ∀ d k : Nat, (k + d : Int) = σ 22 0 → spF σ t f e k d = spS σ t f e → wB_X4_spanOf_3 S post m (iI t) (iI f) (iI e) (d + 1) (iI k) := by
    intro d; induction d with
    | zero =>
      intro k hk hx
      simp only [wB_X4_spanOf_3]
      simp (disch := first | decide | omega) only [h.s, h.mm, iI_le, true_and]
      refine ⟨fun _ => ?_, fun c => absurd c (by omega)⟩
      rw [← hx] at hp; exact hp
    | succ d ih =>
      intro k hk hx
      have b1 := hB 23 k; have b2 := hB 25 k; have b3 := hB 26 k
      simp only [spF] at hx
      have go : ¬ (σ 23 k = t ∧ σ 25 k = f ∧ σ 26 k = e) → wB_X4_spanOf_3 S post m (iI t) (iI f) (iI e) (d + 1) (iI (k + 1)) := by
        intro c
        rw [if_neg c] at hx
        exact ih (k + 1) (by omega) hx
      rw [wB_X4_spanOf_3]
      simp (disch := first | decide | omega) only [h.s, h.mm, h.R, h.Np, h.kI, h.aP, iI_le, iI_in, iI_nat, iI_1, iI_eq, iI_add, Option.some.injEq, exists_eq_left', true_and, Int.toNat_natCast]
      refine ⟨fun c => absurd c (by omega), fun c => ⟨by omega, ?_, fun c1 => ⟨by omega, ?_, fun c2 => ⟨by omega, ?_, fun c3 => ?_⟩⟩⟩⟩
      · rintro c1 _ rfl; exact go (fun z => c1 z.1)
      · rintro c2 _ rfl; exact go (fun z => c2 z.2.1)
      · rintro c3 _ rfl; exact go (fun z => c3 z.2.2)
      · rw [if_pos ⟨c1, c2, c3⟩] at hx; rw [← hx] at hp; exact hp
  exact ⟨_, key (σ 22 0).toNat 0 (by omega) rfl⟩
def cdRes (σ : fG2) (t u f e : Int) : Int := if 0 ≤ t ∧ t < σ 4 0 then (if (1 ≤ u ∧ u ≤ 60) ∧ (0 ≤ f ∧ f ≤ 9999) ∧ ¬ e ≤ f ∧ ¬ 9999 < e ∧ (spS σ t f e = -1 ∨ σ 24 (spS σ t f e).toNat + u ≤ 200) then (if kidsN σ t = 0 then (if σ 22 0 = 8 ∧ spS σ t f e = -1 then 4 else 0) else 3) else 2) else 1
theorem sp_resFault (h : RM F S m A σ) (hi : inv σ) (hB : okB σ) {t u f e : Int} (ht : i32 t) (hu : i32 u) (hf : i32 f) (he : i32 e) {post} (hp : post (iI (cdRes σ t u f e))) : wp_X4_reserveFault S m (iI t) (iI u) (iI f) (iI e) post := by
  obtain ⟨q1, q2, q3, q4⟩ := hi.B4
  have p1 := hi.P.1; have p2 := hi.P.2.1
  have f1 := hf.1; have f2 := hf.2; have e1 := he.1; have e2 := he.2
  unfold cdRes at hp
  unfold wp_X4_reserveFault
  rw [h.mm, true_and]
  refine sp_isTeam2 h hi.T ht (fun c1 => ⟨fun _ => ?_, fun z => absurd z (by decide)⟩) (fun c1 => ⟨fun z => absurd rfl z, fun _ => ?_⟩)
  · rw [if_pos c1] at hp
    refine sp_spanOf h hB hi.P ht hf he ?_
    have sok := spS_ok hi.P t f e
    obtain ⟨k, hk⟩ : ∃ k, k = spS σ t f e := ⟨_, rfl⟩
    rw [← hk] at hp sok ⊢
    have bk : -1 ≤ k ∧ k < 8 := by rcases sok with z | ⟨i, z, -, z2, -⟩ <;> omega
    have n2 : ¬ ((1 ≤ u ∧ u ≤ 60) ∧ (0 ≤ f ∧ f ≤ 9999) ∧ ¬ e ≤ f ∧ ¬ 9999 < e ∧ (k = -1 ∨ σ 24 k.toNat + u ≤ 200)) → post (2 : Int32) := fun z => by rw [if_neg z] at hp; exact hp
    have y2 : ((1 ≤ u ∧ u ≤ 60) ∧ (0 ≤ f ∧ f ≤ 9999) ∧ ¬ e ≤ f ∧ ¬ 9999 < e ∧ (k = -1 ∨ σ 24 k.toNat + u ≤ 200)) → wB_X4_reserveFault_78 S post m (iI t) (iI u) (iI f) (iI e) (iI k) := by
      intro z
      rw [if_pos z] at hp
      unfold wB_X4_reserveFault_78
      rw [h.mm, true_and]
      refine sp_isLeaf2 h hi.T (by omega) (fun c => ⟨fun _ => ?_, fun z => absurd z (by decide)⟩) (fun c => ⟨fun z => absurd rfl z, fun _ => ?_⟩)
      · rw [if_pos c] at hp
        simp (disch := first | decide | omega) only [h.s, show (8 : Int32) = iI 8 from rfl, iI_m1, iI_eq]
        refine ⟨fun d1 => ?_, fun d1 => ⟨fun d2 => ?_, fun d2 => ?_⟩⟩
        · rw [if_neg (fun y => d1 y.1)] at hp; exact hp
        · rw [if_neg (fun y => d2 y.2)] at hp; exact hp
        · rw [if_pos ⟨d1, d2⟩] at hp; exact hp
      · rw [if_neg c] at hp; exact hp
    refine sp_in2 (b := 1) (c := 60) hu (by omega) (by omega) (fun c2 => ⟨fun z => absurd z (by decide), fun _ => ?_⟩) (fun c2 => ⟨fun _ => n2 (fun z => c2 z.1), fun z => absurd rfl z⟩)
    refine sp_in2 (b := 0) (c := 9999) hf (by omega) (by omega) (fun c3 => ⟨fun z => absurd z (by decide), fun _ => ?_⟩) (fun c3 => ⟨fun _ => n2 (fun z => c3 z.2.1), fun z => absurd rfl z⟩)
    simp (disch := first | decide | omega) only [iI_le, iI_lt, iI_m1, iI_eq, show (9999 : Int32) = iI 9999 from rfl]
    refine ⟨fun c4 => n2 (fun z => z.2.2.1 c4), fun c4 => ⟨fun c5 => n2 (fun z => z.2.2.2.1 c5), fun c5 => ⟨fun c6 => y2 ⟨c2, c3, c4, c5, Or.inl c6⟩, fun c6 => ?_⟩⟩⟩
    obtain ⟨i, rfl, i1, i2, -⟩ := sok.resolve_left c6
    have b24 := hi.P.2.2 i
    simp (disch := first | decide | omega) only [h.mm, h.R, h.Np, h.kI, h.aP, iI_in, iI_nat, iI_add, iI_le, show (200 : Int32) = iI 200 from rfl, Option.some.injEq, exists_eq_left', true_and, Int.toNat_natCast]
    simp only [Int.toNat_natCast] at y2 n2
    exact ⟨by omega, fun c7 => y2 ⟨c2, c3, c4, c5, Or.inr c7⟩, fun c7 => n2 (fun z => z.2.2.2.2.elim c6 c7)⟩
  · rw [if_neg c1] at hp; exact hp
theorem cdRes_b {t u f e : Int} (h : cdRes σ t u f e ≠ 0) : 0 < cdRes σ t u f e ∧ cdRes σ t u f e ≤ 100 := by
  have : cdRes σ t u f e = 0 ∨ cdRes σ t u f e = 1 ∨ cdRes σ t u f e = 2 ∨ cdRes σ t u f e = 3 ∨ cdRes σ t u f e = 4 := by
    unfold cdRes; split
    · split
      · split
        · split
          · omega
          · omega
        · omega
      · omega
    · omega
  omega
theorem cdRes_0 {t u f e : Int} (h : cdRes σ t u f e = 0) : (0 ≤ t ∧ t < σ 4 0) ∧ ((1 ≤ u ∧ u ≤ 60) ∧ (0 ≤ f ∧ f ≤ 9999) ∧ ¬ e ≤ f ∧ ¬ 9999 < e ∧ (spS σ t f e = -1 ∨ σ 24 (spS σ t f e).toNat + u ≤ 200)) ∧ kidsN σ t = 0 ∧ ¬ (σ 22 0 = 8 ∧ spS σ t f e = -1) := by
  unfold cdRes at h
  by_cases c1 : 0 ≤ t ∧ t < σ 4 0
  · rw [if_pos c1] at h
    refine ⟨c1, ?_⟩
    split at h
    · rename_i c2
      refine ⟨c2, ?_⟩
      split at h
      · rename_i c3
        refine ⟨c3, ?_⟩
        split at h
        · exact absurd h (by decide)
        · assumption
      · exact absurd h (by decide)
    · exact absurd h (by decide)
  · rw [if_neg c1] at h; exact absurd h (by decide)
def resA (σ : fG2) (t f e : Int) : fG2 := up (up (up (up (up σ 23 (σ 22 0).toNat t) 24 (σ 22 0).toNat 0) 25 (σ 22 0).toNat f) 26 (σ 22 0).toNat e) 22 0 (σ 22 0 + 1)
def resB (σ : fG2) (t : Nat) (k : Nat) (u : Int) : fG2 := up (up σ 24 k (σ 24 k + u)) 9 t 1
/-- where the span is, or will be -/
def resK (σ : fG2) (t f e : Int) : Nat := if spS σ t f e = -1 then (σ 22 0).toNat else (spS σ t f e).toNat
def resS (σ : fG2) (t u f e : Int) : fG2 := if spS σ t f e = -1 then resB (resA σ t f e) t.toNat (σ 22 0).toNat u else resB σ t.toNat (spS σ t f e).toNat u
theorem eqC.rA (h : eqC σ τ) (t f e : Int) : eqC (resA σ t f e) (resA τ t f e) := by
  unfold resA; rw [h 22 _ (by decide) (by decide)]; exact ((((h.up).up).up).up).up
theorem eqC.rB (h : eqC σ τ) (t k : Nat) (u : Int) : eqC (resB σ t k u) (resB τ t k u) := by
  unfold resB; rw [h 24 _ (by decide) (by decide)]; exact (h.up).up
theorem rf_reserve {c : Int} (hi : iS σ) (hB : okB σ) (hS : okS σ) (hC : okC c σ) (hc : c + 2000 < 100000000) (h : RM F S m A σ) {t u f e : Int} (ht : i32 t) (hu : i32 u) (hf : i32 f) (he : i32 e) {post : Int32 → fMS → Nat → Prop}
    (hn : cdRes σ t u f e = 0 → iS (resS σ t u f e)) (p0 : cdRes σ t u f e = 0 → rP F m n A (svS (resS σ t u f e)) 0 (resS σ t u f e 24 (resK σ t f e)) post) (p1 : cdRes σ t u f e ≠ 0 → rP F m n A σ (cdRes σ t u f e) 0 post) : wp_X4_reserve S n m (iI t) (iI u) (iI f) (iI e) post := by
  obtain ⟨q1, q2, q3, q4⟩ := hi.1.B4
  have r1 := hi.1.P.1; have r2 := hi.1.P.2.1
  have f1 := hf.1; have f2 := hf.2; have e1 := he.1; have e2 := he.2
  unfold wp_X4_reserve
  rw [h.mm, true_and]
  refine sp_resFault h hi.1 hB ht hu hf he ?_
  by_cases cd : cdRes σ t u f e = 0
  · obtain ⟨c1, ⟨c2, c3, c4, c5, c6⟩, c7, c8⟩ := cdRes_0 cd
    rw [cd]
    refine sp_go0 h (fun S' h' => ⟨fun _ => ⟨h'.m, ?_⟩, fun z => absurd z (by decide)⟩)
    have he0 : eqC σ (up σ 0 0 0) := eqC.up0 (Or.inr rfl)
    have hB0 : okB (up σ 0 0 0) := hB.w (by omega)
    have hS0 : okS (up σ 0 0 0) := hS.u0 (by decide) (by decide) (by decide)
    have hi0 := inv_u0 (c := 0) hi.1
    refine sp_spanOf h' hB0 hi0.P ht hf he ?_
    rw [spS_c he0]
    have sok := spS_ok hi.1.P t f e
    have hn := hn cd
    have p0 := p0 cd
    have bk : -1 ≤ spS σ t f e ∧ spS σ t f e < 8 := by rcases sok with z | ⟨i, z, -, z2, -⟩ <;> omega
    obtain ⟨l, rfl⟩ : ∃ l : Nat, t = l := ⟨t.toNat, by omega⟩
    have rb : ∀ (k : Nat) (S2 : fMS) (τ : fG2) (ρ : fG2), k < 8 → RM F S2 m A τ → eqC ρ τ → τ 0 0 = 0 → okB τ → okS τ → okC c ρ → resS σ l u f e = resB ρ l k u → resK σ l f e = k → 0 ≤ ρ 24 k → ρ 24 k + u ≤ 300 → wB_X4_reserve_83 post m (iI l) (iI u) (iI f) (iI e) S2 n (iI k) := by
      intro k S2 τ ρ hk h2 he2 h0 hB2 hS2 hC2 hr hrk hz hz2
      have e24 : τ 24 k = ρ 24 k := he2 24 k (by decide) (by decide)
      have w1 := h2.wA 24 k (τ 24 k + u) rfl (by decide)
      have w2 := w1.wA 9 l 1 rfl (by decide)
      have e2 : up (up τ 24 k (τ 24 k + u)) 9 l 1 24 k = τ 24 k + u := by rw [up_ne (by decide), up_at]
      unfold wB_X4_reserve_83
      simp (disch := first | decide | omega) only [h2.mm, h2.R, h2.Np, h2.kI, h2.aP, w1.mm, w1.R, w1.Nt, w1.kB, w2.mm, w2.R, w2.Np, w2.kI, w2.aP, iI_1, vpn1, iI_in, iI_nat, iI_add, true_and, Option.some.injEq, exists_eq_left', Int.toNat_natCast, e2]
      refine ⟨by omega, by omega, by omega, by omega, ?_⟩
      rintro _ rfl
      rw [hr] at hn p0
      rw [hrk] at p0
      have ev : resB ρ l k u 24 k = τ 24 k + u := by unfold resB; rw [up_ne (by decide), up_at, e24]
      rw [ev] at p0
      refine rP_srv w2 (he2.rB l k u) (by rw [up_ne (by decide), up_ne (by decide)]; exact h0) hn ((hB2.w (by omega)).w (by omega)) ((hS2.u0 (by decide) (by decide) (by decide)).u0 (by decide) (by decide) (by decide)) ((hC2.u (by decide) (by decide)).u (by decide) (by decide)) hc (fun S3 τ3 g1 g2 g3 g4 g5 => p0 S3 τ3 g1 g2 g3 g4 g5)
    by_cases d : spS σ l f e = -1
    · rw [d]
      refine ⟨fun z => absurd rfl z, fun _ => ?_⟩
      obtain ⟨N, hN⟩ : ∃ N : Nat, σ 22 0 = N := ⟨(σ 22 0).toNat, by omega⟩
      have e22 : up σ 0 0 0 22 0 = N := by rw [up_ne (by decide)]; exact hN
      have h1 := h'.wA 23 N l rfl (by decide)
      have h2 := h1.wA 24 N 0 rfl (by decide)
      have h3 := h2.wA 25 N f rfl (by decide)
      have h4 := h3.wA 26 N e rfl (by decide)
      have h5 := h4.wS 22 ((N : Int) + 1) rfl
      have N8 : N < 8 := by
        have : ¬ (σ 22 0 = 8) := fun z => c8 ⟨z, d⟩
        omega
      simp (disch := first | decide | omega) only [h'.s, e22]
      rintro _ rfl
      simp (disch := first | decide | omega) only [h'.mm, h'.R, h'.Np, h'.kI, h1.mm, h1.R, h1.Np, h1.kI, h2.mm, h2.R, h2.Np, h2.kI, h3.mm, h3.R, h3.Np, h3.kI, h4.s, iI_0, iI_1, iI_in, iI_nat, iI_add, true_and, Option.some.injEq, exists_eq_left', Int.toNat_natCast, up_ne, e22, hN]
      refine ⟨by omega, by omega, by omega, by omega, ?_⟩
      have heA : eqC (resA σ l f e) (up (up (up (up (up (up σ 0 0 0) 23 N l) 24 N 0) 25 N f) 26 N e) 22 0 ((N : Int) + 1)) := by
        unfold resA; rw [hN]; simp only [Int.toNat_natCast]; exact (((((he0.up).up).up).up).up)
      have z24 : resA σ l f e 24 N = 0 := by unfold resA; rw [hN]; simp only [Int.toNat_natCast]; rw [up_ne (by decide), up_ne (by decide), up_ne (by decide), up_at]
      refine rb N _ _ (resA σ l f e) N8 h5 heA (by simp (disch := decide) only [up_ne, up_at]) ?_ ?_ ?_ ?_ ?_ (by omega) (by omega)
      · exact (((((hB0.w (by omega)).w (by omega)).w (by omega)).w (by omega)).w (by omega))
      · exact (((((hS0.u0 (by decide) (by decide) (by decide)).u0 (by decide) (by decide) (by decide)).u0 (by decide) (by decide) (by decide)).u0 (by decide) (by decide) (by decide)).u0 (by decide) (by decide) (by decide))
      · unfold resA; exact (((((hC.u (by decide) (by decide)).u (by decide) (by decide)).u (by decide) (by decide)).u (by decide) (by decide)).u (by decide) (by decide))
      · unfold resS; rw [if_pos d, hN]; rfl
      · unfold resK; rw [if_pos d, hN]; rfl
    · obtain ⟨i, z1, z2, z3, -⟩ := sok.resolve_left d
      rw [z1]
      rw [z1] at c6 d
      have b24 := hi.1.P.2.2 i
      refine ⟨fun _ => ?_, fun z => ?_⟩
      · refine rb i S' _ σ z3 h' he0 up_at hB0 hS0 hC ?_ ?_ (by omega) (by omega)
        · unfold resS; rw [z1, if_neg d]; rfl
        · unfold resK; rw [z1, if_neg d]; rfl
      · rw [iI_m1, iI_eq (by omega) (by omega) (by omega) (by omega)] at z
        exact absurd z d
  · exact sp_go1 h (cdRes_b cd) (fun S' h' => ⟨fun z => absurd rfl z, fun _ => (p1 cd).no hB hS (cdRes_b cd) h'⟩)
end
