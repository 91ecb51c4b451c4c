-- ===== the broker's ticks =====
section
variable {P : Nat → Prop} {F S S' : fMS} {x n B out : Nat} {T J V L E E' : Nat → Nat} {ρ ρ' σ τ φ ψ : fG2} {al ln vi ln' vi' : List Nat}
def edA : List Nat → fG2 → fG2
  | [], σ => σ
  | j :: l, σ => edA l (ed1 σ j)
def enA : List Nat → fG2 → Int
  | [], _ => 0
  | j :: l, σ => edC σ j + enA l (ed1 σ j)
theorem ed1_17 {j i : Nat} (h : i ≠ j) : ed1 σ j 17 i = σ 17 i := by
  unfold ed1
  split
  · split
    · rw [lvF_17, if_neg h, up_ne (by decide)]
    · exact up_ne (by decide)
  · rfl
theorem ed1_17x (j i : Nat) (h : ed1 σ j 17 i = 0 ∨ ed1 σ j 17 i = 1) : ed1 σ j 17 i = σ 17 i := by
  by_cases e : i = j
  · subst e
    unfold ed1 at h ⊢
    split at h <;> rename_i c
    · rw [if_pos c]
      split at h <;> rename_i d
      · rw [lvF_17, if_pos rfl] at h; omega
      · rw [if_neg d]; exact up_ne (by decide)
    · rw [if_neg c]
  · exact ed1_17 e
theorem edF_17x : ∀ (d j i : Nat) (σ : fG2), edF j d σ 17 i = 0 ∨ edF j d σ 17 i = 1 → edF j d σ 17 i = σ 17 i := by
  intro d; induction d with
  | zero => intro j i σ _; rfl
  | succ d ih =>
    intro j i σ h
    have h1 := ih (j + 1) i (ed1 σ j) h
    have h2 : edF j (d + 1) σ 17 i = ed1 σ j 17 i := h1
    rw [h2] at h ⊢
    exact ed1_17x j i h
theorem edA_eq : ∀ (d k : Nat) (σ : fG2), edF k d σ = edA ((List.range' k d).filter (lvB σ)) σ ∧ edN k d σ = enA ((List.range' k d).filter (lvB σ)) σ := by
  intro d; induction d with
  | zero => intro k σ; exact ⟨rfl, rfl⟩
  | succ d ih =>
    intro k σ
    have h := ih (k + 1) (ed1 σ k)
    have e : (List.range' (k + 1) d).filter (lvB (ed1 σ k)) = (List.range' (k + 1) d).filter (lvB σ) := by
      refine List.filter_congr (fun i hi => ?_)
      have := List.mem_range'_1.mp hi
      unfold lvB; rw [ed1_17 (by omega)]
    rw [e] at h
    rw [List.range'_succ]
    simp only [edF, edN]
    rw [h.1, h.2]
    by_cases c : σ 17 k = 0 ∨ σ 17 k = 1
    · rw [List.filter_cons_of_pos (by unfold lvB; rw [decide_eq_true_eq]; exact c)]; exact ⟨rfl, rfl⟩
    · rw [List.filter_cons_of_neg (by unfold lvB; rw [decide_eq_true_eq]; exact c)]
      have e1 : ed1 σ k = σ := by unfold ed1; rw [if_neg (fun z => c (Or.inr z))]
      have e2 : edC σ k = 0 := by unfold edC; rw [if_neg (fun z => c (Or.inr z.1))]
      rw [e1, e2, Int.zero_add]; exact ⟨rfl, rfl⟩
theorem cx_endJobs (hi : iS ρ) (hB : okB ρ) (hR : okR ρ) (hal : al = alv ρ) (h : RB P F S x T J V L E ρ al ln vi) (hn : rmB S E n B) {post : Int32 → fMS → Nat → Prop}
    (hp : ∀ S', RB P F S' x T J V L E (edF 0 (ρ 12 0).toNat ρ) (alv (edF 0 (ρ 12 0).toNat ρ)) ln vi → rmB S' E n B → post (iI (edN 0 (ρ 12 0).toNat ρ)) S' n) : wp_X3_endJobs S n x post := by
  have ea := edA_eq (ρ 12 0).toNat 0 ρ
  have ef : (List.range' 0 (ρ 12 0).toNat).filter (lvB ρ) = al := by rw [hal, ← List.range_eq_range']; rfl
  rw [ef] at ea
  obtain ⟨φ, hφ⟩ : ∃ φ, φ = edF 0 (ρ 12 0).toNat ρ := ⟨_, rfl⟩
  obtain ⟨N, hN⟩ : ∃ N, N = edN 0 (ρ 12 0).toNat ρ := ⟨_, rfl⟩
  rw [← hφ, ← hN] at hp ea
  have alm : ∀ j ∈ al, (j : Int) < ρ 12 0 := fun j hj => by rw [hal] at hj; exact ((alv_mem hi.1.J).mp hj).1
  have all : al.length ≤ 40 := by rw [hal]; exact alv_l hi.1
  have key : ∀ (d i : Nat) (u : Int) (τ : fG2) (S : fMS), i + d = al.length → iS τ → okB τ → okR τ → τ 12 0 = ρ 12 0 → RB P F S x T J V L E τ al ln vi → rmB S E n B → 0 ≤ u → u ≤ i → edA (al.drop i) τ = φ → u + enA (al.drop i) τ = N → wB_X3_endJobs_4 post x (d + 1) S n (iI u) (iI i) := by
    intro d; induction d with
    | zero =>
      intro i u τ S hid hi' hB' hR' e12 h hn u0 u1 ha hb
      rw [List.drop_eq_nil_of_le (by omega)] at ha hb
      simp only [edA, enA, Int.add_zero] at ha hb
      rw [wB_X3_endJobs_4]
      simp (disch := omega) only [h.X, h.x3, Option.some.injEq, exists_eq_left', h.k3, true_and, h.s3, iI_le]
      refine ⟨fun _ => ?_, fun c => absurd c (by omega)⟩
      refine cx_forget h hn (fun j hj => by rw [e12]; exact alm j hj) all (fun S1 h1 hn1 => ?_)
      have e1 : al.filter (lvB τ) = alv τ := by
        rw [hal]
        refine alv_filter e12 (fun j hj => ?_)
        have e2 : τ = edF 0 (ρ 12 0).toNat ρ := ha.trans hφ
        rw [e2] at hj
        rw [← edF_17x _ _ _ _ hj]; exact hj
      rw [e1, ha] at h1
      rw [hb]
      exact hp S1 h1 hn1
    | succ d ih =>
      intro i u τ S hid hi' hB' hR' e12 h hn u0 u1 ha hb
      have hdr : al.drop i = al[i] :: al.drop (i + 1) := List.drop_eq_getElem_cons (by omega)
      have hgd : al.getD i 0 = al[i] := by rw [List.getD_eq_getElem?_getD, List.getElem?_eq_getElem (by omega)]; rfl
      obtain ⟨j, hj⟩ : ∃ j, j = al[i] := ⟨_, rfl⟩
      rw [← hj] at hdr hgd
      have jn := alm j (by rw [hj]; exact List.getElem_mem _)
      have jn' : (j : Int) < τ 12 0 := by omega
      rw [hdr] at ha hb
      simp only [edA, enA] at ha hb
      have sb := stV_b (τ 17 j)
      have cb : 0 ≤ edC τ j ∧ edC τ j ≤ 1 := by unfold edC; split <;> omega
      have go : ∀ (v : Int) (S1 : fMS), v = edC τ j → RB P F S1 x T J V L E (ed1 τ j) al ln vi → rmB S1 E n B → wB_X3_endJobs_4 post x (d + 1) S1 n (iI (u + v)) (iI ((i : Int) + 1)) := by
        intro v S1 hv h1 hn1
        exact ih (i + 1) (u + v) (ed1 τ j) S1 (by omega) (ed1_iS hi' jn') (ed1_B hi' hB' hR' jn') (ed1_R hR') ((ed1_ne (by decide) (by decide) (by decide) (by decide) (by decide)).trans e12) h1 hn1 (by omega) (by omega) ha (by omega)
      rw [wB_X3_endJobs_4]
      simp (disch := omega) only [h.X, h.x3, Option.some.injEq, exists_eq_left', h.k3, true_and, h.s3, iI_le]
      refine ⟨fun c => absurd c (by omega), fun _ => ?_⟩
      rw [h.g3 i (by omega), hgd]
      refine ⟨J j, rfl, of_eq_true (h.Jk j jn'), ?_⟩
      rw [h.j4 j jn', h.j5 j jn']
      have e1 : (iI (stV (τ 17 j)) = (114 : Int32)) = (τ 17 j = 1) := by
        rw [show (114 : Int32) = iI 114 from rfl, iI_eq (by omega) (by omega) (by omega) (by omega)]
        exact propext stV_r
      rw [e1]
      have e9 : iI (i : Int) + 1 = iI ((i : Int) + 1) := iI_add i 1
      refine ⟨fun c => ?_, fun c => ?_⟩
      · rintro _ rfl
        have e : ed1 τ j = τ := by unfold ed1; rw [if_neg c]
        have ec : (0 : Int) = edC τ j := by unfold edC; rw [if_neg (fun z => c z.1)]
        have := go 0 S ec (by rw [e]; exact h) hn
        rw [e9]; rw [Int.add_zero] at this; exact this
      · have r16 := hR' j jn' c
        have hw := h.wj5 j (τ 16 j - 1) jn'
        have e8 : iI (τ 16 j) - 1 = iI (τ 16 j - 1) := iI_sub _ 1
        rw [e8]
        have e7 : up τ 16 j (τ 16 j - 1) 16 j = τ 16 j - 1 := up_at
        have e12' : up τ 16 j (τ 16 j - 1) 12 0 = τ 12 0 := up_ne (by decide)
        rw [hw.j5 j (by rw [e12']; exact jn'), e7]
        have e3 : ((0 : Int32) < iI (τ 16 j - 1)) = (0 < τ 16 j - 1) := iI_lt (a := 0) (by omega) (by omega) (by omega) (by omega)
        rw [e3]
        refine ⟨fun c2 => ?_, fun c2 => ?_⟩
        · rintro _ rfl
          have e : ed1 τ j = up τ 16 j (τ 16 j - 1) := by unfold ed1; rw [if_pos c, if_neg (by omega)]
          have ec : (0 : Int) = edC τ j := by unfold edC; rw [if_neg (fun z => by have := z.2; omega)]
          have := go 0 (wI S (J j) 5 (iI (τ 16 j - 1))) ec (by rw [e]; exact hw) (hn.w rfl)
          rw [e9]; rw [Int.add_zero] at this; exact this
        · have hi2 : iS (up τ 16 j (τ 16 j - 1)) := up16_iS hi'
          refine cx_give hi2.1.T hi2.1.J hw (hn.w rfl) (by rw [e12']; exact jn') (fun S1 h1 hn1 => ?_)
          have e13 : htF (up τ 16 j (τ 16 j - 1)) j 12 0 = τ 12 0 := by rw [htF_g, gF_ne (by decide) (by decide) (by decide)]; exact up_ne (by decide)
          have hw2 := h1.wSt j 2 (by rw [e13]; exact jn')
          refine ⟨of_eq_true (h1.Jk j (by rw [e13]; exact jn')), ?_⟩
          rintro _ rfl _ rfl
          have e : ed1 τ j = lvF (up τ 16 j (τ 16 j - 1)) j 2 := by unfold ed1; rw [if_pos c, if_pos (by omega)]
          have ec : (1 : Int) = edC τ j := by unfold edC; rw [if_pos ⟨c, by omega⟩]
          have c17 : up τ 16 j (τ 16 j - 1) 17 j = 1 := by rw [up_ne (by decide)]; exact c
          have h3 : RB P F (wI S1 (J j) 4 (iI (stV 2))) x T J V L E (ed1 τ j) al ln vi := by
            rw [e]; exact hw2.cg (fun g k _ h11 _ h21 _ _ _ _ _ _ => lv_ht c17 h11 h21)
          have := go 1 _ ec h3 (hn1.w rfl)
          rw [e9, iI_1, iI_add]; exact this
  refine ⟨_, key al.length 0 0 ρ S (by omega) hi hB hR rfl h hn (by omega) (by omega) ?_ ?_⟩
  · rw [List.drop_zero]; exact ea.1.symm
  · rw [List.drop_zero, Int.zero_add]; exact ea.2.symm
/-- what stands above leaves is never used -/
def okN (σ : fG2) : Prop := ∀ k : Nat, (k : Int) < σ 4 0 → kidsN σ k ≠ 0 → σ 8 k = 0
theorem eqC.N (h : eqC σ τ) (hN : okN σ) : okN τ := by
  unfold okN; rw [h.K.kids]; simp only [h 4 _ (by decide) (by decide), h 8 _ (by decide) (by decide)]; exact hN
theorem cx_changeUse (hi : inv τ) (hN : okN τ) (hQ : (0 ≤ τ 1 0 ∧ ∀ k, τ 8 k ≤ 3000 * τ 1 0) ∧ (1 ≤ τ 3 0 ∧ τ 3 0 ≤ 100)) (hq : τ 1 0 ≤ 20000) (h : RB P F S x T J V L E τ al ln vi) (hn : rmB S E n B) {post : fMS → Nat → Prop}
    (hp : ∀ S', RB P F S' x T J V L E (usS τ) al ln vi → rmB S' E n B → post S' n) : wp_X3_changeUse S n x post := by
  have q1 := hi.T.1; have q2 := hi.T.2.1
  have ne : ∀ (t : Nat) {g k : Nat}, g ≠ 8 → usK τ t g k = τ g k := fun t g k h => if_neg (fun z => h z.1)
  have hd0 : 0 ≤ τ 1 0 / τ 3 0 := Int.ediv_nonneg hQ.1.1 (by omega)
  have hd1 : τ 1 0 / τ 3 0 * τ 3 0 ≤ τ 1 0 := Int.ediv_mul_le _ (by omega)
  have hd2 : 0 ≤ τ 1 0 / τ 3 0 * τ 3 0 := Int.mul_nonneg hd0 (by omega)
  have hmod : τ 1 0 % τ 3 0 = τ 1 0 - τ 1 0 / τ 3 0 * τ 3 0 := by rw [Int.emod_def, Int.mul_comm]
  have key : ∀ (hf : Int), (hf = 0 ∨ hf = 1) → (hf = 1 ↔ τ 1 0 % τ 3 0 = 0) → ∀ (d t : Nat) (S : fMS), (t + d : Int) = τ 4 0 → RB P F S x T J V L E (usK τ t) al ln vi → rmB S E n B → wB_X3_changeUse_27 post x (d + 1) S n (iI hf) (iI t) := by
    intro hf hf01 hfm d; induction d with
    | zero =>
      intro t S ht h hn
      have e4 : usK τ t 4 0 = τ 4 0 := ne t (by decide)
      rw [wB_X3_changeUse_27]
      simp (disch := omega) only [h.X, h.x0, Option.some.injEq, exists_eq_left', h.k0, true_and, h.s0 (by omega), e4, iI_le]
      refine ⟨fun _ => ?_, fun c => absurd c (by omega)⟩
      have e : usK τ t = usS τ := by unfold usS; rw [show (τ 4 0).toNat = t by omega]
      rw [e] at h
      exact hp S h hn
    | succ d ih =>
      intro t S ht h hn
      have e4 : usK τ t 4 0 = τ 4 0 := ne t (by decide)
      have tn : (t : Int) < τ 4 0 := by omega
      have tn' : (t : Int) < usK τ t 4 0 := by omega
      have hT' : okT (usK τ t) := by unfold okT; simp (disch := decide) only [ne]; exact hi.T
      have e8 : usK τ t 8 t = τ 8 t := if_neg (by omega)
      have e10 : usK τ t 10 t = τ 10 t := ne t (by decide)
      have ek : kidsN (usK τ t) = kidsN τ := kids_c (fun k => ne t (by decide)) (fun k => ne t (by decide))
      have b10 := hi.U t; have bv := hi.V t
      have b8 := hQ.1.2 t
      have h3 : 3000 * τ 1 0 ≤ 3000 * 20000 := Int.mul_le_mul_of_nonneg_left hq (by omega)
      have ww := usK_s (σ := τ) t
      have e9 : iI (t : Int) + 1 = iI ((t : Int) + 1) := iI_add t 1
      rw [wB_X3_changeUse_27]
      simp (disch := omega) only [h.X, h.x0, Option.some.injEq, exists_eq_left', h.k0, true_and, h.s0 (by omega), e4, iI_le]
      refine ⟨fun c => absurd c (by omega), fun _ => ?_⟩
      rw [h.g0 t tn']
      refine ⟨T t, rfl, of_eq_true (h.Tk t tn'), ?_⟩
      refine cx_isLeaf hT' h tn' (fun c => ⟨fun z => absurd z (by decide), fun _ => ?_⟩) (fun c => ⟨fun _ => ?_, fun z => absurd rfl z⟩)
      · rw [ek] at c
        have ez : (if kidsN τ t = 0 then τ 10 t else 0) = τ 10 t := if_pos c
        rw [h.tu t tn', h.t6 t tn', e8, e10, iI_j (by omega) (by omega), jJ_add]
        have w := h.wU t (τ 8 t + τ 10 t) tn'
        have e4' : up (usK τ t) 8 t (τ 8 t + τ 10 t) 4 0 = τ 4 0 := by rw [up_ne (by decide)]; exact e4
        have e88 : up (usK τ t) 8 t (τ 8 t + τ 10 t) 8 t = τ 8 t + τ 10 t := up_at
        refine ⟨fun z => ?_, fun z => ?_⟩
        · rintro _ rfl
          have hf0 : hf ≠ 1 := by
            rcases hf01 with e | e
            · omega
            · rw [e] at z; exact absurd z (by decide)
          have hu : us1 τ t = τ 8 t + τ 10 t := by unfold us1; rw [if_neg (fun y => hf0 (hfm.mpr y)), ez]
          rw [hu] at ww; rw [ww] at w
          rw [e9]
          exact ih (t + 1) _ (by omega) w (hn.w rfl)
        · rw [w.tu t (by rw [e4']; exact tn), e88, jJ_div2 (by omega) (by omega)]
          rintro _ rfl
          have hf1 : hf = 1 := by
            rcases hf01 with e | e
            · rw [e] at z; exact absurd rfl z
            · exact e
          have hu : us1 τ t = (τ 8 t + τ 10 t) / 2 := by unfold us1; rw [if_pos (hfm.mp hf1), ez]
          have w2 := w.wU t ((τ 8 t + τ 10 t) / 2) (by rw [e4']; exact tn)
          rw [up_up] at w2
          rw [hu] at ww; rw [ww] at w2
          rw [e9]
          exact ih (t + 1) _ (by omega) w2 ((hn.w rfl).w rfl)
      · rintro _ rfl
        rw [ek] at c
        have e0 := hN t tn c
        have hu : us1 τ t = 0 := by
          unfold us1; rw [if_neg c, e0]
          split <;> decide
        have w : usK τ (t + 1) = usK τ t := by
          rw [← ww, hu]
          funext g k; unfold up
          split
          · rename_i z; rw [z.1, z.2, e8, e0]
          · rfl
        rw [← w] at h
        rw [e9]
        exact ih (t + 1) S (by omega) h hn
  have h0 : RB P F S x T J V L E (usK τ 0) al ln vi := by rw [usK_0]; exact h
  unfold wp_X3_changeUse
  refine ⟨h.1.1, ?_⟩
  rw [h.x8, h.x9]
  have c1 : (iI (τ 3 0) ≤ (0 : Int32)) = (τ 3 0 ≤ 0) := iI_le (b := 0) (by omega) (by omega) (by omega) (by omega)
  have c2 : (iI (τ 3 0) = (0 : Int32)) = (τ 3 0 = 0) := iI_eq (b := 0) (by omega) (by omega) (by omega) (by omega)
  rw [c1, c2]
  refine ⟨fun c => absurd c (by omega), fun _ => ⟨by omega, ?_⟩⟩
  rw [iI_div (by omega) (by omega) (by omega) (by omega), iI_mul, iI_sub, ← hmod]
  have m0 := Int.emod_nonneg (τ 1 0) (b := τ 3 0) (by omega)
  have m1 := Int.emod_lt_of_pos (τ 1 0) (b := τ 3 0) (by omega)
  have c3 : (iI (τ 1 0 % τ 3 0) = (0 : Int32)) = (τ 1 0 % τ 3 0 = 0) := iI_eq (b := 0) (by omega) (by omega) (by omega) (by omega)
  rw [c3]
  refine ⟨fun c => ⟨_, key 0 (by omega) ⟨fun z => absurd z (by decide), fun z => absurd z c⟩ (τ 4 0).toNat 0 S (by omega) h0 hn⟩, fun c => ⟨_, key 1 (by omega) ⟨fun _ => c, fun _ => rfl⟩ (τ 4 0).toNat 0 S (by omega) h0 hn⟩⟩
end
