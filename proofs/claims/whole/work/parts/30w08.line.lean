section
variable {ρ σ : fG2}
/-- the first job of t in a list -/
def flF (ρ : fG2) (t : Int) : List Nat → Int
  | [] => -1
  | j :: l => if ρ 13 j = t ∧ ρ 17 j = 0 then j else flF ρ t l
theorem flF_fst (t : Int) : ∀ d k : Nat, flF ρ t ((List.range' k d).filter (fun j => decide (ρ 17 j = 0 ∨ ρ 17 j = 1))) = fstF ρ t k d := by
  intro d; induction d with
  | zero => intro k; rfl
  | succ d ih =>
    intro k
    rw [List.range'_succ, List.filter_cons]
    simp only [fstF]
    by_cases c : ρ 17 k = 0 ∨ ρ 17 k = 1
    · rw [if_pos (c := decide (ρ 17 k = 0 ∨ ρ 17 k = 1) = true) (by rw [decide_eq_true_iff]; exact c)]
      simp only [flF]
      rw [ih]
    · rw [if_neg (c := decide (ρ 17 k = 0 ∨ ρ 17 k = 1) = true) (by rw [decide_eq_true_iff]; exact c), ih, if_neg (fun z => c (Or.inl z.2))]
theorem flF_S (t : Int) : flF ρ t (alv ρ) = fstS ρ t := by
  unfold alv fstS; rw [List.range_eq_range', flF_fst]
abbrev uL (ρ : fG2) (t x : Nat) : Prop := ρ 8 t * ρ 6 x < ρ 8 x * ρ 6 t
def plF (ρ : fG2) (t : Nat) : List Nat → Nat → Nat
  | [], i => i
  | x :: l, i => if uL ρ t x then i else plF ρ t l (i + 1)
theorem plF_spec (t : Nat) : ∀ (l : List Nat) (i : Nat), i ≤ plF ρ t l i ∧ plF ρ t l i ≤ i + l.length ∧ (∀ m, m + i < plF ρ t l i → ¬ uL ρ t (l.getD m 0)) ∧ (plF ρ t l i < i + l.length → uL ρ t (l.getD (plF ρ t l i - i) 0)) := by
  intro l; induction l with
  | nil => intro i; exact ⟨Nat.le_refl _, Nat.le_refl _, fun m hm => by simp [plF] at hm; omega, fun h => by simp [plF] at h⟩
  | cons x l ih =>
    intro i
    unfold plF
    by_cases c : uL ρ t x
    · rw [if_pos c]
      refine ⟨Nat.le_refl _, by simp, fun m hm => absurd hm (by omega), fun _ => ?_⟩
      rw [Nat.sub_self]; exact c
    · rw [if_neg c]
      obtain ⟨h1, h2, h3, h4⟩ := ih (i + 1)
      refine ⟨by omega, by simp; omega, fun m hm => ?_, fun hlt => ?_⟩
      · cases m with
        | zero => exact c
        | succ m => exact h3 m (by omega)
      · have := h4 (by simp at hlt; omega)
        obtain ⟨q, hq⟩ : ∃ q, plF ρ t l (i + 1) - i = q + 1 := ⟨plF ρ t l (i + 1) - i - 1, by omega⟩
        rw [hq]
        rw [show plF ρ t l (i + 1) - (i + 1) = q by omega] at this
        exact this
theorem atB_spec (l : List Nat) (t : Nat) : ∀ a, (∀ i, atB σ l t a ≤ i → i < a → ahd σ t (l.getD i 0)) ∧ (atB σ l t a = 0 ∨ ¬ ahd σ t (l.getD (atB σ l t a - 1) 0)) := by
  intro a; induction a with
  | zero => exact ⟨fun i _ h => absurd h (by omega), Or.inl rfl⟩
  | succ a ih =>
    unfold atB
    by_cases c : ahd σ t (l.getD a 0)
    · rw [if_pos c]
      refine ⟨fun i h1 h2 => ?_, ih.2⟩
      by_cases e : i = a
      · subst e; exact c
      · exact ih.1 i h1 (by omega)
    · rw [if_neg c]
      exact ⟨fun i h1 h2 => absurd h1 (by omega), Or.inr (by simpa using c)⟩
def qle (ρ : fG2) (a b : Nat) : Prop := ρ 8 a * ρ 6 b ≤ ρ 8 b * ρ 6 a
theorem uL_mono {t a b : Nat} (wa : 1 ≤ ρ 6 a) (wb : 1 ≤ ρ 6 b) (wt : 1 ≤ ρ 6 t) (h : uL ρ t a) (hq : qle ρ a b) : uL ρ t b := by
  unfold uL qle at *
  have h1 : (ρ 8 t * ρ 6 a) * ρ 6 b < (ρ 8 a * ρ 6 t) * ρ 6 b := Int.mul_lt_mul_of_pos_right h (by omega)
  have h2 : (ρ 8 a * ρ 6 b) * ρ 6 t ≤ (ρ 8 b * ρ 6 a) * ρ 6 t := Int.mul_le_mul_of_nonneg_right hq (by omega)
  have e1 : (ρ 8 a * ρ 6 t) * ρ 6 b = (ρ 8 a * ρ 6 b) * ρ 6 t := by rw [Int.mul_assoc, Int.mul_comm (ρ 6 t), ← Int.mul_assoc]
  have e2 : (ρ 8 t * ρ 6 a) * ρ 6 b = (ρ 8 t * ρ 6 b) * ρ 6 a := by rw [Int.mul_assoc, Int.mul_comm (ρ 6 a), ← Int.mul_assoc]
  have e3 : (ρ 8 b * ρ 6 a) * ρ 6 t = (ρ 8 b * ρ 6 t) * ρ 6 a := by rw [Int.mul_assoc, Int.mul_comm (ρ 6 a), ← Int.mul_assoc]
  have h3 : (ρ 8 t * ρ 6 b) * ρ 6 a < (ρ 8 b * ρ 6 t) * ρ 6 a := by omega
  exact Int.lt_of_mul_lt_mul_right h3 (by omega)
def srt (ρ : fG2) (l : List Nat) : Prop := ∀ i j, i < j → j < l.length → qle ρ (l.getD i 0) (l.getD j 0)
theorem pl_at {l : List Nat} {t : Nat} (hw : ∀ k ∈ l, 1 ≤ ρ 6 k) (wt : 1 ≤ ρ 6 t) (hlt : ∀ k ∈ l, k < t) (hs : srt ρ l) : atB ρ l t l.length = plF ρ t l 0 := by
  have hm : ∀ i, i < l.length → l.getD i 0 ∈ l := fun i hi => by rw [List.getD_eq_getElem?_getD, List.getElem?_eq_getElem hi]; exact List.getElem_mem _
  have ha : ∀ i, i < l.length → (ahd ρ t (l.getD i 0) ↔ uL ρ t (l.getD i 0)) := by
    intro i hi
    have := hlt _ (hm i hi)
    unfold ahd uL
    constructor
    · rintro (z | z)
      · exact z
      · omega
    · exact Or.inl
  obtain ⟨a1, a2⟩ := atB_spec (σ := ρ) l t l.length
  have a0 := atB_le ρ l t l.length
  obtain ⟨-, p1, p2, p3⟩ := plF_spec (ρ := ρ) t l 0
  simp only [Nat.zero_add, Nat.add_zero, Nat.sub_zero] at p1 p2 p3
  rcases Nat.lt_trichotomy (atB ρ l t l.length) (plF ρ t l 0) with z | z | z
  · exact absurd ((ha _ (by omega)).mp (a1 _ (Nat.le_refl _) (by omega))) (p2 _ z)
  · exact z
  · exfalso
    have u1 := p3 (by omega)
    have u2 := a2.resolve_left (by omega)
    refine u2 ((ha _ (by omega)).mpr ?_)
    by_cases e : plF ρ t l 0 = atB ρ l t l.length - 1
    · rw [← e]; exact u1
    · exact uL_mono (hw _ (hm _ (by omega))) (hw _ (hm _ (by omega))) wt u1 (hs _ _ (by omega) (by omega))
theorem srt_ins {l : List Nat} {t : Nat} (hw : ∀ k ∈ l, 1 ≤ ρ 6 k) (wt : 1 ≤ ρ 6 t) (hs : srt ρ l) : srt ρ (insAt l (plF ρ t l 0) t) := by
  have hm : ∀ i, i < l.length → l.getD i 0 ∈ l := fun i hi => by rw [List.getD_eq_getElem?_getD, List.getElem?_eq_getElem hi]; exact List.getElem_mem _
  obtain ⟨-, p1, p2, p3⟩ := plF_spec (ρ := ρ) t l 0
  simp only [Nat.zero_add, Nat.add_zero, Nat.sub_zero] at p1 p2 p3
  intro i j hij hj
  rw [insAt_len p1] at hj
  rw [insAt_get p1, insAt_get p1]
  obtain ⟨p, hp⟩ : ∃ p, p = plF ρ t l 0 := ⟨_, rfl⟩
  rw [← hp] at p1 p2 p3 ⊢
  have uge : ∀ m, p ≤ m → m < l.length → uL ρ t (l.getD m 0) := by
    intro m h1 h2
    by_cases e : p = m
    · subst e; exact p3 h2
    · exact uL_mono (hw _ (hm _ (by omega))) (hw _ (hm _ h2)) wt (p3 (by omega)) (hs _ _ (by omega) h2)
  by_cases c1 : i < p
  · rw [if_pos c1]
    by_cases c2 : j < p
    · rw [if_pos c2]; exact hs i j hij (by omega)
    · rw [if_neg c2]
      by_cases c3 : j = p
      · rw [if_pos c3]
        have := p2 i c1
        unfold uL at this; unfold qle; omega
      · rw [if_neg c3]
        exact hs i (j - 1) (by omega) (by omega)
  · rw [if_neg c1, if_neg (show ¬ j < p by omega), if_neg (show ¬ j = p by omega)]
    by_cases c3 : i = p
    · rw [if_pos c3]
      have := uge (j - 1) (by omega) (by omega)
      unfold uL at this; unfold qle; omega
    · rw [if_neg c3]; exact hs (i - 1) (j - 1) (by omega) (by omega)
theorem fst_no (hE : okE ρ) (hJ : okJ ρ) {t : Int} (h : kidsN ρ t ≠ 0) : fstS ρ t = -1 := by
  by_cases c : fstS ρ t = -1
  · exact c
  · obtain ⟨j, j1, j2, j3, j4⟩ := fstS_ok hJ t c
    have := hE j j2
    rw [j3] at this; exact absurd this h
/-- its first job -/
def fjS (ρ : fG2) (t : Nat) : Nat := (fstS ρ t).toNat
/-- the line, by jobs -/
noncomputable def jlS (ρ : fG2) : List Nat := (lnS ρ).map (fjS ρ)
end
section
variable {P : Nat → Prop} {F S S' : fMS} {x n B : Nat} {T J V L E E' : Nat → Nat} {ρ : fG2} {al ln vi : List Nat}
def lnJ (J : Nat → Nat) (f : Int) : Option Nat := if f = -1 then none else some (J f.toNat)
theorem cx_firstJob (hi : inv ρ) (hal : al = alv ρ) (h : RB P F S x T J V L E ρ al ln vi) {t : Nat} (ht : (t : Int) < ρ 4 0) {post : Option Nat → Prop} (hp : post (lnJ J (fstS ρ t))) : wp_X3_firstJob S x (some (T t)) post := by
  obtain ⟨q1, q2, q3, q4⟩ := hi.B4
  have alm : ∀ j ∈ al, (j : Int) < ρ 12 0 := fun j hj => by rw [hal] at hj; exact ((alv_mem hi.J).mp hj).1
  have all : al.length ≤ 40 := by rw [hal]; exact alv_l hi
  rw [← flF_S, ← hal] at hp
  have key : ∀ (d i : Nat), i + d = al.length → flF ρ t (al.drop i) = flF ρ t al → wB_X3_firstJob_2 S post x (some (T t)) (d + 1) (iI i) := by
    intro d; induction d with
    | zero =>
      intro i hi' hx
      rw [List.drop_eq_nil_of_le (by omega)] at hx
      simp only [flF] at hx
      simp only [wB_X3_firstJob_2]
      simp (disch := omega) only [h.X, h.x3, Option.some.injEq, exists_eq_left', h.k3, true_and, h.s3, iI_le]
      refine ⟨fun _ => ?_, fun c => absurd c (by omega)⟩
      rw [← hx] at hp; exact hp
    | succ d ih =>
      intro i hi' hx
      have hdr : al.drop i = al[i] :: al.drop (i + 1) := List.drop_eq_getElem_cons (by omega)
      have hgd : al.getD i 0 = al[i] := by rw [List.getD_eq_getElem?_getD, List.getElem?_eq_getElem (by omega)]; rfl
      obtain ⟨j, hj⟩ : ∃ j, j = al[i] := ⟨_, rfl⟩
      rw [← hj] at hdr hgd
      have jn := alm j (by rw [hj]; exact List.getElem_mem _)
      have bj := hi.J.2.2 j jn
      obtain ⟨l, hl⟩ : ∃ l : Nat, ρ 13 j = l := ⟨(ρ 13 j).toNat, by omega⟩
      have sb := stV_b (ρ 17 j)
      rw [hdr] at hx
      simp only [flF] at hx
      have go : ¬ (ρ 13 j = t ∧ ρ 17 j = 0) → wB_X3_firstJob_2 S post x (some (T t)) (d + 1) (iI ((i : Int) + 1)) := by
        intro c
        rw [if_neg c] at hx
        exact ih (i + 1) (by omega) hx
      rw [wB_X3_firstJob_2]
      simp (disch := omega) only [h.X, h.x3, Option.some.injEq, exists_eq_left', h.k3, true_and, h.s3, iI_le]
      refine ⟨fun c => absurd c (by omega), fun _ => ?_⟩
      rw [h.g3 i (by omega), hgd]
      simp (disch := omega) only [Option.some.injEq, exists_eq_left', h.Jk j jn, true_and, h.jl j jn, hl, Int.toNat_natCast, h.Te, h.j4 j jn, show (119 : Int32) = iI 119 from rfl, iI_eq, stV_w, iI_1, iI_add]
      refine ⟨?_, fun c1 => ⟨?_, fun c2 => ?_⟩⟩
      · rintro c1 _ rfl; exact go (fun z => c1 (by omega))
      · rintro c2 _ rfl; exact go (fun z => c2 z.2)
      · rw [if_pos ⟨by omega, c2⟩] at hx
        rw [← hx] at hp
        unfold lnJ at hp
        rw [if_neg (by omega)] at hp
        exact hp
  exact ⟨_, key al.length 0 (by omega) rfl⟩
theorem cx_usedLess (hB : okB ρ) (hw : ∀ k, 0 ≤ ρ 6 k ∧ ρ 6 k ≤ 9) (h : RB P F S x T J V L E ρ al ln vi) {t y : Nat} (ht : (t : Int) < ρ 4 0) (hy : (y : Int) < ρ 4 0) {post : Int32 → Prop} (h1 : uL ρ t y → post (iI 1)) (h0 : ¬ uL ρ t y → post (iI 0)) : wp_X2_usedLessThan S (T t) (some (T y)) post := by
  have b1 := hB 8 t; have b2 := hB 8 y
  have m1 := mulw_b b1 (hw y); have m2 := mulw_b b2 (hw t)
  have w1 := hw t; have w2 := hw y
  unfold wp_X2_usedLessThan
  simp (disch := omega) only [h.Tk t ht, h.Tk y hy, Option.some.injEq, exists_eq_left', true_and, h.tu t ht, h.tu y hy, h.t3 t ht, h.t3 y hy, iI_j, jJ_mul]
  rw [jJ_cmp (by omega) (by omega) (by omega) (by omega)]
  unfold uL at h1 h0
  by_cases c1 : ρ 8 y * ρ 6 t < ρ 8 t * ρ 6 y
  · rw [if_pos c1]
    simp (disch := omega) only [iI_0, iI_le]
    exact ⟨fun _ => h0 (by omega), fun c => absurd (by omega) c⟩
  · rw [if_neg c1]
    by_cases c2 : ρ 8 t * ρ 6 y = ρ 8 y * ρ 6 t
    · rw [if_pos c2]
      simp (disch := omega) only [iI_0, iI_le]
      exact ⟨fun _ => h0 (by omega), fun c => absurd (by omega) c⟩
    · rw [if_neg c2]
      simp (disch := omega) only [iI_0, iI_le]
      exact ⟨fun c => absurd c (by omega), fun _ => h1 (by omega)⟩
theorem cx_place (hi : inv ρ) (hB : okB ρ) {l : List Nat} (hl : ∀ t ∈ l, (t : Int) < ρ 4 0 ∧ (fjS ρ t : Int) < ρ 12 0 ∧ ρ 13 (fjS ρ t) = t) (h : RB P F S x T J V L E ρ al (l.map (fjS ρ)) vi) {t : Nat} (ht : (t : Int) < ρ 4 0) (hll : l.length ≤ 10) {post : Int32 → Prop} (hp : post (iI (plF ρ t l 0 : Nat))) : wp_X3_placeInLine S x (some (T t)) post := by
  have len : (l.map (fjS ρ)).length = l.length := List.length_map _
  have key : ∀ (d i : Nat), i + d = l.length → plF ρ t (l.drop i) i = plF ρ t l 0 → wB_X3_placeInLine_2 S post x (some (T t)) (d + 1) (iI i) := by
    intro d; induction d with
    | zero =>
      intro i hi' hx
      rw [List.drop_eq_nil_of_le (by omega)] at hx
      simp only [plF] at hx
      simp only [wB_X3_placeInLine_2]
      simp (disch := omega) only [h.X, h.x5, Option.some.injEq, exists_eq_left', h.k5, true_and, h.s5, len, iI_le]
      refine ⟨fun _ => ?_, fun c => absurd c (by omega)⟩
      rw [← hx] at hp; exact hp
    | succ d ih =>
      intro i hi' hx
      have hdr : l.drop i = l[i] :: l.drop (i + 1) := List.drop_eq_getElem_cons (by omega)
      obtain ⟨y, hy⟩ : ∃ y, y = l[i] := ⟨_, rfl⟩
      have hgd : (l.map (fjS ρ)).getD i 0 = fjS ρ y := by rw [List.getD_eq_getElem?_getD, List.getElem?_eq_getElem (by omega), hy]; simp
      rw [← hy] at hdr
      obtain ⟨y1, y2, y3⟩ := hl y (by rw [hy]; exact List.getElem_mem _)
      rw [hdr] at hx
      obtain ⟨R, hR⟩ : ∃ R, R = plF ρ t l 0 := ⟨_, rfl⟩
      rw [← hR] at hx
      unfold plF at hx
      rw [wB_X3_placeInLine_2]
      simp (disch := omega) only [h.X, h.x5, Option.some.injEq, exists_eq_left', h.k5, true_and, h.s5, len, iI_le]
      refine ⟨fun c => absurd c (by omega), fun _ => ?_⟩
      rw [h.g5 i (by omega), hgd]
      simp (disch := omega) only [Option.some.injEq, exists_eq_left', h.Jk _ y2, true_and, h.jl _ y2, y3, Int.toNat_natCast, h.Tk t ht]
      refine cx_usedLess hB hi.w h ht y1 (fun c => ⟨fun _ => ?_, fun z => absurd z (by decide)⟩) (fun c => ⟨fun z => absurd rfl z, fun _ => ?_⟩)
      · rw [if_pos c] at hx
        rw [hx, hR]; exact hp
      · rw [if_neg c] at hx
        simp only [iI_1, iI_add]
        rintro _ rfl
        exact ih (i + 1) (by omega) (hx.trans hR)
  exact ⟨_, key l.length 0 (by omega) rfl⟩
theorem cx_formLine (hi : inv ρ) (hB : okB ρ) (hE : okE ρ) (hw1 : ∀ k : Nat, (k : Int) < ρ 4 0 → 1 ≤ ρ 6 k) (hal : al = alv ρ) (h : RB P F S x T J V L E ρ al ln vi) (hn : rmB S E n B) {post : fMS → Nat → Prop}
    (hp : ∀ S' n' E', RB P F S' x T J V L E' ρ al (jlS ρ) vi → rmB S' E' n' B → post S' n') : wp_X3_formLine S n x post := by
  obtain ⟨q1, q2, q3, q4⟩ := hi.B4
  obtain ⟨N, hN⟩ : ∃ N : Nat, ρ 4 0 = N := ⟨(ρ 4 0).toNat, by omega⟩
  have key : ∀ (d t : Nat) (l : List Nat) (S : fMS) (n : Nat) (E : Nat → Nat), t + d = N → RB P F S x T J V L E ρ al (l.map (fjS ρ)) vi → rmB S E n B → (∀ k ∈ l, k < t ∧ (fjS ρ k : Int) < ρ 12 0 ∧ ρ 13 (fjS ρ k) = k) → l.length ≤ t → srt ρ l → lnF ρ t d l = lnS ρ → wB_X3_formLine_9 post x (d + 1) S n (iI t) := by
    intro d; induction d with
    | zero =>
      intro t l S n E ht h hn hl hlt hs hx
      have hx : l = lnS ρ := hx
      simp only [wB_X3_formLine_9]
      simp (disch := omega) only [h.X, h.x0, Option.some.injEq, exists_eq_left', h.k0, true_and, h.s0 (by omega), hN, iI_le]
      refine ⟨fun _ => hp S n E ?_ hn, fun c => absurd c (by omega)⟩
      unfold jlS; rw [← hx]; exact h
    | succ d ih =>
      intro t l S n E ht h hn hl hlt hs hx
      have htn : (t : Int) < ρ 4 0 := by omega
      simp only [lnF] at hx
      rw [wB_X3_formLine_9]
      simp (disch := omega) only [h.X, h.x0, Option.some.injEq, exists_eq_left', h.k0, true_and, h.s0 (by omega), hN, iI_le]
      refine ⟨fun c => absurd c (by omega), fun _ => ?_⟩
      rw [h.g0 t htn]
      simp only [Option.some.injEq, exists_eq_left', h.Tk t htn, true_and]
      refine cx_firstJob hi hal h htn ?_
      simp only [iI_1, iI_add]
      by_cases c : fstS ρ t = -1
      · have e : lnJ J (fstS ρ t) = none := if_pos c
        rw [e]
        refine ⟨?_, fun z => absurd rfl z⟩
        rintro _ _ rfl
        rw [if_neg (fun z => z.2 c)] at hx
        exact ih (t + 1) l S n E (by omega) h hn (fun k hk => ⟨by have := (hl k hk).1; omega, (hl k hk).2⟩) (by omega) hs hx
      · obtain ⟨j, j1, j2, j3, j4⟩ := fstS_ok hi.J t c
        have hk0 : kidsN ρ t = 0 := by
          by_cases z : kidsN ρ t = 0
          · exact z
          · exact absurd (fst_no hE hi.J z) c
        have e : lnJ J (fstS ρ t) = some (J j) := by unfold lnJ; rw [if_neg c, j1]; rfl
        have ej : fjS ρ t = j := by unfold fjS; rw [j1]; rfl
        rw [e]
        rw [if_pos ⟨hk0, c⟩] at hx
        have hwl : ∀ k ∈ l, 1 ≤ ρ 6 k := fun k hk => hw1 k (by have := (hl k hk).1; omega)
        rw [pl_at hwl (hw1 t htn) (fun k hk => (hl k hk).1) hs] at hx
        refine ⟨fun z => (by cases z), fun _ => ?_⟩
        simp (disch := omega) only [Option.some.injEq, exists_eq_left', h.Jk j j2, true_and, h.jl j j2, j3, Int.toNat_natCast]
        obtain ⟨-, pl1, -, -⟩ := plF_spec (ρ := ρ) t l 0
        refine cx_place hi hB (fun k hk => ⟨by have := (hl k hk).1; omega, (hl k hk).2⟩) h htn (by omega) ?_
        simp (disch := omega) only [h.x5, Option.some.injEq, exists_eq_left', h.k5, true_and]
        refine h.ins5 hn j2 (by simp; omega) (by simp; omega) (fun S' n' E' h' hn' => ?_)
        rintro _ rfl
        have em : insAt (l.map (fjS ρ)) (plF ρ t l 0) j = (insAt l (plF ρ t l 0) t).map (fjS ρ) := by rw [map_insAt, ej]
        rw [em] at h'
        refine ih (t + 1) _ S' n' E' (by omega) h' hn' (fun k hk => ?_) (by rw [insAt_len (by omega)]; omega) (srt_ins hwl (hw1 t htn) hs) hx
        rcases mem_insAt hk with z | z
        · rw [z, ej]; exact ⟨by omega, j2, j3⟩
        · exact ⟨by have := (hl k z).1; omega, (hl k z).2⟩
  unfold wp_X3_formLine
  simp only [h.X, h.x5, Option.some.injEq, exists_eq_left', h.k5, true_and]
  refine h.clr5 hn (fun S' h' hn' => ⟨_, key N 0 [] S' n E (by omega) h' hn' (fun k hk => by simp at hk) (by simp) (fun i j _ hj => by simp at hj) ?_⟩)
  unfold lnS; rw [show (ρ 4 0).toNat = N by omega]
end
