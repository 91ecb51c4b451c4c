section
variable {ρ σ : fG2}
theorem kdl_mem {t : Int} {c : Nat} : c ∈ kdl ρ t ↔ (c : Int) < ρ 4 0 ∧ ρ 5 c = t := by
  unfold kdl
  rw [List.mem_filter, List.mem_range, decide_eq_true_iff]
  constructor
  · rintro ⟨a, b⟩; exact ⟨by omega, b⟩
  · rintro ⟨a, b⟩; exact ⟨by omega, b⟩
theorem kdl_nodup {t : Int} : (kdl ρ t).Nodup := List.Pairwise.filter _ List.nodup_range
theorem kdl_r (hT : okT ρ) {t : Int} (ht : 0 ≤ t) : kdl ρ t = (List.range' 1 (nt1 ρ)).filter (fun c => ρ 5 c = t) := by
  have h1 := hT.1
  have e : (ρ 4 0).toNat = nt1 ρ + 1 := by unfold nt1; omega
  unfold kdl
  rw [e, List.range_eq_range', List.range'_succ, List.filter_cons, if_neg]
  rw [decide_eq_true_iff, hT.2.2.1]; omega
theorem kids_len {t : Int} : ∀ d k : Nat, (((List.range' k d).filter (fun c => ρ 5 c = t)).length : Int) = fSum (kidsF ρ t) k d := by
  intro d; induction d with
  | zero => intro k; rfl
  | succ d ih =>
    intro k
    rw [List.range'_succ, List.filter_cons]
    simp only [fSum]
    rw [← ih (k + 1)]
    unfold kidsF
    by_cases c : ρ 5 k = t
    · rw [if_pos (by rw [decide_eq_true_iff]; exact c), if_pos c]; simp; omega
    · rw [if_neg (by rw [decide_eq_true_iff]; exact c), if_neg c]; omega
theorem kdl_len (hT : okT ρ) {t : Int} (ht : 0 ≤ t) : ((kdl ρ t).length : Int) = kidsN ρ t := by
  rw [kdl_r hT ht, kids_len]; rfl
theorem bs_nb {t : Int} : ∀ (d k : Nat) (b : Int), bsF ρ t k d b = nbL (ρ 28) (ρ 27) (ρ 6) ((List.range' k d).filter (fun c => ρ 5 c = t)) b := by
  intro d; induction d with
  | zero => intro k b; rfl
  | succ d ih =>
    intro k b
    rw [List.range'_succ, List.filter_cons]
    simp only [bsF]
    by_cases c : ρ 5 k = t
    · rw [if_pos (c := decide (ρ 5 k = t) = true) (by rw [decide_eq_true_iff]; exact c)]
      simp only [nbL]
      rw [ih]
      by_cases c2 : ρ 28 k < ρ 27 k ∧ (b = -1 ∨ ρ 28 k * ρ 6 b.toNat < ρ 28 b.toNat * ρ 6 k)
      · rw [if_pos c2, if_pos ⟨c, c2⟩]
      · rw [if_neg c2, if_neg (fun z => c2 z.2)]
    · rw [if_neg (c := decide (ρ 5 k = t) = true) (by rw [decide_eq_true_iff]; exact c), ih, if_neg (fun z => c z.1)]
theorem bsS_nb (hT : okT ρ) {t : Int} (ht : 0 ≤ t) : bsS ρ t = nbL (ρ 28) (ρ 27) (ρ 6) (kdl ρ t) (-1) := by
  unfold bsS; rw [bs_nb, kdl_r hT ht]
/-- one field's row written anew -/
def sF (ρ : fG2) (f : Nat) (g : Nat → Int) : fG2 := fun i k => if i = f then g k else ρ i k
theorem sF_at {f : Nat} {g : Nat → Int} {k : Nat} : sF ρ f g f k = g k := if_pos rfl
theorem sF_ne {f i : Nat} {g : Nat → Int} {k : Nat} (h : i ≠ f) : sF ρ f g i k = ρ i k := if_neg h
theorem sF_sF {f : Nat} {g g' : Nat → Int} : sF (sF ρ f g) f g' = sF ρ f g' := by
  funext i k; unfold sF; split <;> rfl
theorem sF_self {f : Nat} : sF ρ f (ρ f) = ρ := by
  funext i k; unfold sF; split
  · rename_i c; rw [c]
  · rfl
theorem up_sF {f j : Nat} {v : Int} : up ρ f j v = sF ρ f (fun k => if k = j then v else ρ f k) := by
  funext i k; unfold up sF
  by_cases c : i = f
  · subst c
    by_cases d : k = j
    · rw [if_pos ⟨rfl, d⟩, if_pos rfl]; exact (if_pos d).symm
    · rw [if_neg (fun z => d z.2), if_pos rfl]; exact (if_neg d).symm
  · rw [if_neg (fun z => c z.1), if_neg c]
theorem kdl_sF {f : Nat} {g : Nat → Int} {t : Int} (h4 : f ≠ 4) (h5 : f ≠ 5) : kdl (sF ρ f g) t = kdl ρ t := by
  unfold kdl; simp only [sF_ne (Ne.symm h4), sF_ne (Ne.symm h5)]
theorem gv1_g (hT : okT ρ) {t : Int} (ht : 0 ≤ t) : gv1 ρ t = sF ρ 28 (g1 (kdl ρ t) (ρ 27) (ρ 6) (ρ 28)) := by
  unfold gv1
  rw [bsS_nb hT ht]
  obtain ⟨b, hb⟩ : ∃ b, b = nbL (ρ 28) (ρ 27) (ρ 6) (kdl ρ t) (-1) := ⟨_, rfl⟩
  have hm := nbL_mem (g := ρ 28) (d := ρ 27) (w := ρ 6) (kdl ρ t) (-1)
  rw [← hb] at hm ⊢
  unfold g1
  rw [← hb]
  by_cases c : b = -1
  · rw [if_pos c, c]
    funext i k; unfold sF
    by_cases e : i = 28
    · subst e; rw [if_pos rfl]; exact (if_neg (by omega)).symm
    · rw [if_neg e]
  · rw [if_neg c, up_sF]
    obtain ⟨i, -, z, -⟩ := hm.resolve_left c
    rw [z]
    congr 1
    funext k
    by_cases e : k = i
    · subst e; simp
    · rw [if_neg (by simpa using e), if_neg (by omega)]
theorem gvN_g {t : Int} (ht : 0 ≤ t) : ∀ (u : Nat) (ρ : fG2), okT ρ → gvN t u ρ = sF ρ 28 (gN (kdl ρ t) (ρ 27) (ρ 6) u (ρ 28)) := by
  intro u; induction u with
  | zero => intro ρ _; exact sF_self.symm
  | succ u ih =>
    intro ρ hT
    show gvN t u (gv1 ρ t) = _
    rw [ih _ (gv1_okT hT t), gv1_g hT ht, kdl_sF (by decide) (by decide), sF_sF]
    have e27 : sF ρ 28 (g1 (kdl ρ t) (ρ 27) (ρ 6) (ρ 28)) 27 = ρ 27 := by funext k; exact sF_ne (by decide)
    have e6 : sF ρ 28 (g1 (kdl ρ t) (ρ 27) (ρ 6) (ρ 28)) 6 = ρ 6 := by funext k; exact sF_ne (by decide)
    have e28 : sF ρ 28 (g1 (kdl ρ t) (ρ 27) (ρ 6) (ρ 28)) 28 = g1 (kdl ρ t) (ρ 27) (ρ 6) (ρ 28) := by funext k; exact sF_at
    rw [e27, e6, e28]; rfl
end
theorem mulw_b {a w : Int} (ha : -100000000 ≤ a ∧ a ≤ 100000000) (hw : 0 ≤ w ∧ w ≤ 9) : -900000000 ≤ a * w ∧ a * w ≤ 900000000 := by
  have : w = 0 ∨ w = 1 ∨ w = 2 ∨ w = 3 ∨ w = 4 ∨ w = 5 ∨ w = 6 ∨ w = 7 ∨ w = 8 ∨ w = 9 := by omega
  rcases this with e | e | e | e | e | e | e | e | e | e <;> subst e <;> omega
section
variable {P : Nat → Prop} {F S S' : fMS} {x n B : Nat} {T J V L E E' : Nat → Nat} {ρ : fG2} {al ln vi : List Nat}
theorem RB.sF46 (h : RB P F S x T J V L E ρ al ln vi) {k : Nat} {v : Int} (hk : (k : Int) < ρ 4 0) : RB P F (wI S (T k) 13 (iI v)) x T J V L E (sF ρ 46 (fun i => if i = k then v else ρ 46 i)) al ln vi := by
  rw [← up_sF]; exact h.w13 k v hk
theorem cx_isLeaf (hT : okT ρ) (h : RB P F S x T J V L E ρ al ln vi) {k : Nat} (hk : (k : Int) < ρ 4 0) {post : Int32 → Prop} (h1 : kidsN ρ k = 0 → post (iI 1)) (h0 : ¬ kidsN ρ k = 0 → post (iI 0)) : wp_X2_isLeaf S (T k) post := by
  have hl := kdl_len hT (t := (k : Int)) (by omega)
  unfold wp_X2_isLeaf
  simp only [h.Tk k hk, true_and, h.tc k hk, Option.some.injEq, exists_eq_left', h.kc k hk]
  refine h.l.empty (vidC hk) ?_
  refine ⟨nar_b, ?_⟩
  rw [cntC]
  by_cases c : kidsN ρ k = 0
  · rw [b01_t (by simp; exact List.eq_nil_of_length_eq_zero (by omega))]; exact h1 c
  · rw [b01_f (by simp; intro e; rw [e] at hl; simp at hl; omega)]; exact h0 c
theorem cx_neediest (hB : okB ρ) (hw : ∀ k, 0 ≤ ρ 6 k ∧ ρ 6 k ≤ 9) (h4 : ρ 4 0 ≤ 10) (h : RB P F S x T J V L E ρ al ln vi) {t : Nat} (ht : (t : Int) < ρ 4 0) {post : Option Nat → Prop} (hp : post (lnk T (nbL (ρ 46) (ρ 41) (ρ 6) (kdl ρ t) (-1)))) : wp_X2_neediestChild S (T t) post := by
  obtain ⟨K, hK⟩ : ∃ K, K = kdl ρ t := ⟨_, rfl⟩
  have hKm : ∀ k ∈ K, (k : Int) < ρ 4 0 := fun k hk => by rw [hK] at hk; exact (kdl_mem.mp hk).1
  have hKl : K.length ≤ 10 := by
    rw [hK]; unfold kdl
    have := List.length_filter_le (fun c : Nat => decide (ρ 5 c = (t : Int))) (List.range (ρ 4 0).toNat)
    rw [List.length_range] at this; omega
  rw [← hK] at hp
  have key : ∀ (d i : Nat) (b : Int), i + d = K.length → (b = -1 ∨ ∃ k ∈ K, b = (k : Nat)) → nbL (ρ 46) (ρ 41) (ρ 6) (K.drop i) b = nbL (ρ 46) (ρ 41) (ρ 6) K (-1) → wB_X2_neediestChild_4 S post (T t) (d + 1) (lnk T b) (iI i) := by
    intro d; induction d with
    | zero =>
      intro i b hi hb hx
      rw [List.drop_eq_nil_of_le (by omega)] at hx
      simp only [wB_X2_neediestChild_4]
      simp (disch := omega) only [h.Tk t ht, true_and, h.tc t ht, Option.some.injEq, exists_eq_left', h.kc t ht, h.sc t ht, ← hK, iI_le]
      refine ⟨fun _ => ?_, fun c => absurd c (by omega)⟩
      rw [← hx] at hp; exact hp
    | succ d ih =>
      intro i b hi hb hx
      have hd : K.drop i = K[i] :: K.drop (i + 1) := List.drop_eq_getElem_cons (by omega)
      have hgd : K.getD i 0 = K[i] := by rw [List.getD_eq_getElem?_getD, List.getElem?_eq_getElem (by omega)]; rfl
      obtain ⟨k, hk⟩ : ∃ k, k = K[i] := ⟨_, rfl⟩
      rw [← hk] at hd hgd
      have hkK : k ∈ K := by rw [hk]; exact List.getElem_mem _
      have hkn := hKm k hkK
      rw [hd] at hx
      simp only [nbL] at hx
      have b1 := hB 41 k; have b2 := hB 46 k
      rw [wB_X2_neediestChild_4]
      simp (disch := omega) only [h.Tk t ht, true_and, h.tc t ht, Option.some.injEq, exists_eq_left', h.kc t ht, h.sc t ht, ← hK, iI_le]
      refine ⟨fun c => absurd c (by omega), fun _ => ?_⟩
      rw [h.gc t i ht (by rw [← hK]; omega), ← hK, hgd]
      simp (disch := omega) only [Option.some.injEq, exists_eq_left', h.Tk k hkn, true_and, h.t8 k hkn, h.t13 k hkn, h.t3 k hkn, iI_le, iI_1, iI_add]
      have ek : lnk T (k : Int) = some (T k) := by unfold lnk; rw [if_neg (by omega)]; rfl
      refine ⟨?_, fun c1 => ⟨?_, fun c2 => ?_⟩⟩
      · rintro c1 _ rfl
        rw [if_neg (fun z => absurd z.1 (by omega))] at hx
        exact ih (i + 1) b (by omega) hb hx
      · rintro c2 _ rfl
        have hb1 : b = -1 := by
          unfold lnk at c2; split at c2
          · assumption
          · cases c2
        rw [if_pos ⟨by omega, Or.inl hb1⟩] at hx
        rw [← ek]
        exact ih (i + 1) k (by omega) (Or.inr ⟨k, hkK, rfl⟩) hx
      · have hbn : b ≠ -1 := fun z => c2 (by unfold lnk; rw [if_pos z])
        obtain ⟨m, hmK, rfl⟩ := hb.resolve_left hbn
        have hmn := hKm m hmK
        have em : lnk T (m : Int) = some (T m) := by unfold lnk; rw [if_neg hbn]; rfl
        have w1 := hw k; have w2 := hw m
        have b3 := hB 46 m
        have m1 := mulw_b b3 w1; have m2 := mulw_b b2 w2
        rw [em]
        simp (disch := omega) only [Option.some.injEq, exists_eq_left', h.Tk m hmn, true_and, h.t13 m hmn, h.t3 m hmn, iI_mul, iI_le]
        simp only [Int.toNat_natCast] at hx
        refine ⟨?_, ?_⟩
        · rintro c3 _ rfl
          rw [if_neg (by rintro ⟨-, y | y⟩ <;> omega)] at hx
          rw [← em]
          exact ih (i + 1) m (by omega) hb hx
        · rintro c3 _ rfl
          rw [if_pos ⟨by omega, Or.inr (by omega)⟩] at hx
          rw [← ek]
          exact ih (i + 1) k (by omega) (Or.inr ⟨k, hkK, rfl⟩) hx
  exact ⟨_, key K.length 0 (-1) (by omega) (Or.inl rfl) rfl⟩
theorem g1_up (K : List Nat) : sF ρ 46 (g1 K (ρ 41) (ρ 6) (ρ 46)) = if nbL (ρ 46) (ρ 41) (ρ 6) K (-1) = -1 then ρ else up ρ 46 (nbL (ρ 46) (ρ 41) (ρ 6) K (-1)).toNat (ρ 46 (nbL (ρ 46) (ρ 41) (ρ 6) K (-1)).toNat + 1) := by
  obtain ⟨b, hb⟩ : ∃ b, b = nbL (ρ 46) (ρ 41) (ρ 6) K (-1) := ⟨_, rfl⟩
  have hm := nbL_mem (g := ρ 46) (d := ρ 41) (w := ρ 6) K (-1)
  unfold g1
  rw [← hb] at hm ⊢
  by_cases c : b = -1
  · rw [if_pos c, c]
    funext i k; unfold sF
    by_cases e : i = 46
    · subst e; rw [if_pos rfl]; exact if_neg (by omega)
    · rw [if_neg e]
  · rw [if_neg c, up_sF]
    obtain ⟨i, -, z, -⟩ := hm.resolve_left c
    rw [z]
    congr 1
    funext k
    by_cases e : k = i
    · subst e; simp
    · rw [if_neg (by omega), if_neg (by simpa using e)]
theorem cx_giveOne (h4 : ρ 4 0 ≤ 10) {t : Nat} (ht : (t : Int) < ρ 4 0) (hw : ∀ k, 0 ≤ ρ 6 k ∧ ρ 6 k ≤ 9) {u : Int} (hu : -100000000 ≤ u ∧ u ≤ 100000000) {post : fMS → Nat → Prop} (h : RB P F S x T J V L E ρ al ln vi) (hn : rmB S E n B) (hB : okB ρ)
    (hp : ∀ S', RB P F S' x T J V L E (sF ρ 46 (gN (kdl ρ t) (ρ 41) (ρ 6) u.toNat (ρ 46))) al ln vi → rmB S' E n B → post S' n) : wp_X2_giveOneByOne S n (T t) (iI u) post := by
  obtain ⟨K, hK⟩ : ∃ K, K = kdl ρ t := ⟨_, rfl⟩
  have key : ∀ (d i : Nat) (g : Nat → Int) (S : fMS), (i + d : Nat) = u.toNat → RB P F S x T J V L E (sF ρ 46 g) al ln vi → rmB S E n B → okB (sF ρ 46 g) → gN K (ρ 41) (ρ 6) d g = gN K (ρ 41) (ρ 6) u.toNat (ρ 46) → wB_X2_giveOneByOne_2 post (T t) (iI u) (d + 1) S n (iI i) := by
    intro d; induction d with
    | zero =>
      intro i g S hi h hn hB hx
      have hx : g = _ := hx
      simp only [wB_X2_giveOneByOne_2]
      simp (disch := omega) only [iI_le]
      refine ⟨fun _ => hp S (by rw [← hK, ← hx]; exact h) hn, fun c => absurd c (by omega)⟩
    | succ d ih =>
      intro i g S hi h hn hB hx
      have hx : gN K (ρ 41) (ρ 6) d (g1 K (ρ 41) (ρ 6) g) = _ := hx
      have e4 : sF ρ 46 g 4 0 = ρ 4 0 := sF_ne (by decide)
      have e41 : sF ρ 46 g 41 = ρ 41 := by funext k; exact sF_ne (by decide)
      have e6 : sF ρ 46 g 6 = ρ 6 := by funext k; exact sF_ne (by decide)
      have e46 : sF ρ 46 g 46 = g := by funext k; exact sF_at
      have eK : kdl (sF ρ 46 g) t = K := by rw [kdl_sF (by decide) (by decide), hK]
      have gu := g1_up (ρ := sF ρ 46 g) K
      rw [e41, e6, e46, sF_sF] at gu
      rw [wB_X2_giveOneByOne_2]
      simp (disch := omega) only [iI_le, h.Tk t (by rw [e4]; exact ht), true_and]
      refine ⟨fun c => absurd c (by omega), fun _ => cx_neediest hB (by rw [e6]; exact hw) (by rw [e4]; exact h4) h (by rw [e4]; exact ht) ?_⟩
      rw [e41, e6, e46, eK]
      simp only [iI_1, iI_add]
      obtain ⟨b, hb⟩ : ∃ b, b = nbL g (ρ 41) (ρ 6) K (-1) := ⟨_, rfl⟩
      have hm := nbL_mem (g := g) (d := ρ 41) (w := ρ 6) K (-1)
      rw [← hb] at gu hm ⊢
      refine ⟨fun c => ?_, fun c => ?_⟩
      · have hb1 : b = -1 := by
          unfold lnk at c; split at c
          · assumption
          · cases c
        rw [if_pos hb1] at gu
        rintro _ rfl
        have gg : g1 K (ρ 41) (ρ 6) g = g := by
          have := congrFun (congrFun gu 46)
          funext k
          have := this k
          rw [sF_at, sF_at] at this; exact this
        rw [gg] at hx
        exact ih (i + 1) g S (by omega) h hn hB hx
      · have hb1 : b ≠ -1 := fun z => c (by unfold lnk; rw [if_pos z])
        obtain ⟨k, kK, rfl, klt⟩ := hm.resolve_left hb1
        rw [if_neg hb1] at gu
        simp only [Int.toNat_natCast] at gu
        have hkn : (k : Int) < sF ρ 46 g 4 0 := by rw [e4]; rw [hK] at kK; exact (kdl_mem.mp kK).1
        have ek : lnk T (k : Int) = some (T k) := by unfold lnk; rw [if_neg hb1]; rfl
        have hw2 := h.w13 k (sF ρ 46 g 46 k + 1) hkn
        have b1 := hB 41 k; have b2 := hB 46 k
        have hBn : okB (up (sF ρ 46 g) 46 k (sF ρ 46 g 46 k + 1)) := by
          refine hB.w ?_
          have : sF ρ 46 g 46 k = g k := sF_at
          have e2 : sF ρ 46 g 41 k = ρ 41 k := sF_ne (by decide)
          omega
        rw [ek]
        simp (disch := omega) only [Option.some.injEq, exists_eq_left', h.Tk k hkn, true_and, h.t13 k hkn]
        rintro _ rfl
        have e46k : sF ρ 46 g 46 k = g k := sF_at
        rw [e46k] at hw2 hBn
        rw [← gu] at hw2 hBn
        rw [e46k, iI_add]
        exact ih (i + 1) _ _ (by omega) hw2 (hn.w rfl) hBn hx
  refine ⟨_, key u.toNat 0 (ρ 46) S (by omega) (by rw [sF_self]; exact h) hn (by rw [sF_self]; exact hB) rfl⟩
end
