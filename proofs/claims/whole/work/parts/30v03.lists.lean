section
variable {I : Nat → Prop} {S S' : fMS} {L E : Nat → Nat} {ls : Nat → List Nat}
/-- what an operation of list i may have done -/
def lsU (ls : Nat → List Nat) (i : Nat) (l : List Nat) : Nat → List Nat := fun k => if k = i then l else ls k
theorem lsU_at {i : Nat} {l : List Nat} : lsU ls i l i = l := if_pos rfl
theorem lsU_ne {i k : Nat} {l : List Nat} (h : k ≠ i) : lsU ls i l k = ls k := if_neg h
theorem lsU_lsU {i : Nat} {l l' : List Nat} : lsU (lsU ls i l) i l' = lsU ls i l' := by funext k; unfold lsU; split <;> rfl
theorem lsU_self {i : Nat} : lsU ls i (ls i) = ls := by funext k; unfold lsU; split; rename_i c; rw [c]; rfl
/-- its row and its length written anew, nothing else -/
theorem RLs.put (h : RLs I S L E ls) {i : Nat} (hi : I i) {l : List Nat} (s1 : sL S' = sL S) (s2 : sK S' = sK S) (s3 : sN S' = sN S) (s4 : sE S' = sE S) (s5 : sM S' = sM S)
    (hI : ∀ b k, (b = L i ∧ k = 2) ∨ sI S' b k = sI S b k) (hJ : ∀ b k, sJ S' b k = sJ S b k) (hR : ∀ b k, b ≠ E i → sR S' b k = sR S b k)
    (e2 : sI S' (L i) 2 = iI l.length) (e4 : l.length ≤ sN S (E i)) (e6 : l.length ≤ lmx i) (e7 : ∀ k, k < l.length → sR S' (E i) k = some (l.getD k 0)) (e8 : ∀ a ∈ l, isA S 1 a ∨ isA S 2 a ∨ isA S 3 a) :
    RLs I S' L E (lsU ls i l) ∧ frL S S' := by
  have h1 : ∀ a ∈ sL S, a ∈ sL S' ∧ sK S' a = sK S a ∧ sN S' a = sN S a := fun a ha => ⟨by rw [s1]; exact ha, by rw [s2], by rw [s3]⟩
  have up : ∀ {k a}, isA S k a → isA S' k a := fun {k a} ha => ⟨(h1 a ha.1).1, (h1 a ha.1).2.1.trans ha.2⟩
  have hc : ∀ b ∈ sL S, b ≠ L i → b ≠ E i → ∀ k, sI S' b k = sI S b k ∧ sJ S' b k = sJ S b k ∧ sR S' b k = sR S b k := fun b _ hb1 hb2 k => ⟨(hI b k).resolve_left (fun z => hb1 z.1), hJ b k, hR b k hb2⟩
  have hLE : L i ≠ E i := fun e => by
    have h6 := h.k hi
    rcases h.k14 hi with z | z
    · rw [e] at h6; have := h6.2.symm.trans z.2; omega
    · rw [e, z] at h6; exact h.1.1 h6.1
  have := RLs.upd (S' := S') h hi (e' := E i) (l' := l) h1 s4 (by rw [s1]; exact h.1.1) (by rw [s3]; exact h.1.2) hc (by rw [hR _ _ hLE]; exact h.e hi) e2 ((h.k14p hi).imp (fun z => ⟨up z.1, by rw [s3]; exact z.2⟩) id) (by rw [s3]; exact e4) (by rw [s3]; exact h.cm hi) e6 e7 (fun a ha => (e8 a ha).imp up (Or.imp up up)) (Or.inl rfl)
  refine ⟨?_, frL_of h hi h1 s4 s5 hc⟩
  have e1 : (fun k => if k = i then E i else E k) = E := by funext k; split; rename_i c; rw [c]; rfl
  rw [e1] at this; exact this
theorem getD_app {l : List Nat} {a k : Nat} : (l ++ [a]).getD k 0 = if k < l.length then l.getD k 0 else if k = l.length then a else 0 := by
  simp only [List.getD_eq_getElem?_getD, List.getElem?_append]
  by_cases c : k < l.length
  · rw [if_pos c, if_pos c]
  · rw [if_neg c, if_neg c]
    by_cases d : k = l.length
    · subst d; simp
    · rw [if_neg d, List.getElem?_eq_none (by simp; omega)]; rfl
theorem pot_eq {S S' : fMS} {E : Nat → Nat} (h : sN S' = sN S) : pot S' E = pot S E := potF_c 20 (fun k _ => by rw [h])
theorem RLs.add (h : RLs I S L E ls) {i a n : Nat} (hi : I i) (h20 : i < 20) (ha : isA S 1 a ∨ isA S 2 a ∨ isA S 3 a) (hm : (ls i).length + 1 ≤ lmx i) (hn : n + 900 ≤ 30000) {post : Int32 → fMS → Nat → Prop}
    (hp : ∀ (S' : fMS) (n' : Nat) (E' : Nat → Nat), RLs I S' L E' (lsU ls i (ls i ++ [a])) → frL S S' → n' + pot S E ≤ n + pot S' E' → post (iI 1) S' n') : wp_Jx4a65c_add_9ea2d S n (L i) (some a) post := by
  have b1 := h.mx hi; have b2 := mx_b i
  obtain ⟨S1, hS1⟩ : ∃ S1, S1 = wI S (L i) 0 ((sI S (L i) 0) + (1 : Int32)) := ⟨_, rfl⟩
  have hmod := h.mod hi ((sI S (L i) 0) + (1 : Int32))
  rw [← hS1] at hmod
  obtain ⟨h1, f1⟩ := hmod
  have p1 : pot S1 E = pot S E := by rw [hS1]; rfl
  -- behind the growing
  have fin : ∀ (S2 : fMS) (n2 : Nat) (E2 : Nat → Nat), RLs I S2 L E2 ls → frL S S2 → (ls i).length + 1 ≤ sN S2 (E2 i) → n2 + pot S E ≤ n + pot S2 E2 → wB_Jx4a65c_add_72be8_11 (fun S2 n3 => post (1 : Int32) S2 n3) (L i) (some a) (iI (ls i).length) S2 n2 (some (E2 i)) := by
    intro S2 n2 E2 h2 f2 hr hn2
    have k14 := h2.k14' hi (by omega)
    have ha2 : isA S2 1 a ∨ isA S2 2 a ∨ isA S2 3 a := ha.imp f2.a (Or.imp f2.a f2.a)
    unfold wB_Jx4a65c_add_72be8_11
    have b4 := h2.cm hi; have b5 := cm_b i
    simp (disch := omega) only [Option.some.injEq, exists_eq_left', eq_true k14, true_and, iI_in, iI_nat, Int.toNat_natCast, iI_1, iI_add]
    refine ⟨by omega, Or.inr ⟨a, rfl, ha2⟩, h2.k hi, ?_⟩
    have hput := RLs.put (S' := wI (wR S2 (E2 i) (ls i).length (some a)) (L i) 2 (iI (((ls i).length : Int) + 1))) h2 hi (l := ls i ++ [a]) rfl rfl rfl rfl rfl
      (fun b k => by
        by_cases c : b = L i ∧ k = 2
        · exact Or.inl c
        · exact Or.inr (if_neg c)) (fun b k => rfl) (fun b k hb => if_neg (fun z => hb z.1)) ((if_pos ⟨rfl, rfl⟩).trans (by simp)) (by simp; omega) (by simp; omega)
      (fun k hk => by
        rw [getD_app]
        simp at hk
        show (if E2 i = E2 i ∧ k = (ls i).length then some a else sR S2 (E2 i) k) = _
        by_cases c : k = (ls i).length
        · rw [if_pos ⟨rfl, c⟩, if_neg (by omega), if_pos c]
        · rw [if_neg (fun z => c z.2), if_pos (by omega)]; exact h2.el hi (by omega))
      (fun b hb => by
        rcases List.mem_append.mp hb with z | z
        · exact h2.2.2.2.1 i hi b z
        · simp at z; rw [z]; exact ha2)
    exact hp _ _ E2 hput.1 (f2.tr hput.2) hn2
  unfold wp_Jx4a65c_add_9ea2d wp_Jx4a65c_add_72be8
  rw [← hS1]
  simp (disch := omega) only [eq_true (h.k hi), h1.e hi, h1.n hi, true_and, Option.some.injEq, exists_eq_left', oN]
  have hle := h1.le hi; have b4 := h1.cm hi; have b5 := cm_b i
  refine ⟨h1.k14 hi, fun c => ?_, fun c => ⟨h1.k hi, ?_⟩⟩
  · rw [iI_eq (by omega) (by omega) (by omega) (by omega)] at c
    exact fin S1 n E h1 f1 (by omega) (by rw [p1]; omega)
  · rw [iI_eq (by omega) (by omega) (by omega) (by omega)] at c
    exact h1.grow hi h20 (by omega) hm hn (fun S2 n2 E2 h2 f2 hr hn2 => fin S2 n2 E2 h2 (f1.tr f2) hr (by rw [← p1]; exact hn2))
theorem getD_ins {l : List Nat} {a p k : Nat} (hp : p ≤ l.length) : (insAt l p a).getD k 0 = if k < p then l.getD k 0 else if k = p then a else l.getD (k - 1) 0 := insAt_get hp
theorem RLs.ins (h : RLs I S L E ls) {i a p n : Nat} (hi : I i) (h20 : i < 20) (ha : isA S 1 a ∨ isA S 2 a ∨ isA S 3 a) (hm : (ls i).length + 1 ≤ lmx i) (hpl : p ≤ (ls i).length) (hn : n + 900 ≤ 30000) {post : fMS → Nat → Prop}
    (hp : ∀ (S' : fMS) (n' : Nat) (E' : Nat → Nat), RLs I S' L E' (lsU ls i (insAt (ls i) p a)) → frL S S' → n' + pot S E ≤ n + pot S' E' → post S' n') : wp_Jx4a65c_add_7a177 S n (L i) (iI p) (some a) post := by
  have b1 := h.mx hi; have b2 := mx_b i
  obtain ⟨S1, hS1⟩ : ∃ S1, S1 = wI S (L i) 0 ((sI S (L i) 0) + (1 : Int32)) := ⟨_, rfl⟩
  have hmod := h.mod hi ((sI S (L i) 0) + (1 : Int32))
  rw [← hS1] at hmod
  obtain ⟨h1, f1⟩ := hmod
  have p1 : pot S1 E = pot S E := by rw [hS1]; rfl
  have fin : ∀ (S2 : fMS) (n2 : Nat) (E2 : Nat → Nat), RLs I S2 L E2 ls → frL S S2 → (ls i).length + 1 ≤ sN S2 (E2 i) → n2 + pot S E ≤ n + pot S2 E2 → wB_Jx4a65c_add_7a177_38 post (L i) (iI p) (some a) S2 n2 (iI (ls i).length) (some (E2 i)) := by
    intro S2 n2 E2 h2 f2 hr hn2
    have k14 := h2.k14' hi (by omega)
    have ha2 : isA S2 1 a ∨ isA S2 2 a ∨ isA S2 3 a := ha.imp f2.a (Or.imp f2.a f2.a)
    have b4 := h2.cm hi; have b5 := cm_b i
    have hsub : ((((ls i).length : Int) - (p : Int)).toNat) = (ls i).length - p := by omega
    have hsuc : (((p : Int) + 1).toNat) = p + 1 := by omega
    unfold wB_Jx4a65c_add_7a177_38
    simp (disch := omega) only [Option.some.injEq, exists_eq_left', eq_true k14, true_and, iI_1, iI_add, iI_sub, iI_0, iI_lt, iI_nat, Int.toNat_natCast, hsub, hsuc]
    refine ⟨⟨by omega, by omega, by omega, by omega, by omega, fun k hk => ?_⟩, ?_⟩
    · rw [h2.el hi (by omega)]
      refine Or.inr ⟨_, rfl, ?_⟩
      exact h2.2.2.2.1 i hi _ (by rw [List.getD_eq_getElem?_getD, List.getElem?_eq_getElem (by omega)]; exact List.getElem_mem _)
    · have kw : ∀ x, vp_in (iI p) x = ((0 : Int) ≤ p ∧ (p : Int) < x) := fun x => iI_in (by omega) (by omega)
      rw [kw]
      refine ⟨⟨by omega, ?_⟩, Or.inr ⟨a, rfl, ha2⟩, h2.k hi, ?_⟩
      · show (p : Int) < (sN S2 (E2 i) : Nat); omega
      have hlen : (insAt (ls i) p a).length = (ls i).length + 1 := insAt_len hpl
      have hput := RLs.put (S' := wI (wR (wC S2 (E2 i) p (E2 i) (p + 1) ((ls i).length - p)) (E2 i) p (some a)) (L i) 2 (iI (((ls i).length : Int) + 1))) h2 hi (l := insAt (ls i) p a) rfl rfl rfl rfl rfl
        (fun b k => by
          by_cases c : b = L i ∧ k = 2
          · exact Or.inl c
          · exact Or.inr (if_neg c)) (fun b k => rfl) (fun b k hb => (if_neg (fun z => hb z.1)).trans (if_neg (fun z => hb z.1))) ((if_pos ⟨rfl, rfl⟩).trans (by rw [hlen]; rfl)) (by omega) (by omega)
        (fun k hk => by
          rw [getD_ins hpl]
          show (if E2 i = E2 i ∧ k = p then some a else (if E2 i = E2 i ∧ p + 1 ≤ k ∧ k < p + 1 + ((ls i).length - p) then sR S2 (E2 i) (p + (k - (p + 1))) else sR S2 (E2 i) k)) = _
          by_cases c : k = p
          · rw [if_pos ⟨rfl, c⟩, if_neg (by omega), if_pos c]
          · rw [if_neg (fun z => c z.2)]
            by_cases d : k < p
            · rw [if_neg (by omega), if_pos d]; exact h2.el hi (by omega)
            · rw [if_pos (by omega), if_neg d, if_neg c, h2.el hi (by omega), show p + (k - (p + 1)) = k - 1 by omega])
        (fun b hb => by
          rcases mem_insAt hb with z | z
          · rw [z]; exact ha2
          · exact h2.2.2.2.1 i hi b z)
      exact hp _ _ E2 hput.1 (f2.tr hput.2) hn2
  unfold wp_Jx4a65c_add_7a177 wp_Jx4a65c_rangeCheckForAdd_d00df
  rw [← hS1]
  simp (disch := omega) only [eq_true (h.k hi), h.n hi, h1.e hi, h1.n hi, true_and, Option.some.injEq, exists_eq_left', oN, iI_0, iI_lt, iI_le]
  refine ⟨fun c => absurd c (by omega), fun _ => ⟨fun _ => ?_, fun c => absurd c (by omega)⟩⟩
  rintro _ rfl _ rfl
  have hle := h1.le hi; have b4 := h1.cm hi; have b5 := cm_b i
  refine ⟨h1.k14 hi, fun c => ?_, fun c => ?_⟩
  · rw [iI_eq (by omega) (by omega) (by omega) (by omega)] at c
    exact fin S1 n E h1 f1 (by omega) (by rw [p1]; omega)
  · rw [iI_eq (by omega) (by omega) (by omega) (by omega)] at c
    exact h1.grow hi h20 (by omega) hm hn (fun S2 n2 E2 h2 f2 hr hn2 => fin S2 n2 E2 h2 (f1.tr f2) hr (by rw [← p1]; exact hn2))
theorem RLs.clear (h : RLs I S L E ls) {i n : Nat} (hi : I i) {post : fMS → Nat → Prop}
    (hp : ∀ (S' : fMS), RLs I S' L E (lsU ls i []) → frL S S' → pot S' E = pot S E → post S' n) : wp_Jx4a65c_clear_da8c8 S n (L i) post := by
  have b1 := h.mx hi; have b2 := mx_b i; have hle := h.le hi
  have b4 := h.cm hi; have b5 := cm_b i
  have e1 : sI (wI S (L i) 0 ((sI S (L i) 0) + (1 : Int32))) (L i) 2 = iI (ls i).length := (if_neg (fun z => absurd z.2 (by decide))).trans (h.n hi)
  have e2 : sR (wI S (L i) 0 ((sI S (L i) 0) + (1 : Int32))) (L i) 1 = some (E i) := h.e hi
  unfold wp_Jx4a65c_clear_da8c8
  rw [eq_true (h.k hi), true_and, e1, e2]
  rintro _ rfl _ rfl
  have hput := RLs.put (S' := wI (wI S (L i) 0 ((sI S (L i) 0) + (1 : Int32))) (L i) 2 (0 : Int32)) (i := i) (L := L) (E := E) (ls := ls) (I := I) (S := wI S (L i) 0 ((sI S (L i) 0) + (1 : Int32))) (h.mod hi _).1 hi (l := []) rfl rfl rfl rfl rfl
      (fun b k => by
        by_cases c : b = L i ∧ k = 2
        · exact Or.inl c
        · exact Or.inr (if_neg c)) (fun b k => rfl) (fun b k hb => rfl) (if_pos ⟨rfl, rfl⟩) (by simp) (by simp) (fun k hk => absurd hk (by simp)) (fun b hb => absurd hb (by simp))
  have key : ∀ (d k : Nat) (S2 : fMS), k + d = (ls i).length → RLs I S2 L E (lsU ls i []) → frL S S2 → pot S2 E = pot S E → sN S2 = sN S → wB_Jx4a65c_clear_da8c8_27 post (L i) (d + 1) S2 n (some (E i)) (iI (ls i).length) (iI k) := by
    intro d; induction d with
    | zero =>
      intro k S2 hk h2 f2 p2 n2
      simp only [wB_Jx4a65c_clear_da8c8_27]
      simp (disch := omega) only [iI_le]
      exact ⟨fun _ => hp S2 h2 f2 p2, fun c => absurd c (by omega)⟩
    | succ d ih =>
      intro k S2 hk h2 f2 p2 n2
      have k14 := h2.k14' hi (by rw [n2]; omega)
      have l0 : lsU ls i [] i = [] := lsU_at
      rw [wB_Jx4a65c_clear_da8c8_27]
      simp (disch := omega) only [iI_le, Option.some.injEq, exists_eq_left', eq_true k14, true_and, iI_in, iI_nat, iI_1, iI_add, Int.toNat_natCast, n2]
      refine ⟨fun c => absurd c (by omega), fun _ => ⟨by omega, Or.inl rfl, ?_⟩⟩
      rintro _ rfl
      have hp2 := RLs.put (S' := wR S2 (E i) k none) h2 hi (l := []) rfl rfl rfl rfl rfl (fun b k => Or.inr rfl) (fun b k => rfl) (fun b k hb => if_neg (fun z => hb z.1)) (by
        have := h2.n hi; rw [l0] at this; exact this) (by simp) (by simp) (fun k hk => absurd hk (by simp)) (fun b hb => absurd hb (by simp))
      rw [lsU_lsU] at hp2
      exact ih (k + 1) _ (by omega) hp2.1 (f2.tr hp2.2) p2 n2
  exact ⟨_, key (ls i).length 0 _ (by omega) hput.1 ((h.mod hi _).2.tr hput.2) rfl rfl⟩
theorem getD_del {l : List Nat} {p k : Nat} : (l.eraseIdx p).getD k 0 = if k < p then l.getD k 0 else l.getD (k + 1) 0 := by
  simp only [List.getD_eq_getElem?_getD, List.getElem?_eraseIdx]
  split <;> rfl
theorem RLs.del (h : RLs I S L E ls) {i p n : Nat} (hi : I i) (hpl : p < (ls i).length) {post : Option Nat → fMS → Nat → Prop}
    (hp : ∀ (S' : fMS), RLs I S' L E (lsU ls i ((ls i).eraseIdx p)) → frL S S' → pot S' E = pot S E → post (some ((ls i).getD p 0)) S' n) : wp_Jx4a65c_remove_915e3 S n (L i) (iI p) post := by
  have b1 := h.mx hi; have b2 := mx_b i; have hle := h.le hi
  have b4 := h.cm hi; have b5 := cm_b i
  have k14 := h.k14' hi (by omega)
  obtain ⟨S1, hS1⟩ : ∃ S1, S1 = wI S (L i) 0 ((sI S (L i) 0) + (1 : Int32)) := ⟨_, rfl⟩
  have hmod := h.mod hi ((sI S (L i) 0) + (1 : Int32))
  rw [← hS1] at hmod
  obtain ⟨h1, f1⟩ := hmod
  have n1 : sN S1 = sN S := by rw [hS1]; rfl
  have k14' := f1.a k14
  have hlen : ((ls i).eraseIdx p).length = (ls i).length - 1 := by rw [List.length_eraseIdx_of_lt hpl]
  have e8 : ∀ S2, frL S S2 → ∀ a ∈ (ls i).eraseIdx p, isA S2 1 a ∨ isA S2 2 a ∨ isA S2 3 a := fun S2 f2 a ha => (h.2.2.2.1 i hi a (List.mem_of_mem_eraseIdx ha)).imp f2.a (Or.imp f2.a f2.a)
  have hLE : L i ≠ E i := fun e => by
    have h6 := h.k hi
    rw [e] at h6; have := h6.2.symm.trans k14.2; omega
  -- the end: the length written, the last place emptied
  have fin : ∀ (S2 : fMS), sL S2 = sL S1 → sK S2 = sK S1 → sN S2 = sN S1 → sE S2 = sE S1 → sM S2 = sM S1 → (∀ b k, sI S2 b k = sI S1 b k) → (∀ b k, sJ S2 b k = sJ S1 b k) → (∀ b k, b ≠ E i → sR S2 b k = sR S1 b k) →
      (∀ k, k < (ls i).length - 1 → sR S2 (E i) k = some (((ls i).eraseIdx p).getD k 0)) →
      wB_Jx4a65c_fastRemove_b59b0_34 (fun S9 n10 => post (some ((ls i).getD p 0)) S9 n10) (L i) (some (E i)) (iI p) S2 n (iI (((ls i).length : Int) - 1)) := by
    intro S2 s1 s2 s3 s4 s5 hI hJ hR hel
    have kk : isA S2 6 (L i) := ⟨by rw [s1]; exact (h1.k hi).1, by rw [s2]; exact (h1.k hi).2⟩
    have k142 : isA (wI S2 (L i) 2 (iI (((ls i).length : Int) - 1))) 14 (E i) := ⟨by show E i ∈ sL S2; rw [s1]; exact k14'.1, by show sK S2 (E i) = 14; rw [s2]; exact k14'.2⟩
    have hto : ((((ls i).length : Int) - 1).toNat) = (ls i).length - 1 := by omega
    unfold wB_Jx4a65c_fastRemove_b59b0_34
    simp (disch := omega) only [eq_true kk, Option.some.injEq, exists_eq_left', eq_true k142, true_and, iI_nat, hto]
    have kw : ∀ x : Nat, vp_in (iI (((ls i).length : Int) - 1)) x = ((0 : Int) ≤ ((ls i).length : Int) - 1 ∧ ((ls i).length : Int) - 1 < x) := fun x => iI_in (by omega) (by omega)
    rw [kw]
    refine ⟨⟨by omega, ?_⟩, Or.inl rfl, ?_⟩
    · show ((ls i).length : Int) - 1 < ((sN S2 (E i) : Nat) : Int)
      rw [s3, n1]; omega
    have hput := RLs.put (S' := wR (wI S2 (L i) 2 (iI (((ls i).length : Int) - 1))) (E i) ((ls i).length - 1) none) h1 hi (l := (ls i).eraseIdx p) s1 s2 s3 s4 s5
      (fun b k => by
        by_cases c : b = L i ∧ k = 2
        · exact Or.inl c
        · exact Or.inr ((if_neg c).trans (hI b k))) (fun b k => hJ b k) (fun b k hb => (if_neg (fun z => hb z.1)).trans (hR b k hb)) ((if_pos ⟨rfl, rfl⟩).trans (by rw [hlen]; congr 1; omega)) (by rw [n1]; omega) (by omega)
      (fun k hk => by
        show (if E i = E i ∧ k = (ls i).length - 1 then none else sR S2 (E i) k) = _
        rw [if_neg (by omega)]; exact hel k (by omega)) (e8 S1 f1)
    exact hp _ hput.1 (f1.tr hput.2) (pot_eq (by show sN S2 = sN S; rw [s3, n1]))
  have nE : ∀ k, sR S1 (E i) k = sR S (E i) k := fun k => by rw [hS1]; rfl
  unfold wp_Jx4a65c_remove_915e3 wp_J15_checkIndex_7cf53 wp_J3_checkIndex_8e157 wB_J3_checkIndex_8e157_9
  simp (disch := omega) only [eq_true (h.k hi), h.n hi, h.e hi, true_and, iI_0, iI_lt]
  refine ⟨fun c => absurd c (by omega), fun _ => ⟨fun _ => ?_, fun c => absurd c (by omega)⟩⟩
  rintro _ rfl
  simp (disch := omega) only [Option.some.injEq, exists_eq_left', eq_true k14, true_and, iI_in, iI_nat, Int.toNat_natCast, h.el hi hpl]
  refine ⟨by omega, ?_⟩
  rintro _ rfl
  unfold wp_Jx4a65c_fastRemove_b59b0
  rw [← hS1]
  simp (disch := omega) only [eq_true (h.k hi), h1.n hi, true_and, iI_1, iI_sub, iI_le]
  rintro _ rfl
  refine ⟨fun c => ?_, fun c => ?_⟩
  · refine fin S1 rfl rfl rfl rfl rfl (fun _ _ => rfl) (fun _ _ => rfl) (fun _ _ _ => rfl) (fun k hk => ?_)
    rw [getD_del, if_pos (by omega), nE, h.el hi (by omega)]
  · have hsub : ((((ls i).length : Int) - 1 - (p : Int)).toNat) = (ls i).length - 1 - p := by omega
    have hsuc : (((p : Int) + 1).toNat) = p + 1 := by omega
    simp (disch := omega) only [Option.some.injEq, exists_eq_left', eq_true k14', true_and, iI_add, iI_sub, iI_0, iI_lt, iI_nat, Int.toNat_natCast, hsub, hsuc]
    refine ⟨⟨by omega, by omega, by omega, by rw [n1]; omega, by rw [n1]; omega, fun k hk => ?_⟩, ?_⟩
    · rw [h1.el hi (by omega)]
      refine Or.inr ⟨_, rfl, ?_⟩
      exact h1.2.2.2.1 i hi _ (by rw [List.getD_eq_getElem?_getD, List.getElem?_eq_getElem (by omega)]; exact List.getElem_mem _)
    · refine fin _ rfl rfl rfl rfl rfl (fun _ _ => rfl) (fun _ _ => rfl) (fun b k hb => if_neg (fun z => hb z.1)) (fun k hk => ?_)
      show (if E i = E i ∧ p ≤ k ∧ k < p + ((ls i).length - 1 - p) then sR S1 (E i) (p + 1 + (k - p)) else sR S1 (E i) k) = _
      rw [getD_del]
      by_cases d : k < p
      · rw [if_neg (by omega), if_pos d, nE, h.el hi (by omega)]
      · rw [if_pos (by omega), if_neg d, nE, show p + 1 + (k - p) = k + 1 by omega, h.el hi (by omega)]
end
