-- ===== the broker's memory =====
/-- which lists there are: 0 teams, 2 jobs, 3 alive ones, 4 reservations, 5 the line, 6 victims, 10 + k the children of k -/
def vid (nt : Int) (i : Nat) : Prop := i = 0 ∨ i = 2 ∨ i = 3 ∨ i = 4 ∨ i = 5 ∨ i = 6 ∨ (10 ≤ i ∧ (i : Int) < 10 + nt)
/-- how long a list may get, and its row -/
def lmx (i : Nat) : Nat := if i = 2 then 512 else 40
def lcp (i : Nat) : Nat := if i = 2 then 800 else 70
def RLs (I : Nat → Prop) (S : fMS) (L E : Nat → Nat) (ls : Nat → List Nat) : Prop :=
  (sE S ∉ sL S ∧ sN S (sE S) = 0) ∧ (∀ i, ¬ I i → E i = sE S) ∧
  (∀ i, I i → isA S 6 (L i) ∧ sR S (L i) 1 = some (E i) ∧ sI S (L i) 2 = iI (ls i).length ∧ ((isA S 14 (E i) ∧ 10 ≤ sN S (E i)) ∨ E i = sE S) ∧ (ls i).length ≤ sN S (E i) ∧ sN S (E i) ≤ lcp i ∧ (ls i).length ≤ lmx i ∧ ∀ k, k < (ls i).length → sR S (E i) k = some ((ls i).getD k 0)) ∧
  (∀ i, I i → ∀ a ∈ ls i, isA S 1 a ∨ isA S 2 a ∨ isA S 3 a) ∧
  (∀ i j, I i → I j → L i = L j → i = j) ∧ (∀ i j, I i → I j → E i = E j → i = j ∨ E i = sE S)
/-- nothing but lists and their rows changed -/
def frL (S S' : fMS) : Prop :=
  (∀ a ∈ sL S, a ∈ sL S' ∧ sK S' a = sK S a ∧ sN S' a = sN S a) ∧ sE S' = sE S ∧ sM S' = sM S ∧
  ∀ a ∈ sL S, sK S a ≠ 6 → sK S a ≠ 14 → ∀ i, sI S' a i = sI S a i ∧ sJ S' a i = sJ S a i ∧ sR S' a i = sR S a i
theorem frL.rf {S : fMS} : frL S S := ⟨fun a h => ⟨h, rfl, rfl⟩, rfl, rfl, fun a h _ _ i => ⟨rfl, rfl, rfl⟩⟩
theorem frL.tr {S S' S'' : fMS} (h : frL S S') (h2 : frL S' S'') : frL S S'' := by
  refine ⟨fun a ha => ?_, h2.2.1.trans h.2.1, h2.2.2.1.trans h.2.2.1, fun a ha k6 k14 i => ?_⟩
  · have h1 := h.1 a ha; have h3 := h2.1 a h1.1
    exact ⟨h3.1, h3.2.1.trans h1.2.1, h3.2.2.trans h1.2.2⟩
  · have h1 := h.1 a ha; have h3 := h.2.2.2 a ha k6 k14 i
    have h4 := h2.2.2.2 a h1.1 (by rw [h1.2.1]; exact k6) (by rw [h1.2.1]; exact k14) i
    exact ⟨h4.1.trans h3.1, h4.2.1.trans h3.2.1, h4.2.2.trans h3.2.2⟩
theorem frL.a {S S' : fMS} (h : frL S S') {k a : Nat} (ha : isA S k a) : isA S' k a := ⟨(h.1 a ha.1).1, (h.1 a ha.1).2.1.trans ha.2⟩
/-- what the rows of the lists cost -/
def potF (S : fMS) (E : Nat → Nat) : Nat → Nat
  | 0 => 0
  | k + 1 => 4 * sN S (E k) + potF S E k
def pot (S : fMS) (E : Nat → Nat) : Nat := potF S E 20
def RN (S : fMS) (E : Nat → Nat) (n B : Nat) : Prop := n ≤ B + pot S E
theorem potF_c {S S' : fMS} {E E' : Nat → Nat} : ∀ d, (∀ k, k < d → sN S' (E' k) = sN S (E k)) → potF S' E' d = potF S E d := by
  intro d; induction d with
  | zero => intro _; rfl
  | succ d ih => intro h; simp only [potF]; rw [h d (by omega), ih (fun k hk => h k (by omega))]
theorem potF_u {S S' : fMS} {E E' : Nat → Nat} {i c' : Nat} : ∀ d, i < d → (∀ k, k < d → k ≠ i → sN S' (E' k) = sN S (E k)) → sN S' (E' i) = c' → potF S' E' d + 4 * sN S (E i) = potF S E d + 4 * c' := by
  intro d; induction d with
  | zero => intro h; omega
  | succ d ih =>
    intro h h1 h2
    simp only [potF]
    by_cases e : i = d
    · subst e
      rw [h2, potF_c i (fun k hk => h1 k (by omega) (by omega))]; omega
    · have := ih (by omega) (fun k hk => h1 k (by omega)) h2
      rw [h1 d (by omega) (fun z => e z.symm)]; omega
theorem vid_20 {nt : Int} {i : Nat} (h : vid nt i) (hn : nt ≤ 10) : i < 20 := by unfold vid at h; omega
section
variable {I : Nat → Prop} {S : fMS} {L E : Nat → Nat} {ls : Nat → List Nat}
theorem RLs.k (h : RLs I S L E ls) {i : Nat} (hi : I i) : isA S 6 (L i) := (h.2.2.1 i hi).1
theorem RLs.e (h : RLs I S L E ls) {i : Nat} (hi : I i) : sR S (L i) 1 = some (E i) := (h.2.2.1 i hi).2.1
theorem RLs.n (h : RLs I S L E ls) {i : Nat} (hi : I i) : sI S (L i) 2 = iI (ls i).length := (h.2.2.1 i hi).2.2.1
theorem RLs.k14 (h : RLs I S L E ls) {i : Nat} (hi : I i) : isA S 14 (E i) ∨ E i = sE S := ((h.2.2.1 i hi).2.2.2.1).imp And.left id
theorem RLs.k14p (h : RLs I S L E ls) {i : Nat} (hi : I i) : (isA S 14 (E i) ∧ 10 ≤ sN S (E i)) ∨ E i = sE S := (h.2.2.1 i hi).2.2.2.1
theorem RLs.le (h : RLs I S L E ls) {i : Nat} (hi : I i) : (ls i).length ≤ sN S (E i) := (h.2.2.1 i hi).2.2.2.2.1
theorem RLs.cm (h : RLs I S L E ls) {i : Nat} (hi : I i) : sN S (E i) ≤ lcp i := (h.2.2.1 i hi).2.2.2.2.2.1
theorem RLs.mx (h : RLs I S L E ls) {i : Nat} (hi : I i) : (ls i).length ≤ lmx i := (h.2.2.1 i hi).2.2.2.2.2.2.1
theorem RLs.el (h : RLs I S L E ls) {i : Nat} (hi : I i) {k : Nat} (hk : k < (ls i).length) : sR S (E i) k = some ((ls i).getD k 0) := (h.2.2.1 i hi).2.2.2.2.2.2.2 k hk
theorem cm_b (i : Nat) : lcp i ≤ 800 := by unfold lcp; split <;> omega
theorem mx_b (i : Nat) : lmx i ≤ 512 := by unfold lmx; split <;> omega
/-- a row that is not empty -/
theorem RLs.k14' (h : RLs I S L E ls) {i : Nat} (hi : I i) (hn : 0 < sN S (E i)) : isA S 14 (E i) := by
  rcases h.k14 hi with z | z
  · exact z
  · rw [z, h.1.2] at hn; omega
theorem RLs.size (h : RLs I S L E ls) {i : Nat} (hi : I i) (post : Int32 → Prop) : wp_Jx4a65c_size_8abf5 S (L i) post = post (iI (ls i).length) := by
  unfold wp_Jx4a65c_size_8abf5; rw [h.n hi, eq_true (h.k hi), true_and]
theorem RLs.get (h : RLs I S L E ls) {i : Nat} (hi : I i) {k : Nat} (hk : k < (ls i).length) (post : Option Nat → Prop) : wp_Jx4a65c_get_915e3 S (L i) (iI k) post = post (some ((ls i).getD k 0)) := by
  have b1 := h.mx hi; have b2 := mx_b i; have b3 := h.le hi; have b4 := h.cm hi; have b5 := cm_b i
  have k14 := h.k14' hi (by omega)
  unfold wp_Jx4a65c_get_915e3 wp_J15_checkIndex_7cf53 wp_J3_checkIndex_8e157 wB_J3_checkIndex_8e157_9 wp_Jx4a65c_elementData_915e3
  simp (disch := omega) only [eq_true (h.k hi), h.n hi, h.e hi, Option.some.injEq, exists_eq_left', eq_true k14, true_and, iI_0, iI_lt, iI_in, iI_nat, Int.toNat_natCast, h.el hi hk]
  apply propext
  constructor
  · rintro ⟨-, z⟩; exact ((z (by omega)).1 (by omega)).2
  · intro z; exact ⟨fun y => absurd y (by omega), fun _ => ⟨fun _ => ⟨by omega, z⟩, fun y => absurd y (by omega)⟩⟩
theorem RLs.empty (h : RLs I S L E ls) {i : Nat} (hi : I i) {post : Int32 → Prop} (hp : post (iI (b01 ((ls i).length = 0)))) : wp_Jx4a65c_isEmpty_aae02 S (L i) post := by
  have b1 := h.mx hi; have b2 := mx_b i
  unfold wp_Jx4a65c_isEmpty_aae02
  simp (disch := omega) only [eq_true (h.k hi), h.n hi, true_and, iI_0, iI_1, iI_eq]
  refine ⟨fun c => ?_, fun c => ?_⟩
  · rw [b01_f (by omega)] at hp; exact hp
  · rw [b01_t (by omega)] at hp; exact hp
end
