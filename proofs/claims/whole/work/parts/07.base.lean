-- ===== whole numbers in ints =====
abbrev fG2 : Type := Nat → Nat → Int
def iI (x : Int) : Int32 := Int32.ofInt x
def jJ (x : Int) : Int64 := Int64.ofInt x
theorem iI_add (a b : Int) : iI a + iI b = iI (a + b) := (Int32.ofInt_add a b).symm
theorem iI_sub (a b : Int) : iI a - iI b = iI (a - b) := (Int32.ofInt_sub a b).symm
theorem iI_mul (a b : Int) : iI a * iI b = iI (a * b) := (Int32.ofInt_mul a b).symm
theorem iI_neg (a : Int) : - iI a = iI (-a) := (Int32.ofInt_neg a).symm
theorem iI_toInt {a : Int} (h1 : -2147483648 ≤ a) (h2 : a ≤ 2147483647) : (iI a).toInt = a := Int32.toInt_ofInt_of_le (by omega) (by omega)
theorem iI_lt {a b : Int} (h1 : -2147483648 ≤ a) (h2 : a ≤ 2147483647) (h3 : -2147483648 ≤ b) (h4 : b ≤ 2147483647) : (iI a < iI b) = (a < b) := by
  rw [Int32.lt_iff_toInt_lt, iI_toInt h1 h2, iI_toInt h3 h4]
theorem iI_le {a b : Int} (h1 : -2147483648 ≤ a) (h2 : a ≤ 2147483647) (h3 : -2147483648 ≤ b) (h4 : b ≤ 2147483647) : (iI a ≤ iI b) = (a ≤ b) := by
  rw [Int32.le_iff_toInt_le, iI_toInt h1 h2, iI_toInt h3 h4]
theorem iI_eq {a b : Int} (h1 : -2147483648 ≤ a) (h2 : a ≤ 2147483647) (h3 : -2147483648 ≤ b) (h4 : b ≤ 2147483647) : (iI a = iI b) = (a = b) := by
  rw [← Int32.toInt_inj, iI_toInt h1 h2, iI_toInt h3 h4]
theorem iI_nat {a : Int} (h1 : -2147483648 ≤ a) (h2 : a ≤ 2147483647) : Int32.toNatClampNeg (iI a) = a.toNat := by
  show (iI a).toInt.toNat = _; rw [iI_toInt h1 h2]
theorem iI_in {a : Int} {N : Nat} (h1 : -2147483648 ≤ a) (h2 : a ≤ 2147483647) : vp_in (iI a) N = (0 ≤ a ∧ a < (N : Int)) := by
  unfold vp_in
  rw [iI_nat h1 h2, show (0 : Int32) = iI 0 from rfl, iI_lt h1 h2 (by omega) (by omega)]
  apply propext; omega
theorem iI_0 : (0 : Int32) = iI 0 := rfl
theorem iI_1 : (1 : Int32) = iI 1 := rfl
theorem iI_m1 : (-1 : Int32) = iI (-1) := rfl
theorem iI_2 : (2 : Int32) = iI 2 := rfl
/-- a whole number below a bound: what loops over teams and jobs sum -/
def fSum (f : Nat → Int) : Nat → Nat → Int
  | _, 0 => 0
  | k, d + 1 => f k + fSum f (k + 1) d
-- ===== the reference's memory =====
def rA (f : Nat) : Bool := f == 5 || f == 6 || f == 7 || f == 8 || f == 9 || f == 10 || f == 11 || f == 13 || f == 14 || f == 15 || f == 16 || f == 17 || f == 18 || f == 19 || f == 23 || f == 24 || f == 25 || f == 26 || f == 27 || f == 28 || f == 29 || f == 31
def rS (f : Nat) : Bool := f == 0 || f == 1 || f == 2 || f == 3 || f == 4 || f == 12 || f == 20 || f == 21 || f == 22 || f == 30 || f == 32
def rK (f : Nat) : Nat := if f = 8 then 12 else if f = 9 then 13 else 11
def rN (f : Nat) : Nat := if f ≤ 11 then 10 else if f ≤ 19 then 640 else if f ≤ 26 then 8 else if f ≤ 29 then 10 else 40
theorem rK_ne (f : Nat) : 5 ≠ rK f := by unfold rK; split; decide; split <;> decide
def tA (f : Nat) : Bool := f == 5 || f == 6 || f == 7 || f == 9 || f == 10 || f == 11 || f == 27 || f == 28 || f == 29
def jA (f : Nat) : Bool := f == 13 || f == 14 || f == 15 || f == 16 || f == 17 || f == 18 || f == 19
def pA (f : Nat) : Bool := f == 23 || f == 24 || f == 25 || f == 26
theorem tA_of {f} (h : tA f = true) : rA f = true ∧ f ≠ 8 ∧ rN f = 10 := by unfold tA at h; simp only [Bool.or_eq_true, beq_iff_eq] at h; rcases h with (((((((h | h) | h) | h) | h) | h) | h) | h) | h <;> subst h <;> decide
theorem jA_of {f} (h : jA f = true) : rA f = true ∧ f ≠ 8 ∧ rN f = 640 := by unfold jA at h; simp only [Bool.or_eq_true, beq_iff_eq] at h; rcases h with (((((h | h) | h) | h) | h) | h) | h <;> subst h <;> decide
theorem pA_of {f} (h : pA f = true) : rA f = true ∧ f ≠ 8 ∧ rN f = 8 := by unfold pA at h; simp only [Bool.or_eq_true, beq_iff_eq] at h; rcases h with ((h | h) | h) | h <;> subst h <;> decide
def up (σ : fG2) (f j : Nat) (v : Int) : fG2 := fun g k => if g = f ∧ k = j then v else σ g k
/-- all but the reference's own numbers is as in F -/
def frX (m : Nat) (A : Nat → Nat) (F S : fMS) : Prop := sL S = sL F ∧ sK S = sK F ∧ sN S = sN F ∧ sR S = sR F ∧ sE S = sE F ∧ sM S = sM F ∧ ∀ b, b ≠ m → (∀ f, rA f = true → b ≠ A f) → ∀ j, sI S b j = sI F b j ∧ sJ S b j = sJ F b j
def RM (F S : fMS) (m : Nat) (A : Nat → Nat) (σ : fG2) : Prop :=
  isA S 5 m ∧ (∀ f, rA f = true → sR S m f = some (A f) ∧ isA S (rK f) (A f) ∧ sN S (A f) = rN f) ∧
  (∀ f g, rA f = true → rA g = true → A f = A g → f = g) ∧
  (∀ f, rS f = true → sI S m f = iI (σ f 0)) ∧
  (∀ f j, rA f = true → f ≠ 8 → j < rN f → sI S (A f) j = iI (σ f j)) ∧
  (∀ j, j < 10 → sJ S (A 8) j = jJ (σ 8 j)) ∧ frX m A F S
theorem RM.m {F S m A σ} (h : RM F S m A σ) : isA S 5 m := h.1
theorem RM.R {F S m A σ} (h : RM F S m A σ) (f : Nat) (hf : rA f = true) : sR S m f = some (A f) := (h.2.1 f hf).1
theorem RM.k {F S m A σ} (h : RM F S m A σ) (f : Nat) (hf : rA f = true) : isA S (rK f) (A f) := (h.2.1 f hf).2.1
theorem RM.N {F S m A σ} (h : RM F S m A σ) (f : Nat) (hf : rA f = true) : sN S (A f) = rN f := (h.2.1 f hf).2.2
theorem RM.s {F S m A σ} (h : RM F S m A σ) (f : Nat) (hf : rS f = true) : sI S m f = iI (σ f 0) := h.2.2.2.1 f hf
theorem RM.a {F S m A σ} (h : RM F S m A σ) (f j : Nat) (hf : rA f = true) (h8 : f ≠ 8) (hj : j < rN f) : sI S (A f) j = iI (σ f j) := h.2.2.2.2.1 f j hf h8 hj
theorem RM.J {F S m A σ} (h : RM F S m A σ) (j : Nat) (hj : j < 10) : sJ S (A 8) j = jJ (σ 8 j) := h.2.2.2.2.2.1 j hj
theorem RM.f {F S m A σ} (h : RM F S m A σ) : frX m A F S := h.2.2.2.2.2.2
theorem RM.Nt {F S m A σ} (h : RM F S m A σ) (f : Nat) (hf : tA f = true) : sN S (A f) = 10 := (h.N f (tA_of hf).1).trans (tA_of hf).2.2
theorem RM.Nj {F S m A σ} (h : RM F S m A σ) (f : Nat) (hf : jA f = true) : sN S (A f) = 640 := (h.N f (jA_of hf).1).trans (jA_of hf).2.2
theorem RM.Np {F S m A σ} (h : RM F S m A σ) (f : Nat) (hf : pA f = true) : sN S (A f) = 8 := (h.N f (pA_of hf).1).trans (pA_of hf).2.2
theorem RM.N8 {F S m A σ} (h : RM F S m A σ) : sN S (A 8) = 10 := h.N 8 rfl
theorem RM.N31 {F S m A σ} (h : RM F S m A σ) : sN S (A 31) = 40 := h.N 31 rfl
theorem RM.aT {F S m A σ} (h : RM F S m A σ) (f j : Nat) (hf : tA f = true) (hj : j < 10) : sI S (A f) j = iI (σ f j) := h.a f j (tA_of hf).1 (tA_of hf).2.1 ((tA_of hf).2.2 ▸ hj)
theorem RM.aJ {F S m A σ} (h : RM F S m A σ) (f j : Nat) (hf : jA f = true) (hj : j < 640) : sI S (A f) j = iI (σ f j) := h.a f j (jA_of hf).1 (jA_of hf).2.1 ((jA_of hf).2.2 ▸ hj)
theorem RM.aP {F S m A σ} (h : RM F S m A σ) (f j : Nat) (hf : pA f = true) (hj : j < 8) : sI S (A f) j = iI (σ f j) := h.a f j (pA_of hf).1 (pA_of hf).2.1 ((pA_of hf).2.2 ▸ hj)
theorem RM.a31 {F S m A σ} (h : RM F S m A σ) (j : Nat) (hj : j < 40) : sI S (A 31) j = iI (σ 31 j) := h.a 31 j rfl (by decide) hj
theorem RM.kI {F S m A σ} (h : RM F S m A σ) (f : Nat) (hf : rA f = true) (h1 : rK f = 11) : isA S 11 (A f) = True := eq_true (h1 ▸ h.k f hf)
theorem RM.kJ {F S m A σ} (h : RM F S m A σ) : isA S 12 (A 8) = True := eq_true (h.k 8 rfl)
theorem RM.kB {F S m A σ} (h : RM F S m A σ) : isA S 13 (A 9) = True := eq_true (h.k 9 rfl)
theorem RM.mm {F S m A σ} (h : RM F S m A σ) : isA S 5 m = True := eq_true h.1
theorem isA_ne {S k k' a b} (h : isA S k a) (h' : isA S k' b) (hk : k ≠ k') : a ≠ b := fun e => hk (h.2.symm.trans ((congrArg (sK S) e).trans h'.2))
theorem RM.wA {F S m A σ} (h : RM F S m A σ) (f j : Nat) (v : Int) (hf : rA f = true) (h8 : f ≠ 8) : RM F (wI S (A f) j (iI v)) m A (up σ f j v) := by
  refine ⟨h.1, h.2.1, h.2.2.1, ?_, ?_, ?_, h.f.1, h.f.2.1, h.f.2.2.1, h.f.2.2.2.1, h.f.2.2.2.2.1, h.f.2.2.2.2.2.1, fun b hb hA i => ⟨(if_neg (fun z => hA f hf z.1)).trans (h.f.2.2.2.2.2.2 b hb hA i).1, (h.f.2.2.2.2.2.2 b hb hA i).2⟩⟩
  · intro g hg
    have : m ≠ A f := isA_ne h.m (h.k f hf) (rK_ne f)
    show (if m = A f ∧ g = j then iI v else sI S m g) = _
    have hgf : g ≠ f := by intro e; subst e; revert hg hf; unfold rS rA; simp; omega
    simp [this, h.s g hg, up, hgf]
  · intro g k hg hg8 hk
    show (if A g = A f ∧ k = j then iI v else sI S (A g) k) = _
    by_cases e : g = f
    · subst e; by_cases e2 : k = j
      · subst e2; simp [up]
      · simp [up, e2, h.a g k hg hg8 hk]
    · have : A g ≠ A f := fun e2 => e (h.2.2.1 g f hg hf e2)
      simp [this, up, e, h.a g k hg hg8 hk]
  · intro k hk
    show sJ S (A 8) k = _
    rw [h.J k hk]; simp [up, Ne.symm h8]
theorem RM.wS {F S m A σ} (h : RM F S m A σ) (f : Nat) (v : Int) (hf : rS f = true) : RM F (wI S m f (iI v)) m A (up σ f 0 v) := by
  have hne : ∀ g, rA g = true → A g ≠ m := fun g hg => (isA_ne h.m (h.k g hg) (rK_ne g)).symm
  have hgf : ∀ g, rA g = true → g ≠ f := by intro g hg e; subst e; revert hg hf; unfold rS rA; simp; omega
  refine ⟨h.1, h.2.1, h.2.2.1, ?_, ?_, ?_, h.f.1, h.f.2.1, h.f.2.2.1, h.f.2.2.2.1, h.f.2.2.2.2.1, h.f.2.2.2.2.2.1, fun b hb hA i => ⟨(if_neg (fun z => hb z.1)).trans (h.f.2.2.2.2.2.2 b hb hA i).1, (h.f.2.2.2.2.2.2 b hb hA i).2⟩⟩
  · intro g hg
    show (if m = m ∧ g = f then iI v else sI S m g) = _
    by_cases e : g = f
    · subst e; simp [up]
    · simp [e, up, h.s g hg]
  · intro g k hg hg8 hk
    show (if A g = m ∧ k = f then iI v else sI S (A g) k) = _
    simp [hne g hg, up, hgf g hg, h.a g k hg hg8 hk]
  · intro k hk
    show sJ S (A 8) k = _
    rw [h.J k hk]; simp [up, Ne.symm (hgf 8 rfl).symm]
theorem RM.wL {F S m A σ} (h : RM F S m A σ) (j : Nat) (v : Int) : RM F (wJ S (A 8) j (jJ v)) m A (up σ 8 j v) := by
  refine ⟨h.1, h.2.1, h.2.2.1, ?_, ?_, ?_, h.f.1, h.f.2.1, h.f.2.2.1, h.f.2.2.2.1, h.f.2.2.2.2.1, h.f.2.2.2.2.2.1, fun b hb hA i => ⟨(h.f.2.2.2.2.2.2 b hb hA i).1, (if_neg (fun z => hA 8 rfl z.1)).trans (h.f.2.2.2.2.2.2 b hb hA i).2⟩⟩
  · intro g hg
    have : g ≠ 8 := by intro e; subst e; revert hg; decide
    show sI S m g = _; rw [h.s g hg]; simp [up, this]
  · intro g k hg hg8 hk
    show sI S (A g) k = _; rw [h.a g k hg hg8 hk]; simp [up, hg8]
  · intro k hk
    show (if A 8 = A 8 ∧ k = j then jJ v else sJ S (A 8) k) = _
    by_cases e2 : k = j
    · subst e2; simp [up]
    · simp [up, e2, h.J k hk]
