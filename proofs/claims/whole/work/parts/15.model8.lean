theorem jJ_toInt {a : Int} (h1 : -9000000000000000000 ≤ a) (h2 : a ≤ 9000000000000000000) : (jJ a).toInt = a := Int64.toInt_ofInt_of_le (by omega) (by omega)
theorem jJ_mul (a b : Int) : jJ a * jJ b = jJ (a * b) := (Int64.ofInt_mul a b).symm
theorem jJ_add (a b : Int) : jJ a + jJ b = jJ (a + b) := (Int64.ofInt_add a b).symm
theorem iI_j {a : Int} (h1 : -2147483648 ≤ a) (h2 : a ≤ 2147483647) : Int32.toInt64 (iI a) = jJ a := Int32.toInt64_ofInt (by show (-2147483648 : Int) ≤ a; exact h1) (by show a ≤ (2147483647 : Int); exact h2)
theorem jJ_lt {a b : Int} (h1 : -9000000000000000000 ≤ a) (h2 : a ≤ 9000000000000000000) (h3 : -9000000000000000000 ≤ b) (h4 : b ≤ 9000000000000000000) : (jJ a < jJ b) = (a < b) := by
  rw [Int64.lt_iff_toInt_lt, jJ_toInt h1 h2, jJ_toInt h3 h4]
theorem jJ_eq {a b : Int} (h1 : -9000000000000000000 ≤ a) (h2 : a ≤ 9000000000000000000) (h3 : -9000000000000000000 ≤ b) (h4 : b ≤ 9000000000000000000) : (jJ a = jJ b) = (a = b) := by
  rw [← Int64.toInt_inj, jJ_toInt h1 h2, jJ_toInt h3 h4]
theorem jJ_cmp {a b : Int} (h1 : -9000000000000000000 ≤ a) (h2 : a ≤ 9000000000000000000) (h3 : -9000000000000000000 ≤ b) (h4 : b ≤ 9000000000000000000) : lg_cmp (jJ a) (jJ b) = iI (if b < a then 1 else if a = b then 0 else -1) := by
  unfold lg_cmp
  simp only [GT.gt, jJ_lt h3 h4 h1 h2, jJ_eq h1 h2 h3 h4]
  split
  · rfl
  · split <;> rfl
def ahd (σ : fG2) (t x : Nat) : Prop := σ 8 t * σ 6 x < σ 8 x * σ 6 t ∨ (σ 8 t * σ 6 x = σ 8 x * σ 6 t ∧ t < x)
noncomputable def ahB (σ : fG2) (t x : Nat) : Bool := haveI := Classical.propDecidable; decide (ahd σ t x)
section
variable {F S : fMS} {m n : Nat} {A : Nat → Nat} {σ : fG2}
/-- use: not below 0 -/
def okV (σ : fG2) : Prop := ∀ k, 0 ≤ σ 8 k
theorem sp_isAhead (h : RM F S m A σ) (hB : okB σ) (hS : okS σ) (hV : okV σ) {t x : Nat} (ht : t < 10) (hx : x < 10) {post : Int32 → Prop} (h1 : ahd σ t x → post (iI 1)) (h0 : ¬ ahd σ t x → post (iI 0)) : wp_X4_isAhead S m (iI t) (iI x) post := by
  have b1 := hB 8 t; have b2 := hB 8 x; have w1 := hS t; have w2 := hS x; have v1 := hV t; have v2 := hV x
  have m1 := mul_bd v1 b1.2 w2.2.2.2.2.1 w2.2.2.2.2.2
  have m2 := mul_bd v2 b2.2 w1.2.2.2.2.1 w1.2.2.2.2.2
  unfold wp_X4_isAhead
  simp (disch := first | decide | omega) only [h.s, h.mm, h.R, h.Nt, h.N8, h.kI, h.kJ, h.aT, h.J, iI_j, jJ_mul, iI_in, iI_nat, iI_0, iI_1, iI_le, Option.some.injEq, exists_eq_left', true_and, Int.toNat_natCast]
  refine ⟨by omega, by omega, ?_⟩
  rintro _ rfl
  refine ⟨by omega, by omega, ?_⟩
  rintro _ rfl
  rw [jJ_cmp (by omega) (by omega) (by omega) (by omega)]
  unfold ahd at h1 h0
  by_cases c1 : σ 8 x * σ 6 t < σ 8 t * σ 6 x
  · rw [if_pos c1]
    simp (disch := omega) only [iI_eq, iI_le]
    exact ⟨fun c => absurd c (by omega), fun _ => ⟨fun _ => h0 (by omega), fun c => absurd c (by omega)⟩⟩
  · rw [if_neg c1]
    by_cases c2 : σ 8 t * σ 6 x = σ 8 x * σ 6 t
    · rw [if_pos c2]
      simp (disch := omega) only [iI_eq, iI_le]
      exact ⟨fun _ => ⟨fun c => h0 (by omega), fun c => h1 (by omega)⟩, fun c => absurd trivial c⟩
    · rw [if_neg c2]
      simp (disch := omega) only [iI_eq, iI_le]
      exact ⟨fun c => absurd c (by omega), fun _ => ⟨fun c => absurd c (by omega), fun _ => h1 (by omega)⟩⟩
end
