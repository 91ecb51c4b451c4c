/-- all that is kept is small -/
def okB (σ : fG2) : Prop := ∀ f j, -100000000 ≤ σ f j ∧ σ f j ≤ 100000000
def b01 (p : Prop) [Decidable p] : Int := if p then 1 else 0
theorem b01_t {p : Prop} [Decidable p] (h : p) : b01 p = 1 := if_pos h
theorem b01_f {p : Prop} [Decidable p] (h : ¬ p) : b01 p = 0 := if_neg h
theorem b01_0 {p : Prop} [Decidable p] : (b01 p = 0) = ¬ p := by unfold b01; split <;> simp_all
theorem b01_b {p : Prop} [Decidable p] : 0 ≤ b01 p ∧ b01 p ≤ 1 := by unfold b01; split <;> omega
theorem nar_b {p : Prop} [Decidable p] : narrow .boolean (.int (iI (b01 p))) = .int (iI (b01 p)) := by unfold b01; split <;> decide
theorem sp_in {S : fMS} {a b c : Int} (ha : -1000000000 ≤ a ∧ a ≤ 1000000000) (hb : -1000000000 ≤ b ∧ b ≤ 1000000000) (hc : -1000000000 ≤ c ∧ c ≤ 1000000000) {post} (hp : post (iI (b01 (b ≤ a ∧ a ≤ c)))) : wp_X4_in S (iI a) (iI b) (iI c) post := by
  unfold wp_X4_in
  simp (disch := omega) only [iI_lt, iI_0, iI_1]
  refine ⟨fun h => ?_, fun h => ⟨fun h2 => ?_, fun h2 => ?_⟩⟩
  · rw [b01_f (by omega)] at hp; exact hp
  · rw [b01_f (by omega)] at hp; exact hp
  · rw [b01_t (by omega)] at hp; exact hp
/-- any int at all, of a script -/
theorem iI_of (x : Int32) : x = iI x.toInt := (Int32.ofInt_toInt x).symm
theorem sp_in' {S : fMS} {a b c : Int} (ha : -2147483648 ≤ a ∧ a ≤ 2147483647) (hb : -1000000000 ≤ b ∧ b ≤ 1000000000) (hc : -1000000000 ≤ c ∧ c ≤ 1000000000) {post} (hp : post (iI (b01 (b ≤ a ∧ a ≤ c)))) : wp_X4_in S (iI a) (iI b) (iI c) post := by
  unfold wp_X4_in
  simp (disch := omega) only [iI_lt, iI_0, iI_1]
  refine ⟨fun h => ?_, fun h => ⟨fun h2 => ?_, fun h2 => ?_⟩⟩
  · rw [b01_f (by omega)] at hp; exact hp
  · rw [b01_f (by omega)] at hp; exact hp
  · rw [b01_t (by omega)] at hp; exact hp
section
variable {F S : fMS} {m n : Nat} {A : Nat → Nat} {σ : fG2}
theorem sp_isTeam (h : RM F S m A σ) (hT : okT σ) {t : Int} (ht : -2147483648 ≤ t ∧ t ≤ 2147483647) {post} (hp : post (iI (b01 (0 ≤ t ∧ t < σ 4 0)))) : wp_X4_isTeam S m (iI t) post := by
  have h1 := hT.1; have h2 := hT.2.1
  unfold wp_X4_isTeam
  simp (disch := first | decide | omega) only [h.s, h.mm, iI_0, iI_1, iI_sub, true_and]
  refine sp_in' ht (by omega) (by omega) ⟨nar_b, ?_⟩
  have e : (0 ≤ t ∧ t ≤ σ 4 0 - 1) ↔ (0 ≤ t ∧ t < σ 4 0) := by omega
  have e2 : b01 (0 ≤ t ∧ t ≤ σ 4 0 - 1) = b01 (0 ≤ t ∧ t < σ 4 0) := by unfold b01; simp only [e]
  rw [e2]; exact hp
def leafP (σ : fG2) (t : Int) : Prop := kidsN σ t = 0
theorem sp_isLeaf (h : RM F S m A σ) (hT : okT σ) {t : Int} (ht : -1000 ≤ t ∧ t ≤ 1000) {post} (hp : post (iI (b01 (kidsN σ t = 0)))) : wp_X4_isLeaf S m (iI t) post := by
  have hb := fSum_le (f := kidsF σ t) (c := 1) (fun k => by unfold kidsF; split <;> omega) (nt1 σ) 1
  have h1 := hT.1; have h2 := hT.2.1
  have h3 : nt1 σ ≤ 9 := by unfold nt1; omega
  have hb : 0 ≤ kidsN σ t ∧ kidsN σ t ≤ 9 := by unfold kidsN; omega
  unfold wp_X4_isLeaf
  rw [h.mm, true_and]
  refine sp_childrenOf h hT ht ?_
  simp (disch := omega) only [iI_0, iI_1, iI_eq]
  refine ⟨fun c => ?_, fun c => ?_⟩
  · rw [b01_f c] at hp; exact hp
  · rw [b01_t c] at hp; exact hp
theorem sp_leafFault (h : RM F S m A σ) (hT : okT σ) {t : Int} (ht : -2147483648 ≤ t ∧ t ≤ 2147483647) {post} (hp : post (iI (if 0 ≤ t ∧ t < σ 4 0 then (if kidsN σ t = 0 then 0 else 2) else 1))) : wp_X4_leafFault S m (iI t) post := by
  have h1 := hT.1; have h2 := hT.2.1
  unfold wp_X4_leafFault
  rw [h.mm, true_and]
  refine sp_isTeam h hT ht ?_
  have b := @b01_b (0 ≤ t ∧ t < σ 4 0) _
  simp (disch := omega) only [iI_0, iI_1, iI_2, iI_eq, b01_0]
  refine ⟨fun c => ?_, fun c => ?_⟩
  · have c := Classical.not_not.mp c
    rw [if_pos c] at hp
    refine sp_isLeaf h hT (by omega) ?_
    have b := @b01_b (kidsN σ t = 0) _
    simp (disch := omega) only [iI_eq, b01_0]
    refine ⟨fun c => ?_, fun c => ?_⟩
    · rw [if_pos (Classical.not_not.mp c)] at hp; exact hp
    · rw [if_neg c] at hp; exact hp
  · rw [if_neg c] at hp; exact hp
theorem sp_goesOn (h : RM F S m A σ) {c : Int} (hc : 0 ≤ c ∧ c ≤ 100) {post : Int32 → fMS → Nat → Prop} (hp : ∀ S', RM F S' m A (up σ 0 0 c) → post (iI (b01 (c = 0))) S' n) (hq : True) : wp_X4_goesOn S n m (iI c) post := by
  unfold wp_X4_goesOn
  have hp := hp _ (h.wS 0 c rfl)
  simp (disch := omega) only [h.mm, iI_0, iI_1, iI_eq, true_and]
  refine ⟨fun c => ?_, fun c => ?_⟩
  · rw [b01_f c] at hp; exact hp
  · rw [b01_t c] at hp; exact hp
/-- what is reserved for a leaf now -/
def rsvF (σ : fG2) (t : Int) : Nat → Int := fun k => if σ 23 k = t ∧ σ 25 k ≤ σ 1 0 ∧ σ 1 0 < σ 26 k then σ 24 k else 0
def rsvS (σ : fG2) (t : Int) : Int := fSum (rsvF σ t) 0 (σ 22 0).toNat
/-- spans -/
def okP (σ : fG2) : Prop := 0 ≤ σ 22 0 ∧ σ 22 0 ≤ 8 ∧ ∀ k, 0 ≤ σ 24 k ∧ σ 24 k ≤ 200
theorem rsv_b (hP : okP σ) (t : Int) : 0 ≤ rsvS σ t ∧ rsvS σ t ≤ 1600 := by
  have hb := fSum_le (f := rsvF σ t) (c := 200) (fun k => by unfold rsvF; have := hP.2.2 k; split <;> omega) (σ 22 0).toNat 0
  have := hP.1; have := hP.2.1
  unfold rsvS; omega
theorem sp_reservedFor (h : RM F S m A σ) (hB : okB σ) (hP : okP σ) {t : Int} (ht : -1000 ≤ t ∧ t ≤ 1000) {post} (hp : post (iI (rsvS σ t))) : wp_X4_reservedFor S m (iI t) post := by
  have q1 := hP.1; have q2 := hP.2.1
  have bt := hB 1 0
  have key : ∀ d k : Nat, ∀ acc : Int, (k + d : Int) = σ 22 0 → 0 ≤ acc → acc + 200 * d ≤ 100000 → post (iI (acc + fSum (rsvF σ t) k d)) →
      wB_X4_reservedFor_4 S post m (iI t) (d + 1) (iI acc) (iI k) := by
    intro d; induction d with
    | zero =>
      intro k acc hk h0 ha hp
      simp only [wB_X4_reservedFor_4]
      simp (disch := first | decide | omega) only [h.s, h.mm, iI_le, true_and]
      exact ⟨fun _ => by simpa [fSum] using hp, fun c => absurd c (by omega)⟩
    | succ d ih =>
      intro k acc hk h0 ha hp
      have b1 := hB 23 k; have b2 := hB 25 k; have b3 := hB 26 k; have b4 := hP.2.2 k
      have no : ¬ (σ 23 k = t ∧ σ 25 k ≤ σ 1 0 ∧ σ 1 0 < σ 26 k) → wB_X4_reservedFor_58 S post (fun z0 z1 => wB_X4_reservedFor_4 S post m (iI t) (d + 1) z0 z1) m (iI t) (iI k) (iI acc) := by
        intro hc
        unfold wB_X4_reservedFor_58
        simp only [iI_0, iI_1, iI_add]
        rintro _ rfl _ rfl
        refine ih (k + 1) (acc + 0) (by omega) (by omega) (by omega) ?_
        have : rsvF σ t k = 0 := by unfold rsvF; rw [if_neg hc]
        simpa [fSum, this] using hp
      rw [wB_X4_reservedFor_4]
      simp (disch := first | decide | omega) only [h.s, h.mm, h.R, h.Np, h.kI, h.aP, iI_le, iI_lt, iI_in, iI_nat, iI_1, iI_eq, iI_add, Option.some.injEq, exists_eq_left', true_and, Int.toNat_natCast]
      refine ⟨fun c => absurd c (by omega), fun c => ⟨by omega, fun c1 => no (by omega), fun c1 => ⟨by omega, fun c2 => no (by omega), fun c2 => ⟨by omega, fun c3 => no (by omega), fun c3 => ⟨by omega, ?_⟩⟩⟩⟩⟩
      rintro _ rfl _ rfl
      refine ih (k + 1) (acc + σ 24 k) (by omega) (by omega) (by omega) ?_
      have : rsvF σ t k = σ 24 k := by unfold rsvF; rw [if_pos ⟨c1, by omega, by omega⟩]
      simpa [fSum, this, Int.add_assoc] using hp
  exact ⟨_, key (σ 22 0).toNat 0 0 (by omega) (by omega) (by omega) (by simpa [rsvS] using hp)⟩
end
