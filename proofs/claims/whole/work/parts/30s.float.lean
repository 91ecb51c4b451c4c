-- ===== quotients are numbers =====
theorem k64E : FP.Core.Fmt.exps FP.Core.b64 = 2048 := by decide
theorem k64T : FP.Core.Fmt.tails FP.Core.b64 = 4503599627370496 := by decide
theorem k64q : FP.Core.Fmt.qmin FP.Core.b64 = -1074 := by decide
theorem k64Q : FP.Core.Fmt.qmax FP.Core.b64 = 971 := by decide
theorem k64p : (2 : Nat) ^ FP.Core.b64.p = 9007199254740992 := by decide
theorem k32E : FP.Core.Fmt.exps FP.Core.b32 = 256 := by decide
theorem k32T : FP.Core.Fmt.tails FP.Core.b32 = 8388608 := by decide
theorem k32q : FP.Core.Fmt.qmin FP.Core.b32 = -149 := by decide
theorem k32Q : FP.Core.Fmt.qmax FP.Core.b32 = 104 := by decide
theorem k32p : (2 : Nat) ^ FP.Core.b32.p = 16777216 := by decide
theorem vf64_of {n : Nat} (h : n % 9223372036854775808 ≤ 9218868437227405312) : vf_n64 (UInt64.ofNat n) := by
  unfold vf_n64
  rw [UInt64.le_iff_toNat_le, UInt64.toNat_and]
  have e : (UInt64.ofNat n).toNat = n % 18446744073709551616 := UInt64.toNat_ofNat'
  rw [e]
  show (n % 18446744073709551616) &&& (2 ^ 63 - 1) ≤ 9218868437227405312
  rw [Nat.and_two_pow_sub_one_eq_mod]; omega
theorem vf32_of {n : Nat} (h : n % 2147483648 ≤ 2139095040) : vf_n32 (UInt32.ofNat n) := by
  unfold vf_n32
  rw [UInt32.le_iff_toNat_le, UInt32.toNat_and]
  have e : (UInt32.ofNat n).toNat = n % 4294967296 := UInt32.toNat_ofNat'
  rw [e]
  show (n % 4294967296) &&& (2 ^ 31 - 1) ≤ 2139095040
  rw [Nat.and_two_pow_sub_one_eq_mod]; omega
theorem enc64_fin {s : Bool} {c : Nat} {q : Int} (hc : c < 9007199254740992) (hq : q ≤ 971) : FP.Core.encode FP.Core.b64 (.fin s c q) % 9223372036854775808 ≤ 9218868437227405312 := by
  unfold FP.Core.encode FP.Core.assemble
  simp only [k64E, k64T, k64q]
  split
  · cases s <;> simp only [Bool.toNat_false, Bool.toNat_true] <;> omega
  · cases s <;> simp only [Bool.toNat_false, Bool.toNat_true] <;> omega
theorem enc32_fin {s : Bool} {c : Nat} {q : Int} (hc : c < 16777216) (hq : q ≤ 104) : FP.Core.encode FP.Core.b32 (.fin s c q) % 2147483648 ≤ 2139095040 := by
  unfold FP.Core.encode FP.Core.assemble
  simp only [k32E, k32T, k32q]
  split
  · cases s <;> simp only [Bool.toNat_false, Bool.toNat_true] <;> omega
  · cases s <;> simp only [Bool.toNat_false, Bool.toNat_true] <;> omega
theorem enc64_inf {s : Bool} : FP.Core.encode FP.Core.b64 (.inf s) % 9223372036854775808 ≤ 9218868437227405312 := by cases s <;> decide
theorem enc32_inf {s : Bool} : FP.Core.encode FP.Core.b32 (.inf s) % 2147483648 ≤ 2139095040 := by cases s <;> decide
theorem enc64_rat (s : Bool) (a b : Nat) (e : Int) : FP.Core.encode FP.Core.b64 (FP.Core.roundRatio FP.Core.b64 s a b e) % 9223372036854775808 ≤ 9218868437227405312 := by
  unfold FP.Core.roundRatio
  split
  · exact enc64_fin (by decide) (by rw [k64q]; decide)
  · unfold FP.Core.roundAt FP.Core.settle FP.Core.bound
    rw [k64p, k64Q, k64T]
    split
    · rename_i h1
      split
      · rename_i h2; exact enc64_fin h1 h2
      · exact enc64_inf
    · split
      · rename_i h2; exact enc64_fin (by decide) h2
      · exact enc64_inf
theorem enc32_rat (s : Bool) (a b : Nat) (e : Int) : FP.Core.encode FP.Core.b32 (FP.Core.roundRatio FP.Core.b32 s a b e) % 2147483648 ≤ 2139095040 := by
  unfold FP.Core.roundRatio
  split
  · exact enc32_fin (by decide) (by rw [k32q]; decide)
  · unfold FP.Core.roundAt FP.Core.settle FP.Core.bound
    rw [k32p, k32Q, k32T]
    split
    · rename_i h1
      split
      · rename_i h2; exact enc32_fin h1 h2
      · exact enc32_inf
    · split
      · rename_i h2; exact enc32_fin (by decide) h2
      · exact enc32_inf
/-- a whole number that is not 0, as a double -/
theorem i2d_dec {v : Int32} (hv : v.toInt ≠ 0) : ∃ (s : Bool) (c : Nat) (q : Int), FP.Core.decode FP.Core.b64 (FP.i2d v).toNat = .fin s c q ∧ c ≠ 0 := by
  obtain ⟨a, ha⟩ : ∃ a, a = v.toInt.natAbs := ⟨_, rfl⟩
  have a1 : a ≠ 0 := by omega
  have a2 : a ≤ 2147483648 := by have := v.le_toInt; have := v.toInt_lt; omega
  obtain ⟨L, hL⟩ : ∃ L, L = a.log2 := ⟨_, rfl⟩
  have l1 : 2 ^ L ≤ a := by rw [hL]; exact (Nat.log2_self_le a1)
  have l2 : a < 2 ^ (L + 1) := by rw [hL]; exact Nat.lt_log2_self
  have l3 : L ≤ 31 := by
    rcases Nat.lt_or_ge 31 L with z | z
    · have : 2 ^ 32 ≤ 2 ^ L := Nat.pow_le_pow_right (by decide) z
      omega
    · exact z
  have hp : 2 ^ L * 2 ^ (52 - L) = 4503599627370496 := by rw [← Nat.pow_add, show L + (52 - L) = 52 by omega]
  have hpos : 0 < 2 ^ (52 - L) := Nat.two_pow_pos _
  have x1 : 4503599627370496 ≤ a * 2 ^ (52 - L) := by rw [← hp]; exact Nat.mul_le_mul_right _ l1
  have x2 : a * 2 ^ (52 - L) < 9007199254740992 := by
    have h3 : a * 2 ^ (52 - L) < 2 ^ (L + 1) * 2 ^ (52 - L) := Nat.mul_lt_mul_of_pos_right l2 hpos
    have h4 : 2 ^ (L + 1) * 2 ^ (52 - L) = 9007199254740992 := by rw [← Nat.pow_add, show L + 1 + (52 - L) = 53 by omega]
    omega
  have hlead : FP.Core.leading a 1 = L := by
    unfold FP.Core.leading
    have e1 : Nat.log2 1 = 0 := by decide
    simp only [e1, ← hL]
    have e2 : ((L : Int) - ((0 : Nat) : Int)).toNat = L := by omega
    have e3 : (-((L : Int) - ((0 : Nat) : Int))).toNat = 0 := by omega
    rw [e2, e3, if_pos (by omega)]; omega
  have hq : FP.Core.quantum FP.Core.b64 a 1 0 = (L : Int) - 52 := by
    unfold FP.Core.quantum
    rw [hlead, k64q]
    have : ((FP.Core.b64.p : Nat) : Int) = 53 := by decide
    rw [this]; omega
  have hround : FP.Core.round FP.Core.b64 (FP.Core.ofInt v.toInt) = .fin (decide (v.toInt < 0)) (a * 2 ^ (52 - L)) ((L : Int) - 52) := by
    unfold FP.Core.ofInt FP.Core.round FP.Core.roundRatio
    simp only [← ha]
    rw [if_neg a1, hq]
    unfold FP.Core.roundAt FP.Core.unitsNum FP.Core.unitsDen FP.Core.nearest
    have e1 : ((0 : Int) - ((L : Int) - 52)).toNat = 52 - L := by omega
    have e2 : ((L : Int) - 52 - 0).toNat = 0 := by omega
    simp only [e1, e2, Nat.pow_zero, Nat.mul_one, Nat.mod_one, Nat.mul_zero, Nat.div_one]
    rw [if_pos (by decide)]
    unfold FP.Core.settle FP.Core.bound
    rw [k64p, k64Q, if_pos x2, if_pos (by omega)]
  have henc : (FP.i2d v).toNat = FP.Core.encode FP.Core.b64 (.fin (decide (v.toInt < 0)) (a * 2 ^ (52 - L)) ((L : Int) - 52)) % 18446744073709551616 := by
    show (UInt64.ofNat (FP.Core.fromInt FP.Core.b64 v.toInt)).toNat = _
    unfold FP.Core.fromInt
    rw [hround]; exact UInt64.toNat_ofNat'
  rw [henc]
  obtain ⟨X, hX⟩ : ∃ X, X = a * 2 ^ (52 - L) := ⟨_, rfl⟩
  rw [← hX] at x1 x2 ⊢
  unfold FP.Core.encode FP.Core.assemble
  simp only [k64E, k64T, k64q]
  rw [if_neg (by omega)]
  unfold FP.Core.decode FP.Core.fieldE FP.Core.fieldT
  simp only [k64E, k64T]
  obtain ⟨b, hb⟩ : ∃ b, b = (decide (v.toInt < 0)).toNat := ⟨_, rfl⟩
  have hb2 : b ≤ 1 := by rw [hb]; cases decide (v.toInt < 0) <;> decide
  rw [← hb]
  rw [if_neg (by omega), if_neg (by omega)]
  exact ⟨_, _, _, rfl, by omega⟩
theorem i2d_dec0 : ∃ (s : Bool) (c : Nat) (q : Int), FP.Core.decode FP.Core.b64 (FP.i2d 0).toNat = .fin s c q := ⟨false, 0, -1074, by decide⟩
theorem ddiv_n (a b : Int32) (hb : b ≠ 0) : vf_n64 (FP.ddiv (FP.i2d a) (FP.i2d b)) := by
  have hb' : b.toInt ≠ 0 := fun h1 => hb (Int32.toInt.inj (by rw [h1]; rfl))
  obtain ⟨t, d, r, h2, h3⟩ := i2d_dec hb'
  have h1 : ∃ (s : Bool) (c : Nat) (q : Int), FP.Core.decode FP.Core.b64 (FP.i2d a).toNat = .fin s c q := by
    by_cases z : a = 0
    · rw [z]; exact i2d_dec0
    · have z' : a.toInt ≠ 0 := fun h1 => z (Int32.toInt.inj (by rw [h1]; rfl))
      obtain ⟨s, c, q, h, -⟩ := i2d_dec z'
      exact ⟨s, c, q, h⟩
  obtain ⟨s, c, q, h1⟩ := h1
  show vf_n64 (UInt64.ofNat (FP.Core.div FP.Core.b64 (FP.i2d a).toNat (FP.i2d b).toNat))
  refine vf64_of ?_
  unfold FP.Core.div
  rw [h1, h2]
  unfold FP.Core.quotient
  dsimp only
  rw [if_neg h3]
  exact enc64_rat _ _ _ _
/-- a whole number that is not 0, as a float -/
theorem i2f_dec {v : Int32} (hv : v.toInt ≠ 0) (hv2 : v.toInt.natAbs ≤ 3000) : ∃ (s : Bool) (c : Nat) (q : Int), FP.Core.decode FP.Core.b32 (FP.i2f v).toNat = .fin s c q ∧ c ≠ 0 := by
  obtain ⟨a, ha⟩ : ∃ a, a = v.toInt.natAbs := ⟨_, rfl⟩
  have a1 : a ≠ 0 := by omega
  have a2 : a ≤ 3000 := by omega
  obtain ⟨L, hL⟩ : ∃ L, L = a.log2 := ⟨_, rfl⟩
  have l1 : 2 ^ L ≤ a := by rw [hL]; exact (Nat.log2_self_le a1)
  have l2 : a < 2 ^ (L + 1) := by rw [hL]; exact Nat.lt_log2_self
  have l3 : L ≤ 11 := by
    rcases Nat.lt_or_ge 11 L with z | z
    · have : 2 ^ 12 ≤ 2 ^ L := Nat.pow_le_pow_right (by decide) z
      omega
    · exact z
  have hp : 2 ^ L * 2 ^ (23 - L) = 8388608 := by rw [← Nat.pow_add, show L + (23 - L) = 23 by omega]
  have hpos : 0 < 2 ^ (23 - L) := Nat.two_pow_pos _
  have x1 : 8388608 ≤ a * 2 ^ (23 - L) := by rw [← hp]; exact Nat.mul_le_mul_right _ l1
  have x2 : a * 2 ^ (23 - L) < 16777216 := by
    have h3 : a * 2 ^ (23 - L) < 2 ^ (L + 1) * 2 ^ (23 - L) := Nat.mul_lt_mul_of_pos_right l2 hpos
    have h4 : 2 ^ (L + 1) * 2 ^ (23 - L) = 16777216 := by rw [← Nat.pow_add, show L + 1 + (23 - L) = 24 by omega]
    omega
  have hlead : FP.Core.leading a 1 = L := by
    unfold FP.Core.leading
    have e1 : Nat.log2 1 = 0 := by decide
    simp only [e1, ← hL]
    have e2 : ((L : Int) - ((0 : Nat) : Int)).toNat = L := by omega
    have e3 : (-((L : Int) - ((0 : Nat) : Int))).toNat = 0 := by omega
    rw [e2, e3, if_pos (by omega)]; omega
  have hq : FP.Core.quantum FP.Core.b32 a 1 0 = (L : Int) - 23 := by
    unfold FP.Core.quantum
    rw [hlead, k32q]
    have : ((FP.Core.b32.p : Nat) : Int) = 24 := by decide
    rw [this]; omega
  have hround : FP.Core.round FP.Core.b32 (FP.Core.ofInt v.toInt) = .fin (decide (v.toInt < 0)) (a * 2 ^ (23 - L)) ((L : Int) - 23) := by
    unfold FP.Core.ofInt FP.Core.round FP.Core.roundRatio
    simp only [← ha]
    rw [if_neg a1, hq]
    unfold FP.Core.roundAt FP.Core.unitsNum FP.Core.unitsDen FP.Core.nearest
    have e1 : ((0 : Int) - ((L : Int) - 23)).toNat = 23 - L := by omega
    have e2 : ((L : Int) - 23 - 0).toNat = 0 := by omega
    simp only [e1, e2, Nat.pow_zero, Nat.mul_one, Nat.mod_one, Nat.mul_zero, Nat.div_one]
    rw [if_pos (by decide)]
    unfold FP.Core.settle FP.Core.bound
    rw [k32p, k32Q, if_pos x2, if_pos (by omega)]
  have henc : (FP.i2f v).toNat = FP.Core.encode FP.Core.b32 (.fin (decide (v.toInt < 0)) (a * 2 ^ (23 - L)) ((L : Int) - 23)) % 4294967296 := by
    show (UInt32.ofNat (FP.Core.fromInt FP.Core.b32 v.toInt)).toNat = _
    unfold FP.Core.fromInt
    rw [hround]; exact UInt32.toNat_ofNat'
  rw [henc]
  obtain ⟨X, hX⟩ : ∃ X, X = a * 2 ^ (23 - L) := ⟨_, rfl⟩
  rw [← hX] at x1 x2 ⊢
  unfold FP.Core.encode FP.Core.assemble
  simp only [k32E, k32T, k32q]
  rw [if_neg (by omega)]
  unfold FP.Core.decode FP.Core.fieldE FP.Core.fieldT
  simp only [k32E, k32T]
  obtain ⟨b, hb⟩ : ∃ b, b = (decide (v.toInt < 0)).toNat := ⟨_, rfl⟩
  have hb2 : b ≤ 1 := by rw [hb]; cases decide (v.toInt < 0) <;> decide
  rw [← hb]
  rw [if_neg (by omega), if_neg (by omega)]
  exact ⟨_, _, _, rfl, by omega⟩
theorem i2f_dec0 : ∃ (s : Bool) (c : Nat) (q : Int), FP.Core.decode FP.Core.b32 (FP.i2f 0).toNat = .fin s c q := ⟨false, 0, -149, by decide⟩
theorem fdiv_n {a b : Int} (ha : 0 ≤ a ∧ a ≤ 3000) (hb : 1 ≤ b ∧ b ≤ 3000) : vf_n32 (FP.fdiv (FP.i2f (iI a)) (FP.i2f (iI b))) := by
  have tb : (iI b).toInt = b := iI_toInt (by omega) (by omega)
  obtain ⟨t, d, r, h2, h3⟩ := i2f_dec (v := iI b) (by omega) (by omega)
  have h1 : ∃ (s : Bool) (c : Nat) (q : Int), FP.Core.decode FP.Core.b32 (FP.i2f (iI a)).toNat = .fin s c q := by
    by_cases z : a = 0
    · rw [z]; exact i2f_dec0
    · have ta : (iI a).toInt = a := iI_toInt (by omega) (by omega)
      obtain ⟨s, c, q, h, -⟩ := i2f_dec (v := iI a) (by omega) (by omega)
      exact ⟨s, c, q, h⟩
  obtain ⟨s, c, q, h1⟩ := h1
  show vf_n32 (UInt32.ofNat (FP.Core.div FP.Core.b32 (FP.i2f (iI a)).toNat (FP.i2f (iI b)).toNat))
  refine vf32_of ?_
  unfold FP.Core.div
  rw [h1, h2]
  unfold FP.Core.quotient
  dsimp only
  rw [if_neg h3]
  exact enc32_rat _ _ _ _
/-- bits that are a number -/
theorem dec32_n {u : UInt32} (h : vf_n32 u) : FP.Core.decode FP.Core.b32 u.toNat ≠ .nan := by
  unfold vf_n32 at h
  rw [UInt32.le_iff_toNat_le, UInt32.toNat_and] at h
  have h : u.toNat &&& (2 ^ 31 - 1) ≤ 2139095040 := h
  rw [Nat.and_two_pow_sub_one_eq_mod] at h
  unfold FP.Core.decode FP.Core.fieldE FP.Core.fieldT
  simp only [k32E, k32T]
  split
  · rename_i z
    rw [if_pos (by omega)]; simp
  · split <;> simp
theorem dec64_n {u : UInt64} (h : vf_n64 u) : FP.Core.decode FP.Core.b64 u.toNat ≠ .nan := by
  unfold vf_n64 at h
  rw [UInt64.le_iff_toNat_le, UInt64.toNat_and] at h
  have h : u.toNat &&& (2 ^ 63 - 1) ≤ 9218868437227405312 := h
  rw [Nat.and_two_pow_sub_one_eq_mod] at h
  unfold FP.Core.decode FP.Core.fieldE FP.Core.fieldT
  simp only [k64E, k64T]
  split
  · rename_i z
    rw [if_pos (by omega)]; simp
  · split <;> simp
theorem f2d_n {u : UInt32} (h : vf_n32 u) : vf_n64 (FP.f2d u) := by
  have hn := dec32_n h
  have hf : FP.Core.fIsNaN u = false := by unfold FP.Core.fIsNaN FP.Core.isNaN; exact decide_eq_false hn
  unfold FP.f2d
  rw [hf]
  show vf_n64 (UInt64.ofNat (FP.Core.convert FP.Core.b32 FP.Core.b64 u.toNat))
  refine vf64_of ?_
  unfold FP.Core.convert
  cases e1 : FP.Core.decode FP.Core.b32 u.toNat with
  | nan => exact absurd e1 hn
  | inf s => exact enc64_inf
  | fin s c q => exact enc64_rat _ _ _ _
theorem cmpI_self (x : Int) : compare x x = .eq := by simp [compare, compareOfLessAndEq]
theorem dcmp_n {u : UInt64} (h : vf_n64 u) : FP.dcmp u u = some .eq := by
  have hn := dec64_n h
  show FP.Core.order (FP.Core.decode FP.Core.b64 u.toNat) (FP.Core.decode FP.Core.b64 u.toNat) = _
  cases e1 : FP.Core.decode FP.Core.b64 u.toNat with
  | nan => exact absurd e1 hn
  | inf s => exact congrArg some (cmpI_self _)
  | fin s c q => exact congrArg some (cmpI_self _)
