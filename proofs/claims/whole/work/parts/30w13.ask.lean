-- ===== the broker's calls: what they ask first =====
section
variable {P : Nat → Prop} {F S S' : fMS} {x n B : Nat} {T J V L E E' : Nat → Nat} {ρ σ τ : fG2} {al ln vi : List Nat}
/-- the broker's memory S holds σ -/
def LB (P : Nat → Prop) (F S : fMS) (x : Nat) (σ : fG2) (n B : Nat) : Prop := ∃ (T J V L E : Nat → Nat) (ρ : fG2) (al ln vi : List Nat), RB P F S x T J V L E ρ al ln vi ∧ rmB S E n B ∧ al = alv ρ ∧ eqC σ ρ ∧ okB ρ ∧ h40 ρ
/-- so it is while a call goes on -/
def BB (P : Nat → Prop) (F S : fMS) (x : Nat) (T J V L E : Nat → Nat) (ρ : fG2) (al ln vi : List Nat) (n B : Nat) : Prop := RB P F S x T J V L E ρ al ln vi ∧ rmB S E n B ∧ al = alv ρ ∧ okB ρ ∧ h40 ρ ∧ B + 20 ≤ 20000
theorem BB.r (h : BB P F S x T J V L E ρ al ln vi n B) : n + 900 ≤ 30000 := h.2.1.n h.1.l
theorem BB.toL (h : BB P F S x T J V L E ρ al ln vi n B) {k : Nat} (hk : k ≤ 20) : LB P F S x ρ (n + k) (B + 20) := ⟨T, J, V, L, E, ρ, al, ln, vi, h.1, ⟨by have := h.2.1.1; omega, h.2.2.2.2.2⟩, h.2.2.1, eqC.rf, h.2.2.2.1, h.2.2.2.2.1⟩
theorem LB.eq (h : LB P F S x σ n B) (e : eqC τ σ) : LB P F S x τ n B := by
  obtain ⟨T, J, V, L, E, ρ, al, ln, vi, a1, a2, a3, a4, a5, a6⟩ := h
  exact ⟨T, J, V, L, E, ρ, al, ln, vi, a1, a2, a3, e.tr a4, a5, a6⟩
theorem LB.up (h : LB P F S x σ n B) {n' B' : Nat} (hB : B ≤ B') (hn : n' + B ≤ n + B') (hb : B' ≤ 20000) : LB P F S x σ n' B' := by
  obtain ⟨T, J, V, L, E, ρ, al, ln, vi, a1, a2, a3, a4, a5, a6⟩ := h
  exact ⟨T, J, V, L, E, ρ, al, ln, vi, a1, ⟨by have := a2.1; omega, hb⟩, a3, a4, a5, a6⟩
/-- what serving asks of a state -/
def K0 (c : Int) (σ : fG2) : Prop := iS σ ∧ okZ σ ∧ okW1 σ ∧ okS σ ∧ okC c σ ∧ c + 2000 < 100000000
theorem cx_sv {c : Int} (K : K0 c ρ) (h : BB P F S x T J V L E ρ al ln vi n B) {post : fMS → Nat → Prop} (hp : ∀ S' n', LB P F S' x (svS ρ) n' (B + 20) → post S' n') : wp_X3_serve S n x post := by
  refine cx_serve K.1 h.2.2.2.1 K.2.1 K.2.2.1 h.2.2.2.2.1 K.2.2.2.1 K.2.2.2.2.1 K.2.2.2.2.2 h.2.2.1 h.1 h.2.1 (fun S' n' E' ρ' ln' vi' a1 a2 a3 a4 a5 a6 => hp S' n' ?_)
  exact ⟨T, J, V, L, E', ρ', al, ln', vi', a1, ⟨by have := a2.1; omega, h.2.2.2.2.2⟩, a6, a3, a4, a5⟩
/-- the row that takes an answer -/
def oK (P : Nat → Prop) (F : fMS) (out : Nat) (kd : Nat) : Prop := P out ∧ isA F kd out ∧ sN F out = 1
theorem LB.out {out kd : Nat} (h : LB P F S x σ n B) (hO : oK P F out kd) : isA S kd out ∧ sN S out = 1 := by
  obtain ⟨T, J, V, L, E, ρ, al, ln, vi, a1, -⟩ := h
  obtain ⟨e1, e2, e3, -⟩ := a1.f.2.2 out hO.1
  exact ⟨⟨e1, e2.trans hO.2.1.2⟩, e3.trans hO.2.2⟩
theorem wr_end {out kd : Nat} {z : Int64} (h : LB P F S x σ n B) (hO : oK P F out kd) {post : Int32 → fMS → Nat → Prop} (hp : post (iI 0) (wJ S out 0 z) n) : ∃ a7 : Nat, some out = some a7 ∧ isA S kd a7 ∧ vp_in (0 : Int32) (sN S a7) ∧ post (0 : Int32) (wJ S a7 (Int32.toNatClampNeg (0 : Int32)) z) n := by
  have e := h.out hO
  refine ⟨out, rfl, e.1, ?_, hp⟩
  rw [e.2]; exact (iI_in (a := 0) (by omega) (by omega)).mpr ⟨by omega, by omega⟩
theorem cx_range {p a b : Int} (hp : i32 p) (ha : i32 a) (hb : i32 b) (hr : n + 7 ≤ 30000) {post : Prop} {postX : String → fMS → Nat → Prop} (hX : ¬ (a ≤ p ∧ p ≤ b) → postX "java/lang/IllegalArgumentException" S (n + 7)) (h0 : a ≤ p → p ≤ b → post) : wp_X3_requireRange S n (iI p) (iI a) (iI b) post postX := by
  have p1 := hp.1; have p2 := hp.2; have a1 := ha.1; have a2 := ha.2; have b1 := hb.1; have b2 := hb.2
  unfold wp_X3_requireRange
  simp (disch := omega) only [iI_lt, iI_le]
  exact ⟨fun c => ⟨hr, hX (by omega)⟩, fun c => ⟨fun d => h0 (by omega) d, fun d => ⟨hr, hX (by omega)⟩⟩⟩
theorem cx_teamAt (hT : okT ρ) (h : BB P F S x T J V L E ρ al ln vi n B) {t : Int} (ht : i32 t) {post : Option Nat → Prop} {postX : String → fMS → Nat → Prop}
    (hX : ¬ (0 ≤ t ∧ t < ρ 4 0) → postX "java/lang/IndexOutOfBoundsException" S (n + 7)) (hp : ∀ k : Nat, t = k → (k : Int) < ρ 4 0 → post (some (T k))) : wp_X3_teamAt S n x (iI t) post postX := by
  have b1 := ht.1; have b2 := ht.2; have b3 := hT.1; have b4 := hT.2.1
  have hr := h.r
  have h := h.1
  unfold wp_X3_teamAt
  simp (disch := omega) only [iI_0, iI_lt, h.X, h.x0, h.k0, true_and, Option.some.injEq, exists_eq_left', h.s0]
  refine ⟨fun c => ⟨by omega, hX (by omega)⟩, fun c => ⟨fun d => ?_, fun d => ⟨by omega, hX (by omega)⟩⟩⟩
  obtain ⟨k, rfl⟩ : ∃ k : Nat, t = k := ⟨t.toNat, by omega⟩
  simp (disch := omega) only [h.g0, h.Tk, Option.some.injEq, exists_eq_left', true_and]
  exact hp k rfl d
theorem cx_below (hT : okT ρ) (h : BB P F S x T J V L E ρ al ln vi n B) {t : Int} (ht : i32 t) {post : Option Nat → Prop} {postX : String → fMS → Nat → Prop}
    (hX : ¬ (0 ≤ t ∧ t < ρ 4 0) → postX "java/lang/IndexOutOfBoundsException" S (n + 7)) (hX2 : t = 0 → postX "java/lang/UnsupportedOperationException" S (n + 7)) (hp : ∀ k : Nat, t = k → 1 ≤ k → (k : Int) < ρ 4 0 → post (some (T k))) : wp_X3_teamBelowRoot S n x (iI t) post postX := by
  have hr := h.r; have b3 := hT.1
  unfold wp_X3_teamBelowRoot
  refine ⟨h.1.1.1, cx_teamAt hT h ht hX (fun k e hk => ?_)⟩
  rw [h.1.xT]
  refine ⟨fun c => hp k e ?_ hk, fun c => ⟨by omega, hX2 ?_⟩⟩
  · have : k ≠ 0 := fun z => c (by rw [z])
    omega
  · have := (h.1.Te k 0 hk (by omega)).mp (Option.some.inj c)
    omega
theorem cx_reqLeaf (hT : okT ρ) (h : BB P F S x T J V L E ρ al ln vi n B) {k : Nat} (hk : (k : Int) < ρ 4 0) {post : Prop} {postX : String → fMS → Nat → Prop} (hX : ¬ kidsN ρ k = 0 → postX "java/lang/UnsupportedOperationException" S (n + 7)) (h0 : kidsN ρ k = 0 → post) : wp_X3_requireLeaf S n (some (T k)) post postX := by
  have hr := h.r
  have h := h.1
  unfold wp_X3_requireLeaf
  simp only [Option.some.injEq, exists_eq_left', h.Tk k hk, true_and]
  exact cx_isLeaf hT h hk (fun c => ⟨fun _ => h0 c, fun z => absurd z (by decide)⟩) (fun c => ⟨fun z => absurd rfl z, fun _ => ⟨by omega, hX c⟩⟩)
theorem cx_leafAt (hT : okT ρ) (h : BB P F S x T J V L E ρ al ln vi n B) {t : Int} (ht : i32 t) {post : Option Nat → Prop} {postX : String → fMS → Nat → Prop}
    (hX : ¬ (0 ≤ t ∧ t < ρ 4 0) → postX "java/lang/IndexOutOfBoundsException" S (n + 7)) (hX2 : (0 ≤ t ∧ t < ρ 4 0) → ¬ kidsN ρ t = 0 → postX "java/lang/UnsupportedOperationException" S (n + 7)) (hp : ∀ k : Nat, t = k → (k : Int) < ρ 4 0 → kidsN ρ k = 0 → post (some (T k))) : wp_X3_leafAt S n x (iI t) post postX := by
  unfold wp_X3_leafAt
  refine ⟨h.1.1.1, cx_teamAt hT h ht hX (fun k e hk => cx_reqLeaf hT h hk (fun c => hX2 ⟨by omega, by omega⟩ (by rw [e]; exact c)) (fun c => hp k e hk c))⟩
theorem cx_jobAt (hJ : okJ ρ) (h : BB P F S x T J V L E ρ al ln vi n B) {t : Int} (ht : i32 t) {post : Option Nat → Prop} {postX : String → fMS → Nat → Prop}
    (hX : ¬ (0 ≤ t ∧ t < ρ 12 0) → postX "java/util/NoSuchElementException" S (n + 7)) (hp : ∀ k : Nat, t = k → (k : Int) < ρ 12 0 → post (some (J k))) : wp_X3_jobAt S n x (iI t) post postX := by
  have b1 := ht.1; have b2 := ht.2; have b3 := hJ.1; have b4 := hJ.2.1
  have hr := h.r
  have h := h.1
  unfold wp_X3_jobAt
  simp (disch := omega) only [iI_0, iI_lt, h.X, h.x2, h.k2, true_and, Option.some.injEq, exists_eq_left', h.s2]
  refine ⟨fun c => ⟨by omega, hX (by omega)⟩, fun c => ⟨fun d => ?_, fun d => ⟨by omega, hX (by omega)⟩⟩⟩
  obtain ⟨k, rfl⟩ : ∃ k : Nat, t = k := ⟨t.toNat, by omega⟩
  simp (disch := omega) only [h.g2, h.Jk, Option.some.injEq, exists_eq_left', true_and]
  exact hp k rfl d
theorem cx_liveAt (hJ : okJ ρ) (h : BB P F S x T J V L E ρ al ln vi n B) {t : Int} (ht : i32 t) {post : Option Nat → Prop} {postX : String → fMS → Nat → Prop}
    (hX : ¬ (0 ≤ t ∧ t < ρ 12 0) → postX "java/util/NoSuchElementException" S (n + 7)) (hX2 : (0 ≤ t ∧ t < ρ 12 0) → ¬ (ρ 17 t.toNat = 0 ∨ ρ 17 t.toNat = 1) → postX "java/lang/IllegalStateException" S (n + 7)) (hp : ∀ k : Nat, t = k → (k : Int) < ρ 12 0 → ρ 17 k = 0 ∨ ρ 17 k = 1 → post (some (J k))) : wp_X3_aliveJobAt S n x (iI t) post postX := by
  have hr := h.r
  unfold wp_X3_aliveJobAt
  refine ⟨h.1.1.1, cx_jobAt hJ h ht hX (fun k e hk => ?_)⟩
  simp only [Option.some.injEq, exists_eq_left', h.1.Jk k hk, true_and]
  refine cx_alive h.1 hk (fun c => ⟨fun _ => hp k e hk c, fun z => absurd z (by decide)⟩) (fun c => ⟨fun z => absurd rfl z, fun _ => ⟨by omega, hX2 ⟨by omega, by omega⟩ ?_⟩⟩)
  rw [e]; exact c
end
