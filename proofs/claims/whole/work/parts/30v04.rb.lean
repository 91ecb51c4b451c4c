-- ===== the broker's objects =====
def kdl (ρ : fG2) (k : Int) : List Nat := (List.range (ρ 4 0).toNat).filter (fun c => ρ 5 c = k)
def cnt (T J V : Nat → Nat) (ρ : fG2) (al ln vi : List Nat) : Nat → List Nat := fun i => if i = 0 then (List.range (ρ 4 0).toNat).map T else if i = 2 then (List.range (ρ 12 0).toNat).map J else if i = 3 then al.map J else if i = 4 then (List.range (ρ 22 0).toNat).map V else if i = 5 then ln.map J else if i = 6 then vi.map J else (kdl ρ (i - 10 : Nat)).map T
def RX (S : fMS) (x : Nat) (T L : Nat → Nat) (ρ : fG2) : Prop := isA S 4 x ∧ sR S x 1 = some (T 0) ∧ (sR S x 0 = some (L 0) ∧ sR S x 2 = some (L 2) ∧ sR S x 3 = some (L 3) ∧ sR S x 4 = some (L 4) ∧ sR S x 5 = some (L 5) ∧ sR S x 6 = some (L 6)) ∧ sI S x 7 = iI (ρ 2 0) ∧ sI S x 8 = iI (ρ 3 0) ∧ sI S x 9 = iI (ρ 1 0) ∧ sI S x 10 = iI (ρ 20 0)
def tF (s : Nat) : Nat := if s = 3 then 6 else if s = 4 then 7 else if s = 5 then 9 else if s = 6 then 10 else if s = 8 then 41 else if s = 9 then 42 else if s = 10 then 43 else if s = 11 then 44 else if s = 12 then 45 else 46
def tS (s : Nat) : Bool := s == 3 || s == 4 || s == 5 || s == 6 || s == 8 || s == 9 || s == 10 || s == 11 || s == 12 || s == 13
def jF (s : Nat) : Nat := if s = 2 then 14 else if s = 3 then 15 else if s = 5 then 16 else if s = 6 then 18 else 40
def jS (s : Nat) : Bool := s == 2 || s == 3 || s == 5 || s == 6 || s == 7
theorem tS_lt {s : Nat} (h : tS s = true) : s < 14 := by unfold tS at h; simp only [Bool.or_eq_true, beq_iff_eq] at h; omega
theorem jS_lt {s : Nat} (h : jS s = true) : s < 8 := by unfold jS at h; simp only [Bool.or_eq_true, beq_iff_eq] at h; omega
theorem tF_inj : ∀ s : Fin 14, ∀ s' : Fin 14, tS s = true → tS s' = true → tF s = tF s' → s = s' := by decide
theorem jF_inj : ∀ s : Fin 8, ∀ s' : Fin 8, jS s = true → jS s' = true → jF s = jF s' → s = s' := by decide
theorem tF_ne {s : Nat} (h : tS s = true) : tF s ≠ 1 ∧ tF s ≠ 2 ∧ tF s ≠ 3 ∧ tF s ≠ 4 ∧ tF s ≠ 5 ∧ tF s ≠ 8 ∧ tF s ≠ 12 ∧ tF s ≠ 13 ∧ tF s ≠ 14 ∧ tF s ≠ 15 ∧ tF s ≠ 16 ∧ tF s ≠ 17 ∧ tF s ≠ 18 ∧ tF s ≠ 20 ∧ tF s ≠ 22 ∧ tF s ≠ 23 ∧ tF s ≠ 24 ∧ tF s ≠ 25 ∧ tF s ≠ 26 ∧ tF s ≠ 40 := by
  have : ∀ s : Fin 14, tS s = true → tF s ≠ 1 ∧ tF s ≠ 2 ∧ tF s ≠ 3 ∧ tF s ≠ 4 ∧ tF s ≠ 5 ∧ tF s ≠ 8 ∧ tF s ≠ 12 ∧ tF s ≠ 13 ∧ tF s ≠ 14 ∧ tF s ≠ 15 ∧ tF s ≠ 16 ∧ tF s ≠ 17 ∧ tF s ≠ 18 ∧ tF s ≠ 20 ∧ tF s ≠ 22 ∧ tF s ≠ 23 ∧ tF s ≠ 24 ∧ tF s ≠ 25 ∧ tF s ≠ 26 ∧ tF s ≠ 40 := by decide
  exact this ⟨s, tS_lt h⟩ h
theorem jF_ne {s : Nat} (h : jS s = true) : jF s ≠ 1 ∧ jF s ≠ 2 ∧ jF s ≠ 3 ∧ jF s ≠ 4 ∧ jF s ≠ 5 ∧ jF s ≠ 8 ∧ jF s ≠ 12 ∧ jF s ≠ 13 ∧ jF s ≠ 17 ∧ jF s ≠ 20 ∧ jF s ≠ 22 ∧ jF s ≠ 23 ∧ jF s ≠ 24 ∧ jF s ≠ 25 ∧ jF s ≠ 26 := by
  have : ∀ s : Fin 8, jS s = true → jF s ≠ 1 ∧ jF s ≠ 2 ∧ jF s ≠ 3 ∧ jF s ≠ 4 ∧ jF s ≠ 5 ∧ jF s ≠ 8 ∧ jF s ≠ 12 ∧ jF s ≠ 13 ∧ jF s ≠ 17 ∧ jF s ≠ 20 ∧ jF s ≠ 22 ∧ jF s ≠ 23 ∧ jF s ≠ 24 ∧ jF s ≠ 25 ∧ jF s ≠ 26 := by decide
  exact this ⟨s, jS_lt h⟩ h
theorem tjF : ∀ s : Fin 14, ∀ s' : Fin 8, tS s = true → jS s' = true → tF s ≠ jF s' := by decide
def RT (S : fMS) (T L : Nat → Nat) (ρ : fG2) : Prop :=
  (∀ k : Nat, (k : Int) < ρ 4 0 → isA S 3 (T k) ∧ sI S (T k) 0 = iI k ∧ sR S (T k) 1 = (if k = 0 then none else some (T (ρ 5 k).toNat)) ∧ sR S (T k) 2 = some (L (10 + k)) ∧ (∀ s, tS s = true → sI S (T k) s = iI (ρ (tF s) k)) ∧ sJ S (T k) 7 = jJ (ρ 8 k)) ∧
  ∀ k l : Nat, (k : Int) < ρ 4 0 → (l : Int) < ρ 4 0 → T k = T l → k = l
def RJ (S : fMS) (T J : Nat → Nat) (ρ : fG2) : Prop :=
  (∀ j : Nat, (j : Int) < ρ 12 0 → isA S 1 (J j) ∧ sI S (J j) 0 = iI j ∧ sR S (J j) 1 = some (T (ρ 13 j).toNat) ∧ sI S (J j) 4 = iI (stV (ρ 17 j)) ∧ ∀ s, jS s = true → sI S (J j) s = iI (ρ (jF s) j)) ∧
  ∀ k l : Nat, (k : Int) < ρ 12 0 → (l : Int) < ρ 12 0 → J k = J l → k = l
def RV (S : fMS) (T V : Nat → Nat) (ρ : fG2) : Prop :=
  (∀ j : Nat, (j : Int) < ρ 22 0 → isA S 2 (V j) ∧ sR S (V j) 0 = some (T (ρ 23 j).toNat) ∧ sI S (V j) 1 = iI (ρ 25 j) ∧ sI S (V j) 2 = iI (ρ 26 j) ∧ sI S (V j) 3 = iI (ρ 24 j)) ∧
  ∀ k l : Nat, (k : Int) < ρ 22 0 → (l : Int) < ρ 22 0 → V k = V l → k = l
/-- what the broker never touches -/
def okK (k : Nat) : Prop := k = 2 ∨ k = 5 ∨ k = 11 ∨ k = 12 ∨ k = 13 ∨ k = 15
def RF (P : Nat → Prop) (F S : fMS) (V : Nat → Nat) (ρ : fG2) : Prop :=
  sE S = sE F ∧ sM S = sM F ∧ ∀ a, P a → a ∈ sL S ∧ sK S a = sK F a ∧ sN S a = sN F a ∧ okK (sK S a) ∧ (∀ i, sI S a i = sI F a i ∧ sJ S a i = sJ F a i ∧ sR S a i = sR F a i) ∧ ∀ j : Nat, (j : Int) < ρ 22 0 → V j ≠ a
def RB (P : Nat → Prop) (F S : fMS) (x : Nat) (T J V L E : Nat → Nat) (ρ : fG2) (al ln vi : List Nat) : Prop :=
  RX S x T L ρ ∧ RT S T L ρ ∧ RJ S T J ρ ∧ RV S T V ρ ∧ RLs (vid (ρ 4 0)) S L E (cnt T J V ρ al ln vi) ∧ RF P F S V ρ
section
variable {P : Nat → Prop} {F S : fMS} {x : Nat} {T J V L E : Nat → Nat} {ρ : fG2} {al ln vi : List Nat}
theorem RB.X (h : RB P F S x T J V L E ρ al ln vi) : isA S 4 x = True := eq_true h.1.1
theorem RB.xT (h : RB P F S x T J V L E ρ al ln vi) : sR S x 1 = some (T 0) := h.1.2.1
theorem RB.x0 (h : RB P F S x T J V L E ρ al ln vi) : sR S x 0 = some (L 0) := h.1.2.2.1.1
theorem RB.x2 (h : RB P F S x T J V L E ρ al ln vi) : sR S x 2 = some (L 2) := h.1.2.2.1.2.1
theorem RB.x3 (h : RB P F S x T J V L E ρ al ln vi) : sR S x 3 = some (L 3) := h.1.2.2.1.2.2.1
theorem RB.x4 (h : RB P F S x T J V L E ρ al ln vi) : sR S x 4 = some (L 4) := h.1.2.2.1.2.2.2.1
theorem RB.x5 (h : RB P F S x T J V L E ρ al ln vi) : sR S x 5 = some (L 5) := h.1.2.2.1.2.2.2.2.1
theorem RB.x6 (h : RB P F S x T J V L E ρ al ln vi) : sR S x 6 = some (L 6) := h.1.2.2.1.2.2.2.2.2
theorem RB.x7 (h : RB P F S x T J V L E ρ al ln vi) : sI S x 7 = iI (ρ 2 0) := h.1.2.2.2.1
theorem RB.x8 (h : RB P F S x T J V L E ρ al ln vi) : sI S x 8 = iI (ρ 3 0) := h.1.2.2.2.2.1
theorem RB.x9 (h : RB P F S x T J V L E ρ al ln vi) : sI S x 9 = iI (ρ 1 0) := h.1.2.2.2.2.2.1
theorem RB.x10 (h : RB P F S x T J V L E ρ al ln vi) : sI S x 10 = iI (ρ 20 0) := h.1.2.2.2.2.2.2
theorem RB.Tk (h : RB P F S x T J V L E ρ al ln vi) (k : Nat) (hk : (k : Int) < ρ 4 0) : isA S 3 (T k) = True := eq_true (h.2.1.1 k hk).1
theorem RB.t0 (h : RB P F S x T J V L E ρ al ln vi) (k : Nat) (hk : (k : Int) < ρ 4 0) : sI S (T k) 0 = iI k := (h.2.1.1 k hk).2.1
theorem RB.tp (h : RB P F S x T J V L E ρ al ln vi) (k : Nat) (hk : (k : Int) < ρ 4 0) : sR S (T k) 1 = (if k = 0 then none else some (T (ρ 5 k).toNat)) := (h.2.1.1 k hk).2.2.1
theorem RB.tc (h : RB P F S x T J V L E ρ al ln vi) (k : Nat) (hk : (k : Int) < ρ 4 0) : sR S (T k) 2 = some (L (10 + k)) := (h.2.1.1 k hk).2.2.2.1
theorem RB.tu (h : RB P F S x T J V L E ρ al ln vi) (k : Nat) (hk : (k : Int) < ρ 4 0) : sJ S (T k) 7 = jJ (ρ 8 k) := (h.2.1.1 k hk).2.2.2.2.2
theorem RB.Te (h : RB P F S x T J V L E ρ al ln vi) (k l : Nat) (hk : (k : Int) < ρ 4 0) (hl : (l : Int) < ρ 4 0) : (T k = T l) = (k = l) := propext ⟨h.2.1.2 k l hk hl, fun e => e ▸ rfl⟩
theorem RB.Jk (h : RB P F S x T J V L E ρ al ln vi) (k : Nat) (hk : (k : Int) < ρ 12 0) : isA S 1 (J k) = True := eq_true (h.2.2.1.1 k hk).1
theorem RB.j0 (h : RB P F S x T J V L E ρ al ln vi) (k : Nat) (hk : (k : Int) < ρ 12 0) : sI S (J k) 0 = iI k := (h.2.2.1.1 k hk).2.1
theorem RB.jl (h : RB P F S x T J V L E ρ al ln vi) (k : Nat) (hk : (k : Int) < ρ 12 0) : sR S (J k) 1 = some (T (ρ 13 k).toNat) := (h.2.2.1.1 k hk).2.2.1
theorem RB.j4 (h : RB P F S x T J V L E ρ al ln vi) (k : Nat) (hk : (k : Int) < ρ 12 0) : sI S (J k) 4 = iI (stV (ρ 17 k)) := (h.2.2.1.1 k hk).2.2.2.1
theorem RB.Je (h : RB P F S x T J V L E ρ al ln vi) (k l : Nat) (hk : (k : Int) < ρ 12 0) (hl : (l : Int) < ρ 12 0) : (J k = J l) = (k = l) := propext ⟨h.2.2.1.2 k l hk hl, fun e => e ▸ rfl⟩
theorem RB.Vk (h : RB P F S x T J V L E ρ al ln vi) (k : Nat) (hk : (k : Int) < ρ 22 0) : isA S 2 (V k) = True := eq_true (h.2.2.2.1.1 k hk).1
theorem RB.vl (h : RB P F S x T J V L E ρ al ln vi) (k : Nat) (hk : (k : Int) < ρ 22 0) : sR S (V k) 0 = some (T (ρ 23 k).toNat) := (h.2.2.2.1.1 k hk).2.1
theorem RB.v1 (h : RB P F S x T J V L E ρ al ln vi) (k : Nat) (hk : (k : Int) < ρ 22 0) : sI S (V k) 1 = iI (ρ 25 k) := (h.2.2.2.1.1 k hk).2.2.1
theorem RB.v2 (h : RB P F S x T J V L E ρ al ln vi) (k : Nat) (hk : (k : Int) < ρ 22 0) : sI S (V k) 2 = iI (ρ 26 k) := (h.2.2.2.1.1 k hk).2.2.2.1
theorem RB.v3 (h : RB P F S x T J V L E ρ al ln vi) (k : Nat) (hk : (k : Int) < ρ 22 0) : sI S (V k) 3 = iI (ρ 24 k) := (h.2.2.2.1.1 k hk).2.2.2.2
theorem RB.Ve (h : RB P F S x T J V L E ρ al ln vi) (k l : Nat) (hk : (k : Int) < ρ 22 0) (hl : (l : Int) < ρ 22 0) : (V k = V l) = (k = l) := propext ⟨h.2.2.2.1.2 k l hk hl, fun e => e ▸ rfl⟩
theorem RB.l (h : RB P F S x T J V L E ρ al ln vi) : RLs (vid (ρ 4 0)) S L E (cnt T J V ρ al ln vi) := h.2.2.2.2.1
theorem RB.f (h : RB P F S x T J V L E ρ al ln vi) : RF P F S V ρ := h.2.2.2.2.2
theorem RB.t3 (h : RB P F S x T J V L E ρ al ln vi) (k : Nat) (hk : (k : Int) < ρ 4 0) : sI S (T k) 3 = iI (ρ 6 k) := (h.2.1.1 k hk).2.2.2.2.1 3 rfl
theorem RB.t4 (h : RB P F S x T J V L E ρ al ln vi) (k : Nat) (hk : (k : Int) < ρ 4 0) : sI S (T k) 4 = iI (ρ 7 k) := (h.2.1.1 k hk).2.2.2.2.1 4 rfl
theorem RB.t5 (h : RB P F S x T J V L E ρ al ln vi) (k : Nat) (hk : (k : Int) < ρ 4 0) : sI S (T k) 5 = iI (ρ 9 k) := (h.2.1.1 k hk).2.2.2.2.1 5 rfl
theorem RB.t6 (h : RB P F S x T J V L E ρ al ln vi) (k : Nat) (hk : (k : Int) < ρ 4 0) : sI S (T k) 6 = iI (ρ 10 k) := (h.2.1.1 k hk).2.2.2.2.1 6 rfl
theorem RB.t8 (h : RB P F S x T J V L E ρ al ln vi) (k : Nat) (hk : (k : Int) < ρ 4 0) : sI S (T k) 8 = iI (ρ 41 k) := (h.2.1.1 k hk).2.2.2.2.1 8 rfl
theorem RB.t9 (h : RB P F S x T J V L E ρ al ln vi) (k : Nat) (hk : (k : Int) < ρ 4 0) : sI S (T k) 9 = iI (ρ 42 k) := (h.2.1.1 k hk).2.2.2.2.1 9 rfl
theorem RB.t10 (h : RB P F S x T J V L E ρ al ln vi) (k : Nat) (hk : (k : Int) < ρ 4 0) : sI S (T k) 10 = iI (ρ 43 k) := (h.2.1.1 k hk).2.2.2.2.1 10 rfl
theorem RB.t11 (h : RB P F S x T J V L E ρ al ln vi) (k : Nat) (hk : (k : Int) < ρ 4 0) : sI S (T k) 11 = iI (ρ 44 k) := (h.2.1.1 k hk).2.2.2.2.1 11 rfl
theorem RB.t12 (h : RB P F S x T J V L E ρ al ln vi) (k : Nat) (hk : (k : Int) < ρ 4 0) : sI S (T k) 12 = iI (ρ 45 k) := (h.2.1.1 k hk).2.2.2.2.1 12 rfl
theorem RB.t13 (h : RB P F S x T J V L E ρ al ln vi) (k : Nat) (hk : (k : Int) < ρ 4 0) : sI S (T k) 13 = iI (ρ 46 k) := (h.2.1.1 k hk).2.2.2.2.1 13 rfl
theorem RB.j2 (h : RB P F S x T J V L E ρ al ln vi) (k : Nat) (hk : (k : Int) < ρ 12 0) : sI S (J k) 2 = iI (ρ 14 k) := (h.2.2.1.1 k hk).2.2.2.2 2 rfl
theorem RB.j3 (h : RB P F S x T J V L E ρ al ln vi) (k : Nat) (hk : (k : Int) < ρ 12 0) : sI S (J k) 3 = iI (ρ 15 k) := (h.2.2.1.1 k hk).2.2.2.2 3 rfl
theorem RB.j5 (h : RB P F S x T J V L E ρ al ln vi) (k : Nat) (hk : (k : Int) < ρ 12 0) : sI S (J k) 5 = iI (ρ 16 k) := (h.2.2.1.1 k hk).2.2.2.2 5 rfl
theorem RB.j6 (h : RB P F S x T J V L E ρ al ln vi) (k : Nat) (hk : (k : Int) < ρ 12 0) : sI S (J k) 6 = iI (ρ 18 k) := (h.2.2.1.1 k hk).2.2.2.2 6 rfl
theorem RB.j7 (h : RB P F S x T J V L E ρ al ln vi) (k : Nat) (hk : (k : Int) < ρ 12 0) : sI S (J k) 7 = iI (ρ 40 k) := (h.2.2.1.1 k hk).2.2.2.2 7 rfl
theorem vid0 {n : Int} : vid n 0 := Or.inl rfl
theorem RB.k0 (h : RB P F S x T J V L E ρ al ln vi) : isA S 6 (L 0) = True := eq_true (h.l.k vid0)
theorem RB.s0 (h : RB P F S x T J V L E ρ al ln vi) (h0 : 0 ≤ ρ 4 0) (post : Int32 → Prop) : wp_Jx4a65c_size_8abf5 S (L 0) post = post (iI (ρ 4 0)) := by
  rw [h.l.size vid0]; unfold cnt; simp; rw [Int.max_eq_left h0]
theorem RB.g0 (h : RB P F S x T J V L E ρ al ln vi) (k : Nat) (hk : (k : Int) < ρ 4 0) (post : Option Nat → Prop) : wp_Jx4a65c_get_915e3 S (L 0) (iI k) post = post (some (T k)) := by
  rw [h.l.get vid0 (by unfold cnt; simp; omega)]; unfold cnt; simp [List.getD_eq_getElem?_getD, show k < (ρ 4 0).toNat by omega]
theorem vid2 {n : Int} : vid n 2 := Or.inr (Or.inl rfl)
theorem RB.k2 (h : RB P F S x T J V L E ρ al ln vi) : isA S 6 (L 2) = True := eq_true (h.l.k vid2)
theorem RB.s2 (h : RB P F S x T J V L E ρ al ln vi) (h0 : 0 ≤ ρ 12 0) (post : Int32 → Prop) : wp_Jx4a65c_size_8abf5 S (L 2) post = post (iI (ρ 12 0)) := by
  rw [h.l.size vid2]; unfold cnt; simp; rw [Int.max_eq_left h0]
theorem RB.g2 (h : RB P F S x T J V L E ρ al ln vi) (k : Nat) (hk : (k : Int) < ρ 12 0) (post : Option Nat → Prop) : wp_Jx4a65c_get_915e3 S (L 2) (iI k) post = post (some (J k)) := by
  rw [h.l.get vid2 (by unfold cnt; simp; omega)]; unfold cnt; simp [List.getD_eq_getElem?_getD, show k < (ρ 12 0).toNat by omega]
theorem vid4 {n : Int} : vid n 4 := Or.inr (Or.inr (Or.inr (Or.inl rfl)))
theorem RB.k4 (h : RB P F S x T J V L E ρ al ln vi) : isA S 6 (L 4) = True := eq_true (h.l.k vid4)
theorem RB.s4 (h : RB P F S x T J V L E ρ al ln vi) (h0 : 0 ≤ ρ 22 0) (post : Int32 → Prop) : wp_Jx4a65c_size_8abf5 S (L 4) post = post (iI (ρ 22 0)) := by
  rw [h.l.size vid4]; unfold cnt; simp; rw [Int.max_eq_left h0]
theorem RB.g4 (h : RB P F S x T J V L E ρ al ln vi) (k : Nat) (hk : (k : Int) < ρ 22 0) (post : Option Nat → Prop) : wp_Jx4a65c_get_915e3 S (L 4) (iI k) post = post (some (V k)) := by
  rw [h.l.get vid4 (by unfold cnt; simp; omega)]; unfold cnt; simp [List.getD_eq_getElem?_getD, show k < (ρ 22 0).toNat by omega]
theorem vid3 {n : Int} : vid n 3 := Or.inr (Or.inr (Or.inl rfl))
theorem RB.k3 (h : RB P F S x T J V L E ρ al ln vi) : isA S 6 (L 3) = True := eq_true (h.l.k vid3)
theorem RB.s3 (h : RB P F S x T J V L E ρ al ln vi) (post : Int32 → Prop) : wp_Jx4a65c_size_8abf5 S (L 3) post = post (iI (al.length : Nat)) := by
  rw [h.l.size vid3]; unfold cnt; simp
theorem RB.g3 (h : RB P F S x T J V L E ρ al ln vi) (k : Nat) (hk : k < al.length) (post : Option Nat → Prop) : wp_Jx4a65c_get_915e3 S (L 3) (iI k) post = post (some (J (al.getD k 0))) := by
  rw [h.l.get vid3 (by unfold cnt; simpa using hk)]; unfold cnt; simp [List.getD_eq_getElem?_getD, hk]
theorem vid5 {n : Int} : vid n 5 := Or.inr (Or.inr (Or.inr (Or.inr (Or.inl rfl))))
theorem RB.k5 (h : RB P F S x T J V L E ρ al ln vi) : isA S 6 (L 5) = True := eq_true (h.l.k vid5)
theorem RB.s5 (h : RB P F S x T J V L E ρ al ln vi) (post : Int32 → Prop) : wp_Jx4a65c_size_8abf5 S (L 5) post = post (iI (ln.length : Nat)) := by
  rw [h.l.size vid5]; unfold cnt; simp
theorem RB.g5 (h : RB P F S x T J V L E ρ al ln vi) (k : Nat) (hk : k < ln.length) (post : Option Nat → Prop) : wp_Jx4a65c_get_915e3 S (L 5) (iI k) post = post (some (J (ln.getD k 0))) := by
  rw [h.l.get vid5 (by unfold cnt; simpa using hk)]; unfold cnt; simp [List.getD_eq_getElem?_getD, hk]
theorem vid6 {n : Int} : vid n 6 := Or.inr (Or.inr (Or.inr (Or.inr (Or.inr (Or.inl rfl)))))
theorem RB.k6 (h : RB P F S x T J V L E ρ al ln vi) : isA S 6 (L 6) = True := eq_true (h.l.k vid6)
theorem RB.s6 (h : RB P F S x T J V L E ρ al ln vi) (post : Int32 → Prop) : wp_Jx4a65c_size_8abf5 S (L 6) post = post (iI (vi.length : Nat)) := by
  rw [h.l.size vid6]; unfold cnt; simp
theorem RB.g6 (h : RB P F S x T J V L E ρ al ln vi) (k : Nat) (hk : k < vi.length) (post : Option Nat → Prop) : wp_Jx4a65c_get_915e3 S (L 6) (iI k) post = post (some (J (vi.getD k 0))) := by
  rw [h.l.get vid6 (by unfold cnt; simpa using hk)]; unfold cnt; simp [List.getD_eq_getElem?_getD, hk]
theorem vidC {n : Int} {k : Nat} (h : (k : Int) < n) : vid n (10 + k) := Or.inr (Or.inr (Or.inr (Or.inr (Or.inr (Or.inr ⟨by omega, by omega⟩)))))
theorem cntC (T J V : Nat → Nat) (ρ : fG2) (al ln vi : List Nat) (k : Nat) : cnt T J V ρ al ln vi (10 + k) = (kdl ρ k).map T := by
  unfold cnt
  rw [if_neg (by omega), if_neg (by omega), if_neg (by omega), if_neg (by omega), if_neg (by omega), if_neg (by omega), show 10 + k - 10 = k by omega]
theorem RB.kc (h : RB P F S x T J V L E ρ al ln vi) (k : Nat) (hk : (k : Int) < ρ 4 0) : isA S 6 (L (10 + k)) = True := eq_true (h.l.k (vidC hk))
theorem RB.sc (h : RB P F S x T J V L E ρ al ln vi) (k : Nat) (hk : (k : Int) < ρ 4 0) (post : Int32 → Prop) : wp_Jx4a65c_size_8abf5 S (L (10 + k)) post = post (iI ((kdl ρ k).length : Nat)) := by
  rw [h.l.size (vidC hk), cntC]; simp
theorem RB.gc (h : RB P F S x T J V L E ρ al ln vi) (k i : Nat) (hk : (k : Int) < ρ 4 0) (hi : i < (kdl ρ k).length) (post : Option Nat → Prop) : wp_Jx4a65c_get_915e3 S (L (10 + k)) (iI i) post = post (some (T ((kdl ρ k).getD i 0))) := by
  rw [h.l.get (vidC hk) (by rw [cntC]; simpa using hi), cntC]; simp [List.getD_eq_getElem?_getD, hi]
end
