-- ===== the memory: addresses, kinds, lengths, ints, longs, references; the empty row of the lists; the Class of rows of objects =====
abbrev fMS : Type := List Nat × (Nat → Nat) × (Nat → Nat) × (Nat → Nat → Int32) × (Nat → Nat → Int64) × (Nat → Nat → Option Nat) × Nat × Nat
def sL (S : fMS) : List Nat := S.1
def sK (S : fMS) : Nat → Nat := S.2.1
def sN (S : fMS) : Nat → Nat := S.2.2.1
def sI (S : fMS) : Nat → Nat → Int32 := S.2.2.2.1
def sJ (S : fMS) : Nat → Nat → Int64 := S.2.2.2.2.1
def sR (S : fMS) : Nat → Nat → Option Nat := S.2.2.2.2.2.1
def sE (S : fMS) : Nat := S.2.2.2.2.2.2.1
def sM (S : fMS) : Nat := S.2.2.2.2.2.2.2
def isA (S : fMS) (k a : Nat) : Prop := a ∈ sL S ∧ sK S a = k
def wI (S : fMS) (a i : Nat) (v : Int32) : fMS := (S.1, S.2.1, S.2.2.1, (fun b j => if b = a ∧ j = i then v else sI S b j), S.2.2.2.2)
def wJ (S : fMS) (a i : Nat) (v : Int64) : fMS := (S.1, S.2.1, S.2.2.1, S.2.2.2.1, (fun b j => if b = a ∧ j = i then v else sJ S b j), S.2.2.2.2.2)
def wR (S : fMS) (a i : Nat) (v : Option Nat) : fMS := (S.1, S.2.1, S.2.2.1, S.2.2.2.1, S.2.2.2.2.1, (fun b j => if b = a ∧ j = i then v else sR S b j), S.2.2.2.2.2.2)
/-- a row of references copied -/
def wC (S : fMS) (b sp a dp n : Nat) : fMS := (S.1, S.2.1, S.2.2.1, S.2.2.2.1, S.2.2.2.2.1, (fun c j => if c = a ∧ dp ≤ j ∧ j < dp + n then sR S b (sp + (j - dp)) else sR S c j), S.2.2.2.2.2.2)
/-- a new cell, all 0 -/
def wN (S : fMS) (q k n : Nat) : fMS := (S.1 ++ [q], va_up S.2.1 q k, va_up S.2.2.1 q n, (fun b j => if b = q then 0 else sI S b j), (fun b j => if b = q then 0 else sJ S b j), (fun b j => if b = q then none else sR S b j), S.2.2.2.2.2.2)
/-- what may be put into a row of objects: null, a job, a reservation, a team -/
def fEl (S : fMS) (r : Option Nat) : Prop := r = none ∨ ∃ b, r = some b ∧ (isA S 1 b ∨ isA S 2 b ∨ isA S 3 b)
theorem isA_new {S : fMS} {q k N k2 b : Nat} (hq : q ∉ sL S) (h : isA S k2 b) : isA (wN S q k N) k2 b := ⟨List.mem_append_left _ h.1, (va_up_ne _ _ (fun e : b = q => hq (e ▸ h.1))).trans h.2⟩
theorem isA_made {S : fMS} {q k N : Nat} : isA (wN S q k N) k q := ⟨List.mem_append_right _ List.mem_cons_self, va_up_self _ _ _⟩
