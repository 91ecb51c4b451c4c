/-! THE FRAME: a typed memory by address (fm_S), a world in a heap (fm_H), and one judgement (fV) whose goal is a pure memory, a list of locals, a stack. -/
-- ===== values =====
abbrev fAV : Type := Int32 ⊕ Option Nat ⊕ Int64 ⊕ UInt64 ⊕ UInt32
def aI (x : Int32) : fAV := .inl x
def aR (r : Option Nat) : fAV := .inr (.inl r)
def aJ (x : Int64) : fAV := .inr (.inr (.inl x))
def aD (x : UInt64) : fAV := .inr (.inr (.inr (.inl x)))
def aF (x : UInt32) : fAV := .inr (.inr (.inr (.inr x)))
def fv (v : fAV) : Value := match v with
  | .inl x => .int x
  | .inr (.inl r) => va_rf r
  | .inr (.inr (.inl x)) => .long x
  | .inr (.inr (.inr (.inl x))) => .double x
  | .inr (.inr (.inr (.inr x))) => .float x
def fcat (v : fAV) : Nat := match v with
  | .inl _ => 1
  | .inr (.inl _) => 1
  | .inr (.inr (.inl _)) => 2
  | .inr (.inr (.inr (.inl _))) => 2
  | .inr (.inr (.inr (.inr _))) => 1
theorem fcat_rf (r : Option Nat) : (va_rf r).category = 1 := by cases r <;> rfl
theorem fcat_ok (v : fAV) : (fv v).category = fcat v := by
  obtain x | r | x | x | x := v
  · rfl
  · exact fcat_rf r
  · rfl
  · rfl
  · rfl
-- ===== locals =====
def fls : Nat → List (Option fAV) → List (Nat × Value)
  | _, [] => []
  | i, none :: l => fls (i + 1) l
  | i, some v :: l => (i, fv v) :: fls (i + 1) l
theorem fls_mem : ∀ (l : List (Option fAV)) (i : Nat) (q : Nat × Value), q ∈ fls i l ↔ ∃ (j : Nat) (v : fAV), l[j]? = some (some v) ∧ q = (i + j, fv v)
  | [], i, q => by simp [fls]
  | none :: l, i, q => by
    rw [fls, fls_mem l (i + 1) q]
    constructor
    · rintro ⟨j, v, h1, h2⟩
      exact ⟨j + 1, v, by simpa using h1, by rw [h2]; congr 1; omega⟩
    · rintro ⟨j, v, h1, h2⟩
      cases j with
      | zero => simp at h1
      | succ j => exact ⟨j, v, by simpa using h1, by rw [h2]; congr 1; omega⟩
  | some w :: l, i, q => by
    rw [fls, List.mem_cons, fls_mem l (i + 1) q]
    constructor
    · rintro (h | ⟨j, v, h1, h2⟩)
      · exact ⟨0, w, by simp, by rw [h]; simp⟩
      · exact ⟨j + 1, v, by simpa using h1, by rw [h2]; congr 1; omega⟩
    · rintro ⟨j, v, h1, h2⟩
      cases j with
      | zero =>
        left
        simp at h1
        rw [h2, h1]; simp
      | succ j => exact Or.inr ⟨j, v, by simpa using h1, by rw [h2]; congr 1; omega⟩
def fok (ls : Array Slot) (nL : Nat) (l : List (Option fAV)) : Prop := lv_has ls nL (fls 0 l)
theorem fok_at {ls : Array Slot} {nL : Nat} {l : List (Option fAV)} (h : fok ls nL l) {i : Nat} {v : fAV} (hi : l[i]? = some (some v)) : ls[i]? = some (.val (fv v)) := by
  have h2 := h.2.2 (i, fv v) ((fls_mem l 0 _).mpr ⟨i, v, hi, by simp⟩)
  exact h2
theorem fok_weak {ls : Array Slot} {nL : Nat} {l l' : List (Option fAV)} (h : fok ls nL l) (hs : ∀ (i : Nat) (v : fAV), l'[i]? = some (some v) → l[i]? = some (some v)) : fok ls nL l' := by
  refine ⟨h.1, h.2.1, fun q hq => ?_⟩
  obtain ⟨j, v, h1, h2⟩ := (fls_mem l' 0 q).mp hq
  exact h.2.2 q ((fls_mem l 0 q).mpr ⟨j, v, hs j v h1, h2⟩)
/-- no value of two slots ahead of place i -/
def fnw (l : List (Option fAV)) (i : Nat) : Bool := match i with
  | 0 => true
  | i + 1 => match l[i]? with
    | some (some v) => fcat v != 2
    | _ => true
theorem fok_put1 {nL : Nat} {l : List (Option fAV)} {i : Nat} {v : fAV} {ls' : Array Slot} (hw : fnw l i = true)
    (h : lv_has ls' nL ((i, fv v) :: (fls 0 l).filter (fun q => !(q.1 == i) && !(q.1 + 1 == i && q.2.category == 2)))) : fok ls' nL (l.set i (some v)) := by
  refine ⟨h.1, h.2.1, fun q hq => ?_⟩
  obtain ⟨j, w, h1, h2⟩ := (fls_mem _ 0 q).mp hq
  rw [Nat.zero_add] at h2
  subst h2
  refine h.2.2 (j, fv w) ?_
  by_cases hj : j = i
  · subst hj
    have : w = v := by
      rw [List.getElem?_set] at h1
      by_cases hl : j < l.length
      · simp [hl] at h1; exact h1.symm
      · simp [hl] at h1
    rw [this]
    exact List.mem_cons_self
  · rw [List.getElem?_set_ne (fun e => hj e.symm)] at h1
    refine List.mem_cons_of_mem _ (List.mem_filter.mpr ⟨(fls_mem _ 0 _).mpr ⟨j, w, h1, by simp⟩, ?_⟩)
    simp only [Bool.and_eq_true, Bool.not_eq_true', beq_eq_false_iff_ne, Bool.and_eq_false_iff]
    refine ⟨hj, ?_⟩
    by_cases hj1 : j + 1 = i
    · right
      subst hj1
      simp only [fnw, h1, bne_iff_ne, ne_eq] at hw
      rw [fcat_ok]
      exact hw
    · exact Or.inl hj1
theorem fok_put2 {nL : Nat} {l : List (Option fAV)} {i : Nat} {v : fAV} {ls' : Array Slot} (hw : fnw l i = true)
    (h : lv_has ls' nL ((i, fv v) :: (fls 0 l).filter (fun q => !(q.1 == i) && (!(q.1 == i + 1) && !(q.1 + 1 == i && q.2.category == 2))))) : fok ls' nL ((l.set i (some v)).set (i + 1) none) := by
  refine ⟨h.1, h.2.1, fun q hq => ?_⟩
  obtain ⟨j, w, h1, h2⟩ := (fls_mem _ 0 q).mp hq
  rw [Nat.zero_add] at h2
  subst h2
  refine h.2.2 (j, fv w) ?_
  have hj1 : j ≠ i + 1 := fun e => by
    subst e
    rw [List.getElem?_set] at h1
    simp at h1
  rw [List.getElem?_set_ne (fun e => hj1 e.symm)] at h1
  by_cases hj : j = i
  · subst hj
    have : w = v := by
      rw [List.getElem?_set] at h1
      by_cases hl : j < l.length
      · simp [hl] at h1; exact h1.symm
      · simp [hl] at h1
    rw [this]
    exact List.mem_cons_self
  · rw [List.getElem?_set_ne (fun e => hj e.symm)] at h1
    refine List.mem_cons_of_mem _ (List.mem_filter.mpr ⟨(fls_mem _ 0 _).mpr ⟨j, w, h1, by simp⟩, ?_⟩)
    simp only [Bool.and_eq_true, Bool.not_eq_true', beq_eq_false_iff_ne, Bool.and_eq_false_iff]
    refine ⟨hj, hj1, ?_⟩
    by_cases hj2 : j + 1 = i
    · right
      subst hj2
      simp only [fnw, h1, bne_iff_ne, ne_eq] at hw
      rw [fcat_ok]
      exact hw
    · exact Or.inl hj2
/-- the frame tables: for each kind what its slots hold (0 an int, 1 a long, 2 a reference), which class it is -/
def kfl (k : Nat) : List Nat := match k with
  | 1 => [0, 2, 0, 0, 0, 0, 0, 0]
  | 2 => [2, 0, 0, 0]
  | 3 => [0, 2, 2, 0, 0, 0, 0, 1, 0, 0, 0, 0, 0, 0]
  | 4 => [2, 2, 2, 2, 2, 2, 2, 0, 0, 0, 0]
  | 5 => [0, 0, 0, 0, 0, 2, 2, 2, 2, 2, 2, 2, 0, 2, 2, 2, 2, 2, 2, 2, 0, 0, 0, 2, 2, 2, 2, 2, 2, 2, 0, 2, 0]
  | 6 => [0, 2, 0]
  | _ => []
def kc (k : Nat) : Nat := match k with
  | 1 => 4
  | 2 => 5
  | 3 => 6
  | 4 => 7
  | 5 => 8
  | 6 => 3
  | _ => 3
def fStrs : List (Nat × String) := [(250, "no such team"), (265, "a number is out of range"), (75, "no team can be added here"), (255, "the team is the root"), (101, "more than that is run"), (261, "the team has children"), (110, "too many jobs"), (268, "no such job"), (273, "the job neither waits nor runs"), (161, "no job waits"), (167, "no such rank"), (185, "too many reservations"), (190, "no such reservation"), (236, "the capacity is 0"), (239, "no job has ended")]
def fCast : List (String × String) := [(RX0, "java/lang/Object"), (RX1, "java/lang/Object"), (RX2, "java/lang/Object"), ("java/lang/IndexOutOfBoundsException", "java/lang/IndexOutOfBoundsException"), ("java/lang/IllegalArgumentException", "java/lang/IllegalArgumentException"), ("java/lang/IllegalStateException", "java/lang/IllegalStateException"), ("java/lang/UnsupportedOperationException", "java/lang/UnsupportedOperationException"), ("java/util/NoSuchElementException", "java/util/NoSuchElementException"), ("java/lang/ArithmeticException", "java/lang/ArithmeticException")]
def fNcs : List (String × String) := [("java/lang/IndexOutOfBoundsException", "java/lang/IllegalArgumentException"), ("java/lang/IndexOutOfBoundsException", "java/lang/IllegalStateException"), ("java/lang/IndexOutOfBoundsException", "java/lang/UnsupportedOperationException"), ("java/lang/IndexOutOfBoundsException", "java/util/NoSuchElementException"), ("java/lang/IndexOutOfBoundsException", "java/lang/ArithmeticException"), ("java/lang/IllegalArgumentException", "java/lang/IndexOutOfBoundsException"), ("java/lang/IllegalArgumentException", "java/lang/IllegalStateException"), ("java/lang/IllegalArgumentException", "java/lang/UnsupportedOperationException"), ("java/lang/IllegalArgumentException", "java/util/NoSuchElementException"), ("java/lang/IllegalArgumentException", "java/lang/ArithmeticException"), ("java/lang/IllegalStateException", "java/lang/IndexOutOfBoundsException"), ("java/lang/IllegalStateException", "java/lang/IllegalArgumentException"), ("java/lang/IllegalStateException", "java/lang/UnsupportedOperationException"), ("java/lang/IllegalStateException", "java/util/NoSuchElementException"), ("java/lang/IllegalStateException", "java/lang/ArithmeticException"), ("java/lang/UnsupportedOperationException", "java/lang/IndexOutOfBoundsException"), ("java/lang/UnsupportedOperationException", "java/lang/IllegalArgumentException"), ("java/lang/UnsupportedOperationException", "java/lang/IllegalStateException"), ("java/lang/UnsupportedOperationException", "java/util/NoSuchElementException"), ("java/lang/UnsupportedOperationException", "java/lang/ArithmeticException"), ("java/util/NoSuchElementException", "java/lang/IndexOutOfBoundsException"), ("java/util/NoSuchElementException", "java/lang/IllegalArgumentException"), ("java/util/NoSuchElementException", "java/lang/IllegalStateException"), ("java/util/NoSuchElementException", "java/lang/UnsupportedOperationException"), ("java/util/NoSuchElementException", "java/lang/ArithmeticException"), ("java/lang/ArithmeticException", "java/lang/IndexOutOfBoundsException"), ("java/lang/ArithmeticException", "java/lang/IllegalArgumentException"), ("java/lang/ArithmeticException", "java/lang/IllegalStateException"), ("java/lang/ArithmeticException", "java/lang/UnsupportedOperationException"), ("java/lang/ArithmeticException", "java/util/NoSuchElementException")]
-- ===== kinds: 1 Job 2 Reservation 3 Team 4 Broker 5 Model 6 ArrayList; rows: 11 int 12 long 13 boolean 14 Object 15 double =====
def kft (k i : Nat) : Nat := (kfl k).getD i 0
def kn (k : Nat) : Nat := (kfl k).length
def slotAV (S : fMS) (k a i : Nat) : fAV := match kft k i with
  | 0 => aI (sI S a i)
  | 1 => aJ (sJ S a i)
  | _ => aR (sR S a i)
/-- what is the same in all methods: the tables' numbers, the classes of rows, where new cells begin, the slots used till there -/
abbrev fG : Type := va_G × ClassId × ClassId × ClassId × ClassId × ClassId × Nat × Nat
def fgD (G : fG) : va_G := G.1
def fgI (G : fG) : ClassId := G.2.1
def fgJ (G : fG) : ClassId := G.2.2.1
def fgZ (G : fG) : ClassId := G.2.2.2.1
def fgO (G : fG) : ClassId := G.2.2.2.2.1
def fgDD (G : fG) : ClassId := G.2.2.2.2.2.1
def fgz (G : fG) : Nat := G.2.2.2.2.2.2.1
def fgs (G : fG) : Nat := G.2.2.2.2.2.2.2
def fgA (G : fG) : Nat → Prop := fun q => fgz G ≤ q
def fgT (G : fG) : List (ClassId × FieldType) := [(fgI G, .int), (fgJ G, .long), (fgZ G, .boolean), (fgO G, .object "java/lang/Object"), (fgDD G, .double)]
def cellOf (G : fG) (S : fMS) (a : Nat) : va_E :=
  if sK S a = 11 then .inl (fgI G, sN S a, .inl (sI S a))
  else if sK S a = 12 then .inl (fgJ G, sN S a, .inr (.inl (sJ S a)))
  else if sK S a = 13 then .inl (fgZ G, sN S a, .inl (sI S a))
  else if sK S a = 14 then .inl (fgO G, sN S a, .inr (.inr (.inr (.inr (sR S a)))))
  else if sK S a = 15 then .inl (fgDD G, sN S a, .inr (.inr (.inr (.inl (fun i => (sJ S a i).toUInt64)))))
  else .inr (kc (sK S a), (List.range (kn (sK S a))).map (fun i => fv (slotAV S (sK S a) a i)))
theorem cell_obj {G : fG} {S : fMS} {a k : Nat} (h : sK S a = k) (hk : k < 11) : cellOf G S a = .inr (kc k, (List.range (kn k)).map (fun i => fv (slotAV S k a i))) := by
  subst h
  unfold cellOf
  rw [if_neg (by omega), if_neg (by omega), if_neg (by omega), if_neg (by omega), if_neg (by omega)]
theorem cell_I {G : fG} {S : fMS} {a : Nat} (h : sK S a = 11) : cellOf G S a = .inl (fgI G, sN S a, .inl (sI S a)) := by unfold cellOf; rw [if_pos h]
theorem cell_J {G : fG} {S : fMS} {a : Nat} (h : sK S a = 12) : cellOf G S a = .inl (fgJ G, sN S a, .inr (.inl (sJ S a))) := by unfold cellOf; rw [if_neg (by omega), if_pos h]
theorem cell_Z {G : fG} {S : fMS} {a : Nat} (h : sK S a = 13) : cellOf G S a = .inl (fgZ G, sN S a, .inl (sI S a)) := by unfold cellOf; rw [if_neg (by omega), if_neg (by omega), if_pos h]
theorem cell_O {G : fG} {S : fMS} {a : Nat} (h : sK S a = 14) : cellOf G S a = .inl (fgO G, sN S a, .inr (.inr (.inr (.inr (sR S a))))) := by unfold cellOf; rw [if_neg (by omega), if_neg (by omega), if_neg (by omega), if_pos h]
theorem cell_D {G : fG} {S : fMS} {a : Nat} (h : sK S a = 15) : cellOf G S a = .inl (fgDD G, sN S a, .inr (.inr (.inr (.inl (fun i => (sJ S a i).toUInt64))))) := by unfold cellOf; rw [if_neg (by omega), if_neg (by omega), if_neg (by omega), if_neg (by omega), if_pos h]
theorem slot_cong {S S' : fMS} {k a i : Nat} (hI : sI S' a = sI S a) (hJ : sJ S' a = sJ S a) (hR : sR S' a = sR S a) : slotAV S' k a i = slotAV S k a i := by unfold slotAV; rw [hI, hJ, hR]
theorem cell_cong {G : fG} {S S' : fMS} {a : Nat} (hK : sK S' a = sK S a) (hN : sN S' a = sN S a) (hI : sI S' a = sI S a) (hJ : sJ S' a = sJ S a) (hR : sR S' a = sR S a) : cellOf G S' a = cellOf G S a := by
  unfold cellOf
  rw [hK, hN, hI, hJ, hR]
  simp only [slot_cong hI hJ hR]
theorem range_set {N i : Nat} {f g : Nat → Value} {v : Value} (hi : i < N) (hg : g i = v) (ho : ∀ j, j ≠ i → g j = f j) : ((List.range N).map f).set i v = (List.range N).map g := by
  apply List.ext_getElem?
  intro j
  rw [List.getElem?_set]
  by_cases hj : i = j
  · subst hj
    simp [hi, hg]
  · rw [if_neg hj]
    simp only [List.getElem?_map]
    by_cases hl : j < N
    · simp [hl, ho j (fun e => hj e.symm)]
    · simp [hl]
-- what a store does to a cell
theorem put_I {G : fG} {S : fMS} {k a i : Nat} {v : Int32} (h : sK S a = k) (hk : k < 11) (hi : i < kn k) (ht : kft k i = 0) (b : Nat) : va_up (cellOf G S) a (.inr (kc k, ((List.range (kn k)).map (fun i => fv (slotAV S k a i))).set i (fv (aI v)))) b = cellOf G (wI S a i v) b := by
  by_cases hb : b = a
  · subst hb
    rw [va_up_self, cell_obj (S := wI S b i v) (k := k) h hk]
    congr 2
    refine range_set hi ?_ (fun j hj => ?_)
    · unfold slotAV; rw [ht]; simp [wI, sI]
    · congr 1
      unfold slotAV
      simp [wI, sI, sJ, sR, hj]
  · rw [va_up_ne _ _ hb]
    refine (cell_cong (S := S) (S' := wI S a i v) rfl rfl ?_ rfl rfl).symm
    funext j
    simp [wI, sI, hb]
theorem put_J {G : fG} {S : fMS} {k a i : Nat} {v : Int64} (h : sK S a = k) (hk : k < 11) (hi : i < kn k) (ht : kft k i = 1) (b : Nat) : va_up (cellOf G S) a (.inr (kc k, ((List.range (kn k)).map (fun i => fv (slotAV S k a i))).set i (fv (aJ v)))) b = cellOf G (wJ S a i v) b := by
  by_cases hb : b = a
  · subst hb
    rw [va_up_self, cell_obj (S := wJ S b i v) (k := k) h hk]
    congr 2
    refine range_set hi ?_ (fun j hj => ?_)
    · unfold slotAV; rw [ht]; simp [wJ, sJ]
    · congr 1
      unfold slotAV
      simp [wJ, sI, sJ, sR, hj]
  · rw [va_up_ne _ _ hb]
    refine (cell_cong (S := S) (S' := wJ S a i v) rfl rfl rfl ?_ rfl).symm
    funext j
    simp [wJ, sJ, hb]
theorem put_R {G : fG} {S : fMS} {k a i : Nat} {v : Option Nat} (h : sK S a = k) (hk : k < 11) (hi : i < kn k) (ht : kft k i = 2) (b : Nat) : va_up (cellOf G S) a (.inr (kc k, ((List.range (kn k)).map (fun i => fv (slotAV S k a i))).set i (fv (aR v)))) b = cellOf G (wR S a i v) b := by
  by_cases hb : b = a
  · subst hb
    rw [va_up_self, cell_obj (S := wR S b i v) (k := k) h hk]
    congr 2
    refine range_set hi ?_ (fun j hj => ?_)
    · unfold slotAV; rw [ht]; simp [wR, sR]
    · congr 1
      unfold slotAV
      simp [wR, sI, sJ, sR, hj]
  · rw [va_up_ne _ _ hb]
    refine (cell_cong (S := S) (S' := wR S a i v) rfl rfl rfl rfl ?_).symm
    funext j
    simp [wR, sR, hb]
theorem putA_I {G : fG} {S : fMS} {a i : Nat} {v : Int32} (h : sK S a = 11) (b : Nat) : va_up (cellOf G S) a (.inl (fgI G, sN S a, .inl (upd (sI S a) i v))) b = cellOf G (wI S a i v) b := by
  by_cases hb : b = a
  · subst hb
    rw [va_up_self, cell_I (S := wI S b i v) h]
    have e : upd (sI S b) i v = sI (wI S b i v) b := by funext j; simp [upd, wI, sI]
    rw [e]; rfl
  · rw [va_up_ne _ _ hb]
    refine (cell_cong (S := S) (S' := wI S a i v) rfl rfl ?_ rfl rfl).symm
    funext j
    simp [wI, sI, hb]
theorem putA_Z {G : fG} {S : fMS} {a i : Nat} {v : Int32} (h : sK S a = 13) (b : Nat) : va_up (cellOf G S) a (.inl (fgZ G, sN S a, .inl (upd (sI S a) i v))) b = cellOf G (wI S a i v) b := by
  by_cases hb : b = a
  · subst hb
    rw [va_up_self, cell_Z (S := wI S b i v) h]
    have e : upd (sI S b) i v = sI (wI S b i v) b := by funext j; simp [upd, wI, sI]
    rw [e]; rfl
  · rw [va_up_ne _ _ hb]
    refine (cell_cong (S := S) (S' := wI S a i v) rfl rfl ?_ rfl rfl).symm
    funext j
    simp [wI, sI, hb]
theorem putA_J {G : fG} {S : fMS} {a i : Nat} {v : Int64} (h : sK S a = 12) (b : Nat) : va_up (cellOf G S) a (.inl (fgJ G, sN S a, .inr (.inl (vp_updL (sJ S a) i v)))) b = cellOf G (wJ S a i v) b := by
  by_cases hb : b = a
  · subst hb
    rw [va_up_self, cell_J (S := wJ S b i v) h]
    have e : vp_updL (sJ S b) i v = sJ (wJ S b i v) b := by funext j; simp [vp_updL, wJ, sJ]
    rw [e]; rfl
  · rw [va_up_ne _ _ hb]
    refine (cell_cong (S := S) (S' := wJ S a i v) rfl rfl rfl ?_ rfl).symm
    funext j
    simp [wJ, sJ, hb]
theorem putA_O {G : fG} {S : fMS} {a i : Nat} {v : Option Nat} (h : sK S a = 14) (b : Nat) : va_up (cellOf G S) a (.inl (fgO G, sN S a, .inr (.inr (.inr (.inr (va_up (sR S a) i v)))))) b = cellOf G (wR S a i v) b := by
  by_cases hb : b = a
  · subst hb
    rw [va_up_self, cell_O (S := wR S b i v) h]
    have e : va_up (sR S b) i v = sR (wR S b i v) b := by funext j; simp [va_up, wR, sR]
    rw [e]; rfl
  · rw [va_up_ne _ _ hb]
    refine (cell_cong (S := S) (S' := wR S a i v) rfl rfl rfl rfl ?_).symm
    funext j
    simp [wR, sR, hb]
theorem putA_D {G : fG} {S : fMS} {a i : Nat} {v : UInt64} (h : sK S a = 15) (b : Nat) : va_up (cellOf G S) a (.inl (fgDD G, sN S a, .inr (.inr (.inr (.inl (vf_upd (fun i => (sJ S a i).toUInt64) i v)))))) b = cellOf G (wJ S a i v.toInt64) b := by
  by_cases hb : b = a
  · subst hb
    rw [va_up_self, cell_D (S := wJ S b i v.toInt64) h]
    have e : vf_upd (fun i => (sJ S b i).toUInt64) i v = (fun j => (sJ (wJ S b i v.toInt64) b j).toUInt64) := by
      funext j
      by_cases hj : j = i
      · subst hj; simp [vf_upd, wJ, sJ]
      · simp [vf_upd, wJ, sJ, hj]
    rw [e]; rfl
  · rw [va_up_ne _ _ hb]
    refine (cell_cong (S := S) (S' := wJ S a i v.toInt64) rfl rfl rfl ?_ rfl).symm
    funext j
    simp [wJ, sJ, hb]
theorem putA_C {G : fG} {S : fMS} {a b sp dp n : Nat} (h : sK S a = 14) (c : Nat) : va_up (cellOf G S) a (.inl (fgO G, sN S a, .inr (.inr (.inr (.inr (va_cpy (sR S b) (sR S a) sp dp n)))))) c = cellOf G (wC S b sp a dp n) c := by
  by_cases hb : c = a
  · subst hb
    rw [va_up_self, cell_O (S := wC S b sp c dp n) h]
    have e : va_cpy (sR S b) (sR S c) sp dp n = sR (wC S b sp c dp n) c := by funext j; simp [va_cpy, wC, sR]
    rw [e]; rfl
  · rw [va_up_ne _ _ hb]
    refine (cell_cong (S := S) (S' := wC S b sp a dp n) rfl rfl rfl rfl ?_).symm
    funext j
    simp [wC, sR, hb]
/-- a new cell: its content by its kind -/
theorem new_up {G : fG} {S : fMS} {q k n : Nat} {e : va_E} (he : cellOf G (wN S q k n) q = e) (b : Nat) : va_up (cellOf G S) q e b = cellOf G (wN S q k n) b := by
  by_cases hb : b = q
  · subst hb
    rw [va_up_self, he]
  · rw [va_up_ne _ _ hb]
    refine (cell_cong (S := S) (S' := wN S q k n) ?_ ?_ ?_ ?_ ?_).symm
    · show va_up _ _ _ _ = _; rw [va_up_ne _ _ hb]; rfl
    · show va_up _ _ _ _ = _; rw [va_up_ne _ _ hb]; rfl
    · funext j; simp [wN, sI, hb]
    · funext j; simp [wN, sJ, hb]
    · funext j; simp [wN, sR, hb]
-- ===== a world in a heap =====
def hsl (H : Heap) : Nat := (H.toList.map (fun c => c.slots.size)).sum
theorem hsl_new {s t : State} {locs : List Loc} {k n : Nat} (h : s.sameButNew t locs k n) : hsl t.heap = hsl s.heap + ((t.heap.toList.drop s.heap.size).map (fun c => c.slots.size)).sum := by
  obtain ⟨-, hle, -, -, -, hc⟩ := h
  have e1 : t.heap.toList = t.heap.toList.take s.heap.size ++ t.heap.toList.drop s.heap.size := (List.take_append_drop _ _).symm
  have e2 : (t.heap.toList.take s.heap.size).map (fun c => c.slots.size) = s.heap.toList.map (fun c => c.slots.size) := by
    apply List.ext_getElem?
    intro i
    simp only [List.getElem?_map, List.getElem?_take]
    by_cases hi : i < s.heap.size
    · rw [if_pos hi]
      have h1 : s.heap[i]? = some s.heap[i] := Array.getElem?_eq_getElem hi
      obtain ⟨c', h2, -, h3, -⟩ := hc i _ h1
      rw [Array.getElem?_toList, Array.getElem?_toList, h2, h1]
      simp [h3]
    · rw [if_neg hi]
      have h1 : s.heap.toList[i]? = none := by simp; omega
      rw [h1]
  unfold hsl
  conv => lhs; rw [e1, List.map_append, List.sum_append, e2]
/-- what the statics hold: the empty row of the lists, the two of Throwable, the Class of rows of objects -/
def fZ (G : fG) (S : fMS) (s : State) (H : Heap) : Prop :=
  va_Z "java/util/ArrayList" "DEFAULTCAPACITY_EMPTY_ELEMENTDATA" "[Ljava/lang/Object;" (.ref (sE S)) (fgA G) s H ∧ va_T (.object "java/lang/Object") (sE S) 0 (fun _ => .null) (fgA G) s H ∧
  va_Mi "[Ljava/lang/Object;" (sM S) s ∧ vx_Zq Bundle.tN "UNASSIGNED_STACK" Bundle.steD (fgA G) s H ∧ vx_Zq Bundle.tN "SUPPRESSED_SENTINEL" Bundle.listD (fgA G) s H
/-- what the tables tell beside the good words: the texts, casts and declared methods, which class may not be cast to which -/
def fT (s : State) : Prop := (∀ q ∈ fStrs, ∃ sa, vk_R RX3 q.1 q.2 sa s) ∧ va_AO "java/lang/Object" s ∧ (∀ w ∈ tables_1, fcd w = true → va_Nw w s) ∧ (∀ q ∈ fNcs, va_Nc q.1 q.2 s)
theorem fcd_warm {s U : State} (hW : s.WarmedH U.vm) {w : Cond} (hw : fcd w = true) (h : va_Nw w s) : va_Nw w U := by
  cases w <;> first | exact va_Nw.warmC hW h | exact va_Nw.warmD hW h | (simp [fcd] at hw)
theorem fT.warm {s U : State} (hW : s.WarmedH U.vm) (h : fT s) : fT U := ⟨fun q hq => (h.1 q hq).imp (fun sa h => vk_R.warm hW h), va_AO.moved hW.alike h.2.1, fun w hw hc => fcd_warm hW hc (h.2.2.1 w hw hc), fun q hq => va_Nc.moved hW.alike (h.2.2.2 q hq)⟩
def fZm (S : fMS) : Prop := sN S (sE S) = 0
def fH (G : fG) (S : fMS) (n : Nat) (s : State) (H : Heap) : Prop :=
  va_P (fgD G) vwCl (va_pl (sL S) (cellOf G S)) H ∧ va_D (fgA G) (va_pl (sL S) (cellOf G S)) ∧ va_K (fgD G) vwCl (fgT G) s ∧ fZ G S s H ∧ fZm S ∧ n ≤ 30000
theorem fZ.moved {G : fG} {S : fMS} {u U : State} {H : Heap} (hvm : u.vm.Alike U.vm) (h : fZ G S u H) : fZ G S U H := by
  obtain ⟨h1, h2, h3, h4, h5⟩ := h
  exact ⟨va_Z.moved hvm h1, va_T.moved hvm h2, va_Mi.moved hvm h3, vx_Zq.moved hvm h4, vx_Zq.moved hvm h5⟩
theorem fZ.kept {G : fG} {S : fMS} {U : State} {H H1 : Heap} (h : fZ G S U H) (hq : ∀ a : Nat, a < H.size → ¬ fgA G a → H1[a]? = H[a]?) : fZ G S U H1 := by
  obtain ⟨h1, h2, h3, h4, h5⟩ := h
  exact ⟨va_Z.kept h1 hq, va_T.kept h2 hq, h3, vx_Zq.kept h4 hq, vx_Zq.kept h5 hq⟩
theorem fH.moved {G : fG} {S : fMS} {n : Nat} {u U : State} {H : Heap} (hvm : u.vm.Alike U.vm) (h : fH G S n u H) : fH G S n U H := by
  obtain ⟨h1, h2, h3, h4, h5, h6⟩ := h
  exact ⟨h1, h2, va_K.moved hvm h3, fZ.moved hvm h4, h5, h6⟩
-- ===== the judgement =====
/-- where a walk stands: program, launch, environment, room, start, method, its arguments, the frames below, its record, its code; then: its end, the number of its locals, the common numbers -/
abbrev fX : Type := (Program × Launch × Env × Room × State × MethodId × Array Value × List Frame × Method × Code) × (State → Prop) × Nat × fG
def xp (F : fX) : Program := F.1.1
def xl (F : fX) : Launch := F.1.2.1
def xe (F : fX) : Env := F.1.2.2.1
def xR (F : fX) : Room := F.1.2.2.2.1
def xs (F : fX) : State := F.1.2.2.2.2.1
def xm (F : fX) : MethodId := F.1.2.2.2.2.2.1
def xa (F : fX) : Array Value := F.1.2.2.2.2.2.2.1
def xb (F : fX) : List Frame := F.1.2.2.2.2.2.2.2.1
def xM (F : fX) : Method := F.1.2.2.2.2.2.2.2.2.1
def xc (F : fX) : Code := F.1.2.2.2.2.2.2.2.2.2
def xQ (F : fX) : State → Prop := F.2.1
def xn (F : fX) : Nat := F.2.2.1
def xG (F : fX) : fG := F.2.2.2
abbrev xS (F : fX) (T : State) (locs : List Loc) (cells slots : Nat) : Prop := Stand (xp F) (xl F) (xe F) (xR F) (xs F) (xm F) (xa F) (xb F) (xM F) (xc F) T locs cells slots
abbrev xW (F : fX) (H : Heap) (locs : List Loc) (cells slots : Nat) (g : JFrame) : Prop := W (xp F) (xl F) (xe F) (xR F) (xs F) (xm F) (xa F) (xb F) (xM F) (xc F) H locs cells slots (xQ F) g
/-- what holds all along a method: the machine, the code, its class, the words, the room by its level, the start not below the common start -/
def fOk (F : fX) (cc : ByteArray) (own : String) (lv : Nat) : Prop :=
  (xp F).tables.exec = Jvm.exec ∧ (xc F).code = cc ∧ (xc F).maxLocals = xn F ∧ (xs F).vm.findClass own = some (xm F).cls ∧ (∀ w ∈ fBig, w.before (xa F) (xs F) = true) ∧
  (20 * lv ≤ (xR F).frames ∧ 30000 * lv ≤ (xR F).cells ∧ 30000 * lv ≤ (xR F).slots ∧ 100 * lv ≤ (xR F).locals) ∧ (fgz (xG F) ≤ (xs F).heap.size ∧ fgs (xG F) ≤ hsl (xs F).heap) ∧ (xM F).locks = false ∧ (xl F).stackTraces = false ∧ fT (xs F)
/-- the counter bounds what is new -/
def fBd (F : fX) (n cells slots : Nat) : Prop := cells + (xs F).heap.size ≤ fgz (xG F) + n ∧ slots + hsl (xs F).heap ≤ fgs (xG F) + n
def fV (F : fX) (S : fMS) (n pc : Nat) (l : List (Option fAV)) (st : List fAV) : Prop :=
  ∀ (T : State) (locs : List Loc) (cells slots : Nat) (ls : Array Slot), xS F T locs cells slots → fBd F n cells slots → fH (xG F) S n (xs F) T.heap → va_S (fgA (xG F)) (xs F).heap T.heap locs → fok ls (xn F) l →
    ∃ t, Steps (xp F).tables (xe F) (xb F) (T.setTop (F0 (xm F) pc ls (st.map fv))) t ∧ xQ F t
theorem fV.to {F : fX} {S : fMS} {n pc : Nat} {l : List (Option fAV)} {st : List fAV} {H : Heap} {locs : List Loc} {cells slots : Nat} {ls : Array Slot} (k : fV F S n pc l st) (hB : fBd F n cells slots) (hH : fH (xG F) S n (xs F) H) (hS : va_S (fgA (xG F)) (xs F).heap H locs) (hl : fok ls (xn F) l) : xW F H locs cells slots (F0 (xm F) pc ls (st.map fv)) := by
  intro T hT X
  subst hT
  exact k T locs cells slots ls X hB hH hS hl
theorem fV.of {F : fX} {S : fMS} {n pc : Nat} {l : List (Option fAV)} {st : List fAV} (k : ∀ (H : Heap) (locs : List Loc) (cells slots : Nat) (ls : Array Slot), fBd F n cells slots → fH (xG F) S n (xs F) H → va_S (fgA (xG F)) (xs F).heap H locs → fok ls (xn F) l → xW F H locs cells slots (F0 (xm F) pc ls (st.map fv))) : fV F S n pc l st :=
  fun T locs cells slots ls X hB hH hS hl => k T.heap locs cells slots ls hB hH hS hl T rfl X
theorem fV.weak {F : fX} {S : fMS} {n pc : Nat} {l l' : List (Option fAV)} {st : List fAV} (hs : ∀ (i : Nat) (v : fAV), l'[i]? = some (some v) → l[i]? = some (some v)) (k : fV F S n pc l' st) : fV F S n pc l st :=
  fun T locs cells slots ls X hB hH hS hl => k T locs cells slots ls X hB hH hS (fok_weak hl hs)
/-- fewer locals -/
def fsub : List (Option fAV) → List (Option fAV) → Prop
  | [], _ => True
  | none :: l', _ :: l => fsub l' l
  | some v :: l', w :: l => w = some v ∧ fsub l' l
  | _ :: _, [] => False
theorem fsub_at : ∀ (l' l : List (Option fAV)), fsub l' l → ∀ (i : Nat) (v : fAV), l'[i]? = some (some v) → l[i]? = some (some v)
  | [], l, _, i, v, h => by simp at h
  | none :: l', [], hs, i, v, h => hs.elim
  | some w :: l', [], hs, i, v, h => hs.elim
  | none :: l', w :: l, hs, i, v, h => by
    cases i with
    | zero => simp at h
    | succ i => simpa using fsub_at l' l hs i v (by simpa using h)
  | some u :: l', w :: l, hs, i, v, h => by
    cases i with
    | zero =>
      simp at h
      subst h
      simp [hs.1]
    | succ i => simpa using fsub_at l' l hs.2 i v (by simpa using h)
theorem fV.sub {F : fX} {S : fMS} {n pc : Nat} {l l' : List (Option fAV)} {st : List fAV} (hs : fsub l' l) (k : fV F S n pc l' st) : fV F S n pc l st := k.weak (fsub_at l' l hs)
theorem fV_iadd {F : fX} {S : fMS} {n pc : Nat} {l : List (Option fAV)} {st : List fAV} {cc : ByteArray} {own : String} {lv : Nat} (hF : fOk F cc own lv) {x y : Int32} (hd : decode cc pc = .ok (.iadd, 1))  (k : fV F S n (pc + 1) l (aI (x + y) :: st)) : fV F S n pc l (aI y :: aI x :: st) := fV.of fun H locs cells slots ls hB hH hS hl => lv_iadd hF.1 hF.2.1 hd  (k.to hB hH hS hl)
theorem fV_isub {F : fX} {S : fMS} {n pc : Nat} {l : List (Option fAV)} {st : List fAV} {cc : ByteArray} {own : String} {lv : Nat} (hF : fOk F cc own lv) {x y : Int32} (hd : decode cc pc = .ok (.isub, 1))  (k : fV F S n (pc + 1) l (aI (x - y) :: st)) : fV F S n pc l (aI y :: aI x :: st) := fV.of fun H locs cells slots ls hB hH hS hl => lv_isub hF.1 hF.2.1 hd  (k.to hB hH hS hl)
theorem fV_imul {F : fX} {S : fMS} {n pc : Nat} {l : List (Option fAV)} {st : List fAV} {cc : ByteArray} {own : String} {lv : Nat} (hF : fOk F cc own lv) {x y : Int32} (hd : decode cc pc = .ok (.imul, 1))  (k : fV F S n (pc + 1) l (aI (x * y) :: st)) : fV F S n pc l (aI y :: aI x :: st) := fV.of fun H locs cells slots ls hB hH hS hl => lv_imul hF.1 hF.2.1 hd  (k.to hB hH hS hl)
theorem fV_iand {F : fX} {S : fMS} {n pc : Nat} {l : List (Option fAV)} {st : List fAV} {cc : ByteArray} {own : String} {lv : Nat} (hF : fOk F cc own lv) {x y : Int32} (hd : decode cc pc = .ok (.iand, 1))  (k : fV F S n (pc + 1) l (aI (x &&& y) :: st)) : fV F S n pc l (aI y :: aI x :: st) := fV.of fun H locs cells slots ls hB hH hS hl => lv_iand hF.1 hF.2.1 hd  (k.to hB hH hS hl)
theorem fV_ior {F : fX} {S : fMS} {n pc : Nat} {l : List (Option fAV)} {st : List fAV} {cc : ByteArray} {own : String} {lv : Nat} (hF : fOk F cc own lv) {x y : Int32} (hd : decode cc pc = .ok (.ior, 1))  (k : fV F S n (pc + 1) l (aI (x ||| y) :: st)) : fV F S n pc l (aI y :: aI x :: st) := fV.of fun H locs cells slots ls hB hH hS hl => lv_ior hF.1 hF.2.1 hd  (k.to hB hH hS hl)
theorem fV_ishl {F : fX} {S : fMS} {n pc : Nat} {l : List (Option fAV)} {st : List fAV} {cc : ByteArray} {own : String} {lv : Nat} (hF : fOk F cc own lv) {x y : Int32} (hd : decode cc pc = .ok (.ishl, 1))  (k : fV F S n (pc + 1) l (aI (x <<< (y &&& 31)) :: st)) : fV F S n pc l (aI y :: aI x :: st) := fV.of fun H locs cells slots ls hB hH hS hl => lv_ishl hF.1 hF.2.1 hd  (k.to hB hH hS hl)
theorem fV_ishr {F : fX} {S : fMS} {n pc : Nat} {l : List (Option fAV)} {st : List fAV} {cc : ByteArray} {own : String} {lv : Nat} (hF : fOk F cc own lv) {x y : Int32} (hd : decode cc pc = .ok (.ishr, 1))  (k : fV F S n (pc + 1) l (aI (x >>> (y &&& 31)) :: st)) : fV F S n pc l (aI y :: aI x :: st) := fV.of fun H locs cells slots ls hB hH hS hl => lv_ishr hF.1 hF.2.1 hd  (k.to hB hH hS hl)
theorem fV_idiv {F : fX} {S : fMS} {n pc : Nat} {l : List (Option fAV)} {st : List fAV} {cc : ByteArray} {own : String} {lv : Nat} (hF : fOk F cc own lv) {x y : Int32} (hd : decode cc pc = .ok (.idiv, 1)) (hne : ¬ y = 0) (k : fV F S n (pc + 1) l (aI (x / y) :: st)) : fV F S n pc l (aI y :: aI x :: st) := fV.of fun H locs cells slots ls hB hH hS hl => lv_idiv hF.1 hF.2.1 hd hne (k.to hB hH hS hl)
theorem fV_irem {F : fX} {S : fMS} {n pc : Nat} {l : List (Option fAV)} {st : List fAV} {cc : ByteArray} {own : String} {lv : Nat} (hF : fOk F cc own lv) {x y : Int32} (hd : decode cc pc = .ok (.irem, 1)) (hne : ¬ y = 0) (k : fV F S n (pc + 1) l (aI (x - x / y * y) :: st)) : fV F S n pc l (aI y :: aI x :: st) := fV.of fun H locs cells slots ls hB hH hS hl => lv_irem hF.1 hF.2.1 hd hne (k.to hB hH hS hl)
theorem fV_ineg {F : fX} {S : fMS} {n pc : Nat} {l : List (Option fAV)} {st : List fAV} {cc : ByteArray} {own : String} {lv : Nat} (hF : fOk F cc own lv) {x : Int32} (hd : decode cc pc = .ok (.ineg, 1))  (k : fV F S n (pc + 1) l (aI (-x) :: st)) : fV F S n pc l (aI x :: st) := fV.of fun H locs cells slots ls hB hH hS hl => lv_ineg hF.1 hF.2.1 hd  (k.to hB hH hS hl)
theorem fV_ladd {F : fX} {S : fMS} {n pc : Nat} {l : List (Option fAV)} {st : List fAV} {cc : ByteArray} {own : String} {lv : Nat} (hF : fOk F cc own lv) {x y : Int64} (hd : decode cc pc = .ok (.ladd, 1))  (k : fV F S n (pc + 1) l (aJ (x + y) :: st)) : fV F S n pc l (aJ y :: aJ x :: st) := fV.of fun H locs cells slots ls hB hH hS hl => lv_ladd hF.1 hF.2.1 hd  (k.to hB hH hS hl)
theorem fV_lmul {F : fX} {S : fMS} {n pc : Nat} {l : List (Option fAV)} {st : List fAV} {cc : ByteArray} {own : String} {lv : Nat} (hF : fOk F cc own lv) {x y : Int64} (hd : decode cc pc = .ok (.lmul, 1))  (k : fV F S n (pc + 1) l (aJ (x * y) :: st)) : fV F S n pc l (aJ y :: aJ x :: st) := fV.of fun H locs cells slots ls hB hH hS hl => lv_lmul hF.1 hF.2.1 hd  (k.to hB hH hS hl)
theorem fV_ldiv {F : fX} {S : fMS} {n pc : Nat} {l : List (Option fAV)} {st : List fAV} {cc : ByteArray} {own : String} {lv : Nat} (hF : fOk F cc own lv) {x y : Int64} (hd : decode cc pc = .ok (.ldiv, 1)) (hne : ¬ y = 0) (k : fV F S n (pc + 1) l (aJ (x / y) :: st)) : fV F S n pc l (aJ y :: aJ x :: st) := fV.of fun H locs cells slots ls hB hH hS hl => lv_ldiv hF.1 hF.2.1 hd hne (k.to hB hH hS hl)
theorem fV_lcmp {F : fX} {S : fMS} {n pc : Nat} {l : List (Option fAV)} {st : List fAV} {cc : ByteArray} {own : String} {lv : Nat} (hF : fOk F cc own lv) {x y : Int64} (hd : decode cc pc = .ok (.lcmp, 1))  (k : fV F S n (pc + 1) l (aI (lg_cmp x y) :: st)) : fV F S n pc l (aJ y :: aJ x :: st) := fV.of fun H locs cells slots ls hB hH hS hl => W.lcmp hF.1 hF.2.1 hd  (k.to hB hH hS hl)
theorem fV_i2l {F : fX} {S : fMS} {n pc : Nat} {l : List (Option fAV)} {st : List fAV} {cc : ByteArray} {own : String} {lv : Nat} (hF : fOk F cc own lv) {x : Int32} (hd : decode cc pc = .ok (.i2l, 1))  (k : fV F S n (pc + 1) l (aJ x.toInt64 :: st)) : fV F S n pc l (aI x :: st) := fV.of fun H locs cells slots ls hB hH hS hl => lv_i2l hF.1 hF.2.1 hd rfl (k.to hB hH hS hl)
theorem fV_i2b {F : fX} {S : fMS} {n pc : Nat} {l : List (Option fAV)} {st : List fAV} {cc : ByteArray} {own : String} {lv : Nat} (hF : fOk F cc own lv) {x : Int32} (hd : decode cc pc = .ok (.i2b, 1))  (k : fV F S n (pc + 1) l (aI x.toInt8.toInt32 :: st)) : fV F S n pc l (aI x :: st) := fV.of fun H locs cells slots ls hB hH hS hl => lv_i2b hF.1 hF.2.1 hd rfl (k.to hB hH hS hl)
theorem fV_i2c {F : fX} {S : fMS} {n pc : Nat} {l : List (Option fAV)} {st : List fAV} {cc : ByteArray} {own : String} {lv : Nat} (hF : fOk F cc own lv) {x : Int32} (hd : decode cc pc = .ok (.i2c, 1))  (k : fV F S n (pc + 1) l (aI (x.toUInt32 % 65536).toInt32 :: st)) : fV F S n pc l (aI x :: st) := fV.of fun H locs cells slots ls hB hH hS hl => lv_i2c hF.1 hF.2.1 hd rfl (k.to hB hH hS hl)
theorem fV_i2f {F : fX} {S : fMS} {n pc : Nat} {l : List (Option fAV)} {st : List fAV} {cc : ByteArray} {own : String} {lv : Nat} (hF : fOk F cc own lv) {x : Int32} (hd : decode cc pc = .ok (.i2f, 1))  (k : fV F S n (pc + 1) l (aF (FP.i2f x) :: st)) : fV F S n pc l (aI x :: st) := fV.of fun H locs cells slots ls hB hH hS hl => lv_i2f hF.1 hF.2.1 hd  (k.to hB hH hS hl)
theorem fV_i2d {F : fX} {S : fMS} {n pc : Nat} {l : List (Option fAV)} {st : List fAV} {cc : ByteArray} {own : String} {lv : Nat} (hF : fOk F cc own lv) {x : Int32} (hd : decode cc pc = .ok (.i2d, 1))  (k : fV F S n (pc + 1) l (aD (FP.i2d x) :: st)) : fV F S n pc l (aI x :: st) := fV.of fun H locs cells slots ls hB hH hS hl => lv_i2d hF.1 hF.2.1 hd  (k.to hB hH hS hl)
theorem fV_f2d {F : fX} {S : fMS} {n pc : Nat} {l : List (Option fAV)} {st : List fAV} {cc : ByteArray} {own : String} {lv : Nat} (hF : fOk F cc own lv) {x : UInt32} (hd : decode cc pc = .ok (.f2d, 1)) (hne : vf_n64 (FP.f2d x)) (k : fV F S n (pc + 1) l (aD (FP.f2d x) :: st)) : fV F S n pc l (aF x :: st) := fV.of fun H locs cells slots ls hB hH hS hl => lv_f2d hF.1 hF.2.1 hd hne (k.to hB hH hS hl)
theorem fV_fdiv {F : fX} {S : fMS} {n pc : Nat} {l : List (Option fAV)} {st : List fAV} {cc : ByteArray} {own : String} {lv : Nat} (hF : fOk F cc own lv) {x y : UInt32} (hd : decode cc pc = .ok (.fdiv, 1)) (hne : vf_n32 (FP.fdiv x y)) (k : fV F S n (pc + 1) l (aF (FP.fdiv x y) :: st)) : fV F S n pc l (aF y :: aF x :: st) := fV.of fun H locs cells slots ls hB hH hS hl => lv_fdiv hF.1 hF.2.1 hd hne (k.to hB hH hS hl)
theorem fV_ddiv {F : fX} {S : fMS} {n pc : Nat} {l : List (Option fAV)} {st : List fAV} {cc : ByteArray} {own : String} {lv : Nat} (hF : fOk F cc own lv) {x y : UInt64} (hd : decode cc pc = .ok (.ddiv, 1)) (hne : vf_n64 (FP.ddiv x y)) (k : fV F S n (pc + 1) l (aD (FP.ddiv x y) :: st)) : fV F S n pc l (aD y :: aD x :: st) := fV.of fun H locs cells slots ls hB hH hS hl => lv_ddiv hF.1 hF.2.1 hd hne (k.to hB hH hS hl)
theorem fV_dcmp {F : fX} {S : fMS} {n pc : Nat} {l : List (Option fAV)} {st : List fAV} {cc : ByteArray} {own : String} {lv : Nat} (hF : fOk F cc own lv) {x y : UInt64} {op : CmpOp} (hd : decode cc pc = .ok (.dcmp op, 1))  (k : fV F S n (pc + 1) l (aI (Op.cmpValue (FP.dcmp x y) op) :: st)) : fV F S n pc l (aD y :: aD x :: st) := fV.of fun H locs cells slots ls hB hH hS hl => lv_dcmp hF.1 hF.2.1 hd  (k.to hB hH hS hl)
theorem fV_fcmp {F : fX} {S : fMS} {n pc : Nat} {l : List (Option fAV)} {st : List fAV} {cc : ByteArray} {own : String} {lv : Nat} (hF : fOk F cc own lv) {x y : UInt32} {op : CmpOp} (hd : decode cc pc = .ok (.fcmp op, 1))  (k : fV F S n (pc + 1) l (aI (Op.cmpValue (FP.fcmp x y) op) :: st)) : fV F S n pc l (aF y :: aF x :: st) := fV.of fun H locs cells slots ls hB hH hS hl => lv_fcmp hF.1 hF.2.1 hd  (k.to hB hH hS hl)
theorem fV_fconst0 {F : fX} {S : fMS} {n pc : Nat} {l : List (Option fAV)} {st : List fAV} {cc : ByteArray} {own : String} {lv : Nat} (hF : fOk F cc own lv)  (hd : decode cc pc = .ok (.fconst 0, 1))  (k : fV F S n (pc + 1) l (aF FP.fconst0 :: st)) : fV F S n pc l (st) := fV.of fun H locs cells slots ls hB hH hS hl => lv_fconst0 hF.1 hF.2.1 hd  (k.to hB hH hS hl)
theorem fV_dconst0 {F : fX} {S : fMS} {n pc : Nat} {l : List (Option fAV)} {st : List fAV} {cc : ByteArray} {own : String} {lv : Nat} (hF : fOk F cc own lv)  (hd : decode cc pc = .ok (.dconst 0, 1))  (k : fV F S n (pc + 1) l (aD FP.dconst0 :: st)) : fV F S n pc l (st) := fV.of fun H locs cells slots ls hB hH hS hl => lv_dconst0 hF.1 hF.2.1 hd  (k.to hB hH hS hl)
theorem fV_iconst {F : fX} {S : fMS} {n pc : Nat} {l : List (Option fAV)} {st : List fAV} {cc : ByteArray} {own : String} {lv : Nat} (hF : fOk F cc own lv) {i : Int} {v : Int32} (hd : decode cc pc = .ok (.iconst i, 1)) (hv : Int32.ofInt i = v) (k : fV F S n (pc + 1) l (aI v :: st)) : fV F S n pc l (st) := fV.of fun H locs cells slots ls hB hH hS hl => lv_iconst hF.1 hF.2.1 hd hv (k.to hB hH hS hl)
theorem fV_bipush {F : fX} {S : fMS} {n pc : Nat} {l : List (Option fAV)} {st : List fAV} {cc : ByteArray} {own : String} {lv : Nat} (hF : fOk F cc own lv) {i : Int} {v : Int32} (hd : decode cc pc = .ok (.bipush i, 2)) (hv : (Int8.ofInt i).toInt32 = v) (k : fV F S n (pc + 2) l (aI v :: st)) : fV F S n pc l (st) := fV.of fun H locs cells slots ls hB hH hS hl => lv_bipush hF.1 hF.2.1 hd hv (k.to hB hH hS hl)
theorem fV_sipush {F : fX} {S : fMS} {n pc : Nat} {l : List (Option fAV)} {st : List fAV} {cc : ByteArray} {own : String} {lv : Nat} (hF : fOk F cc own lv) {i : Int} {v : Int32} (hd : decode cc pc = .ok (.sipush i, 3)) (hv : (Int16.ofInt i).toInt32 = v) (k : fV F S n (pc + 3) l (aI v :: st)) : fV F S n pc l (st) := fV.of fun H locs cells slots ls hB hH hS hl => lv_sipush hF.1 hF.2.1 hd hv (k.to hB hH hS hl)
theorem fV_lconst {F : fX} {S : fMS} {n pc : Nat} {l : List (Option fAV)} {st : List fAV} {cc : ByteArray} {own : String} {lv : Nat} (hF : fOk F cc own lv) {i : Fin 2} {v : Int64} (hd : decode cc pc = .ok (.lconst i, 1)) (hv : Int64.ofNat (i : Nat) = v) (k : fV F S n (pc + 1) l (aJ v :: st)) : fV F S n pc l (st) := fV.of fun H locs cells slots ls hB hH hS hl => lv_lconst hF.1 hF.2.1 hd hv (k.to hB hH hS hl)
theorem fV_null {F : fX} {S : fMS} {n pc : Nat} {l : List (Option fAV)} {st : List fAV} {cc : ByteArray} {own : String} {lv : Nat} (hF : fOk F cc own lv)  (hd : decode cc pc = .ok (.aconst_null, 1))  (k : fV F S n (pc + 1) l (aR none :: st)) : fV F S n pc l (st) := fV.of fun H locs cells slots ls hB hH hS hl => lv_null hF.1 hF.2.1 hd  (k.to hB hH hS hl)
theorem fV_ldc {F : fX} {S : fMS} {n pc : Nat} {l : List (Option fAV)} {st : List fAV} {cc : ByteArray} {own : String} {lv : Nat} (hF : fOk F cc own lv) {idx : Nat} {v : Int32} (hd : decode cc pc = .ok (.ldc idx, 2)) (hw : Cond.constant own idx v ∈ fBig) (k : fV F S n (pc + 2) l (aI v :: st)) : fV F S n pc l (st) := fV.of fun H locs cells slots ls hB hH hS hl => lv_ldc hF.1 hF.2.1 hF.2.2.2.1 (hF.2.2.2.2.1 _ hw) hd  (k.to hB hH hS hl)
theorem fV_ldc_w {F : fX} {S : fMS} {n pc : Nat} {l : List (Option fAV)} {st : List fAV} {cc : ByteArray} {own : String} {lv : Nat} (hF : fOk F cc own lv) {idx : Nat} {v : Int32} (hd : decode cc pc = .ok (.ldc_w idx, 3)) (hw : Cond.constant own idx v ∈ fBig) (k : fV F S n (pc + 3) l (aI v :: st)) : fV F S n pc l (st) := fV.of fun H locs cells slots ls hB hH hS hl => lv_ldcw hF.1 hF.2.1 hF.2.2.2.1 (hF.2.2.2.2.1 _ hw) hd  (k.to hB hH hS hl)
theorem fV_ldc2 {F : fX} {S : fMS} {n pc : Nat} {l : List (Option fAV)} {st : List fAV} {cc : ByteArray} {own : String} {lv : Nat} (hF : fOk F cc own lv) {idx : Nat} {v : Int64} (hd : decode cc pc = .ok (.ldc2_w idx, 3)) (hw : Cond.constantLong own idx v ∈ fBig) (k : fV F S n (pc + 3) l (aJ v :: st)) : fV F S n pc l (st) := fV.of fun H locs cells slots ls hB hH hS hl => lv_ldc2 hF.1 hF.2.1 hF.2.2.2.1 (hF.2.2.2.2.1 _ hw) hd  (k.to hB hH hS hl)
theorem fV_dup {F : fX} {S : fMS} {n pc : Nat} {l : List (Option fAV)} {st : List fAV} {cc : ByteArray} {own : String} {lv : Nat} (hF : fOk F cc own lv) {v : fAV} (hd : decode cc pc = .ok (.dup, 1)) (hc : fcat v = 1) (k : fV F S n (pc + 1) l (v :: v :: st)) : fV F S n pc l (v :: st) := fV.of fun H locs cells slots ls hB hH hS hl => lv_dup hF.1 hF.2.1 hd ((fcat_ok v).trans hc) (k.to hB hH hS hl)
theorem fV_pop {F : fX} {S : fMS} {n pc : Nat} {l : List (Option fAV)} {st : List fAV} {cc : ByteArray} {own : String} {lv : Nat} (hF : fOk F cc own lv) {v : fAV} (hd : decode cc pc = .ok (.pop, 1)) (hc : fcat v = 1) (k : fV F S n (pc + 1) l (st)) : fV F S n pc l (v :: st) := fV.of fun H locs cells slots ls hB hH hS hl => lv_pop hF.1 hF.2.1 hd ((fcat_ok v).trans hc) (k.to hB hH hS hl)
theorem fV_dup_x1 {F : fX} {S : fMS} {n pc : Nat} {l : List (Option fAV)} {st : List fAV} {cc : ByteArray} {own : String} {lv : Nat} (hF : fOk F cc own lv) {v w : fAV} (hd : decode cc pc = .ok (.dup_x1, 1)) (hc : fcat v = 1) (hc2 : fcat w = 1) (k : fV F S n (pc + 1) l (v :: w :: v :: st)) : fV F S n pc l (v :: w :: st) := fV.of fun H locs cells slots ls hB hH hS hl => lv_dup_x1 hF.1 hF.2.1 hd ((fcat_ok v).trans hc) ((fcat_ok w).trans hc2) (k.to hB hH hS hl)
theorem fV_dup2 {F : fX} {S : fMS} {n pc : Nat} {l : List (Option fAV)} {st : List fAV} {cc : ByteArray} {own : String} {lv : Nat} (hF : fOk F cc own lv) {v w : fAV} (hd : decode cc pc = .ok (.dup2, 1)) (hc : fcat v = 1) (hc2 : fcat w = 1) (k : fV F S n (pc + 1) l (v :: w :: v :: w :: st)) : fV F S n pc l (v :: w :: st) := fV.of fun H locs cells slots ls hB hH hS hl => lv_dup2_11 hF.1 hF.2.1 hd ((fcat_ok v).trans hc) ((fcat_ok w).trans hc2) (k.to hB hH hS hl)
theorem fV_iload {F : fX} {S : fMS} {n pc : Nat} {l : List (Option fAV)} {st : List fAV} {cc : ByteArray} {own : String} {lv : Nat} (hF : fOk F cc own lv) {i : Nat} {x : Int32} (hd : decode cc pc = .ok (.iload i, 2))  (hv : l[i]? = some (some (aI x))) (k : fV F S n (pc + 2) l (aI x :: st)) : fV F S n pc l st := fV.of fun H locs cells slots ls hB hH hS hl => lv_iload hF.1 hF.2.1 hd  (fok_at hl hv) (k.to hB hH hS hl)
theorem fV_iload_n {F : fX} {S : fMS} {n pc : Nat} {l : List (Option fAV)} {st : List fAV} {cc : ByteArray} {own : String} {lv : Nat} (hF : fOk F cc own lv) {i : Nat} {x : Int32} {j : Fin 4} (hd : decode cc pc = .ok (.iload_n j, 1)) (hj : (j : Nat) = i) (hv : l[i]? = some (some (aI x))) (k : fV F S n (pc + 1) l (aI x :: st)) : fV F S n pc l st := fV.of fun H locs cells slots ls hB hH hS hl => lv_iload_n hF.1 hF.2.1 hd hj (fok_at hl hv) (k.to hB hH hS hl)
theorem fV_lload {F : fX} {S : fMS} {n pc : Nat} {l : List (Option fAV)} {st : List fAV} {cc : ByteArray} {own : String} {lv : Nat} (hF : fOk F cc own lv) {i : Nat} {x : Int64} (hd : decode cc pc = .ok (.lload i, 2))  (hv : l[i]? = some (some (aJ x))) (k : fV F S n (pc + 2) l (aJ x :: st)) : fV F S n pc l st := fV.of fun H locs cells slots ls hB hH hS hl => lv_lload hF.1 hF.2.1 hd  (fok_at hl hv) (k.to hB hH hS hl)
theorem fV_lload_n {F : fX} {S : fMS} {n pc : Nat} {l : List (Option fAV)} {st : List fAV} {cc : ByteArray} {own : String} {lv : Nat} (hF : fOk F cc own lv) {i : Nat} {x : Int64} {j : Fin 4} (hd : decode cc pc = .ok (.lload_n j, 1)) (hj : (j : Nat) = i) (hv : l[i]? = some (some (aJ x))) (k : fV F S n (pc + 1) l (aJ x :: st)) : fV F S n pc l st := fV.of fun H locs cells slots ls hB hH hS hl => lv_lload_n hF.1 hF.2.1 hd hj (fok_at hl hv) (k.to hB hH hS hl)
theorem fV_fload {F : fX} {S : fMS} {n pc : Nat} {l : List (Option fAV)} {st : List fAV} {cc : ByteArray} {own : String} {lv : Nat} (hF : fOk F cc own lv) {i : Nat} {x : UInt32} (hd : decode cc pc = .ok (.fload i, 2))  (hv : l[i]? = some (some (aF x))) (k : fV F S n (pc + 2) l (aF x :: st)) : fV F S n pc l st := fV.of fun H locs cells slots ls hB hH hS hl => lv_fload hF.1 hF.2.1 hd  (fok_at hl hv) (k.to hB hH hS hl)
theorem fV_fload_n {F : fX} {S : fMS} {n pc : Nat} {l : List (Option fAV)} {st : List fAV} {cc : ByteArray} {own : String} {lv : Nat} (hF : fOk F cc own lv) {i : Nat} {x : UInt32} {j : Fin 4} (hd : decode cc pc = .ok (.fload_n j, 1)) (hj : (j : Nat) = i) (hv : l[i]? = some (some (aF x))) (k : fV F S n (pc + 1) l (aF x :: st)) : fV F S n pc l st := fV.of fun H locs cells slots ls hB hH hS hl => lv_fload_n hF.1 hF.2.1 hd hj (fok_at hl hv) (k.to hB hH hS hl)
theorem fV_dload {F : fX} {S : fMS} {n pc : Nat} {l : List (Option fAV)} {st : List fAV} {cc : ByteArray} {own : String} {lv : Nat} (hF : fOk F cc own lv) {i : Nat} {x : UInt64} (hd : decode cc pc = .ok (.dload i, 2))  (hv : l[i]? = some (some (aD x))) (k : fV F S n (pc + 2) l (aD x :: st)) : fV F S n pc l st := fV.of fun H locs cells slots ls hB hH hS hl => lv_dload hF.1 hF.2.1 hd  (fok_at hl hv) (k.to hB hH hS hl)
theorem fV_dload_n {F : fX} {S : fMS} {n pc : Nat} {l : List (Option fAV)} {st : List fAV} {cc : ByteArray} {own : String} {lv : Nat} (hF : fOk F cc own lv) {i : Nat} {x : UInt64} {j : Fin 4} (hd : decode cc pc = .ok (.dload_n j, 1)) (hj : (j : Nat) = i) (hv : l[i]? = some (some (aD x))) (k : fV F S n (pc + 1) l (aD x :: st)) : fV F S n pc l st := fV.of fun H locs cells slots ls hB hH hS hl => lv_dload_n hF.1 hF.2.1 hd hj (fok_at hl hv) (k.to hB hH hS hl)
theorem fV_aload {F : fX} {S : fMS} {n pc : Nat} {l : List (Option fAV)} {st : List fAV} {cc : ByteArray} {own : String} {lv : Nat} (hF : fOk F cc own lv) {i : Nat} {r : Option Nat} (hd : decode cc pc = .ok (.aload i, 2)) (hv : l[i]? = some (some (aR r))) (k : fV F S n (pc + 2) l (aR r :: st)) : fV F S n pc l st := fV.of fun H locs cells slots ls hB hH hS hl => by
  cases r with
  | none => exact lv_aloadN hF.1 hF.2.1 hd (fok_at hl hv) (k.to hB hH hS hl)
  | some x => exact lv_aload hF.1 hF.2.1 hd (fok_at hl hv) (k.to hB hH hS hl)
theorem fV_aload_n {F : fX} {S : fMS} {n pc : Nat} {l : List (Option fAV)} {st : List fAV} {cc : ByteArray} {own : String} {lv : Nat} (hF : fOk F cc own lv) {i : Nat} {r : Option Nat} {j : Fin 4} (hd : decode cc pc = .ok (.aload_n j, 1)) (hj : (j : Nat) = i) (hv : l[i]? = some (some (aR r))) (k : fV F S n (pc + 1) l (aR r :: st)) : fV F S n pc l st := fV.of fun H locs cells slots ls hB hH hS hl => by
  cases r with
  | none => exact lv_aload_nN hF.1 hF.2.1 hd hj (fok_at hl hv) (k.to hB hH hS hl)
  | some x => exact lv_aload_n hF.1 hF.2.1 hd hj (fok_at hl hv) (k.to hB hH hS hl)
theorem fV_istore {F : fX} {S : fMS} {n pc : Nat} {l : List (Option fAV)} {st : List fAV} {cc : ByteArray} {own : String} {lv : Nat} (hF : fOk F cc own lv) {i : Nat} {x : Int32}  (l' : Int32 → List (Option fAV)) (hd : decode cc pc = .ok (.istore i, 2))  (hi : i < xn F) (hw : fnw l i = true) (hl' : ∀ y, (l.set i (some (aI y))) = l' y) (k : ∀ y : Int32, y = x → fV F S n (pc + 2) (l' y) st) : fV F S n pc l (aI x :: st) := fV.of fun H locs cells slots ls hB hH hS hl => lv_istore hF.1 hF.2.1 hd  hl hi rfl (fun ls' h' => (k x rfl).to hB hH hS (hl' x ▸ fok_put1 hw h'))
theorem fV_istore_n {F : fX} {S : fMS} {n pc : Nat} {l : List (Option fAV)} {st : List fAV} {cc : ByteArray} {own : String} {lv : Nat} (hF : fOk F cc own lv) {i : Nat} {x : Int32} {j : Fin 4} (l' : Int32 → List (Option fAV)) (hd : decode cc pc = .ok (.istore_n j, 1)) (hj : (j : Nat) = i) (hi : i < xn F) (hw : fnw l i = true) (hl' : ∀ y, (l.set i (some (aI y))) = l' y) (k : ∀ y : Int32, y = x → fV F S n (pc + 1) (l' y) st) : fV F S n pc l (aI x :: st) := fV.of fun H locs cells slots ls hB hH hS hl => lv_istore_n hF.1 hF.2.1 hd hj hl hi rfl (fun ls' h' => (k x rfl).to hB hH hS (hl' x ▸ fok_put1 hw h'))
theorem fV_fstore {F : fX} {S : fMS} {n pc : Nat} {l : List (Option fAV)} {st : List fAV} {cc : ByteArray} {own : String} {lv : Nat} (hF : fOk F cc own lv) {i : Nat} {x : UInt32}  (l' : UInt32 → List (Option fAV)) (hd : decode cc pc = .ok (.fstore i, 2))  (hi : i < xn F) (hw : fnw l i = true) (hl' : ∀ y, (l.set i (some (aF y))) = l' y) (k : ∀ y : UInt32, y = x → fV F S n (pc + 2) (l' y) st) : fV F S n pc l (aF x :: st) := fV.of fun H locs cells slots ls hB hH hS hl => lv_fstore hF.1 hF.2.1 hd  hl hi rfl (fun ls' h' => (k x rfl).to hB hH hS (hl' x ▸ fok_put1 hw h'))
theorem fV_fstore_n {F : fX} {S : fMS} {n pc : Nat} {l : List (Option fAV)} {st : List fAV} {cc : ByteArray} {own : String} {lv : Nat} (hF : fOk F cc own lv) {i : Nat} {x : UInt32} {j : Fin 4} (l' : UInt32 → List (Option fAV)) (hd : decode cc pc = .ok (.fstore_n j, 1)) (hj : (j : Nat) = i) (hi : i < xn F) (hw : fnw l i = true) (hl' : ∀ y, (l.set i (some (aF y))) = l' y) (k : ∀ y : UInt32, y = x → fV F S n (pc + 1) (l' y) st) : fV F S n pc l (aF x :: st) := fV.of fun H locs cells slots ls hB hH hS hl => lv_fstore_n hF.1 hF.2.1 hd hj hl hi rfl (fun ls' h' => (k x rfl).to hB hH hS (hl' x ▸ fok_put1 hw h'))
theorem fV_lstore {F : fX} {S : fMS} {n pc : Nat} {l : List (Option fAV)} {st : List fAV} {cc : ByteArray} {own : String} {lv : Nat} (hF : fOk F cc own lv) {i : Nat} {x : Int64}  (l' : Int64 → List (Option fAV)) (hd : decode cc pc = .ok (.lstore i, 2))  (hi : i + 1 < xn F) (hw : fnw l i = true) (hl' : ∀ y, ((l.set i (some (aJ y))).set (i + 1) none) = l' y) (k : ∀ y : Int64, y = x → fV F S n (pc + 2) (l' y) st) : fV F S n pc l (aJ x :: st) := fV.of fun H locs cells slots ls hB hH hS hl => lv_lstore hF.1 hF.2.1 hd  hl hi rfl (fun ls' h' => (k x rfl).to hB hH hS (hl' x ▸ fok_put2 hw h'))
theorem fV_lstore_n {F : fX} {S : fMS} {n pc : Nat} {l : List (Option fAV)} {st : List fAV} {cc : ByteArray} {own : String} {lv : Nat} (hF : fOk F cc own lv) {i : Nat} {x : Int64} {j : Fin 4} (l' : Int64 → List (Option fAV)) (hd : decode cc pc = .ok (.lstore_n j, 1)) (hj : (j : Nat) = i) (hi : i + 1 < xn F) (hw : fnw l i = true) (hl' : ∀ y, ((l.set i (some (aJ y))).set (i + 1) none) = l' y) (k : ∀ y : Int64, y = x → fV F S n (pc + 1) (l' y) st) : fV F S n pc l (aJ x :: st) := fV.of fun H locs cells slots ls hB hH hS hl => lv_lstore_n hF.1 hF.2.1 hd hj hl hi rfl (fun ls' h' => (k x rfl).to hB hH hS (hl' x ▸ fok_put2 hw h'))
theorem fV_dstore {F : fX} {S : fMS} {n pc : Nat} {l : List (Option fAV)} {st : List fAV} {cc : ByteArray} {own : String} {lv : Nat} (hF : fOk F cc own lv) {i : Nat} {x : UInt64}  (l' : UInt64 → List (Option fAV)) (hd : decode cc pc = .ok (.dstore i, 2))  (hi : i + 1 < xn F) (hw : fnw l i = true) (hl' : ∀ y, ((l.set i (some (aD y))).set (i + 1) none) = l' y) (k : ∀ y : UInt64, y = x → fV F S n (pc + 2) (l' y) st) : fV F S n pc l (aD x :: st) := fV.of fun H locs cells slots ls hB hH hS hl => lv_dstore hF.1 hF.2.1 hd  hl hi rfl (fun ls' h' => (k x rfl).to hB hH hS (hl' x ▸ fok_put2 hw h'))
theorem fV_dstore_n {F : fX} {S : fMS} {n pc : Nat} {l : List (Option fAV)} {st : List fAV} {cc : ByteArray} {own : String} {lv : Nat} (hF : fOk F cc own lv) {i : Nat} {x : UInt64} {j : Fin 4} (l' : UInt64 → List (Option fAV)) (hd : decode cc pc = .ok (.dstore_n j, 1)) (hj : (j : Nat) = i) (hi : i + 1 < xn F) (hw : fnw l i = true) (hl' : ∀ y, ((l.set i (some (aD y))).set (i + 1) none) = l' y) (k : ∀ y : UInt64, y = x → fV F S n (pc + 1) (l' y) st) : fV F S n pc l (aD x :: st) := fV.of fun H locs cells slots ls hB hH hS hl => lv_dstore_n hF.1 hF.2.1 hd hj hl hi rfl (fun ls' h' => (k x rfl).to hB hH hS (hl' x ▸ fok_put2 hw h'))
theorem fV_astore {F : fX} {S : fMS} {n pc : Nat} {l : List (Option fAV)} {st : List fAV} {cc : ByteArray} {own : String} {lv : Nat} (hF : fOk F cc own lv) {i : Nat} {r : Option Nat}  (l' : Option Nat → List (Option fAV)) (hd : decode cc pc = .ok (.astore i, 2))  (hi : i < xn F) (hw : fnw l i = true) (hl' : ∀ y, (l.set i (some (aR y))) = l' y) (k : ∀ y : Option Nat, y = r → fV F S n (pc + 2) (l' y) st) : fV F S n pc l (aR r :: st) := fV.of fun H locs cells slots ls hB hH hS hl => by
  cases r with
  | none => exact lv_astoreN hF.1 hF.2.1 hd  hl hi rfl (fun ls' h' => (k none rfl).to hB hH hS (hl' none ▸ fok_put1 (v := aR none) hw h'))
  | some x => exact lv_astore hF.1 hF.2.1 hd  hl hi rfl (fun ls' h' => (k (some x) rfl).to hB hH hS (hl' (some x) ▸ fok_put1 (v := aR (some x)) hw h'))
theorem fV_astore_n {F : fX} {S : fMS} {n pc : Nat} {l : List (Option fAV)} {st : List fAV} {cc : ByteArray} {own : String} {lv : Nat} (hF : fOk F cc own lv) {i : Nat} {r : Option Nat} {j : Fin 4} (l' : Option Nat → List (Option fAV)) (hd : decode cc pc = .ok (.astore_n j, 1)) (hj : (j : Nat) = i) (hi : i < xn F) (hw : fnw l i = true) (hl' : ∀ y, (l.set i (some (aR y))) = l' y) (k : ∀ y : Option Nat, y = r → fV F S n (pc + 1) (l' y) st) : fV F S n pc l (aR r :: st) := fV.of fun H locs cells slots ls hB hH hS hl => by
  cases r with
  | none => exact lv_astore_nN hF.1 hF.2.1 hd hj hl hi rfl (fun ls' h' => (k none rfl).to hB hH hS (hl' none ▸ fok_put1 (v := aR none) hw h'))
  | some x => exact lv_astore_n hF.1 hF.2.1 hd hj hl hi rfl (fun ls' h' => (k (some x) rfl).to hB hH hS (hl' (some x) ▸ fok_put1 (v := aR (some x)) hw h'))
theorem fV_istore0 {F : fX} {S : fMS} {n pc : Nat} {l : List (Option fAV)} {st : List fAV} {cc : ByteArray} {own : String} {lv : Nat} (hF : fOk F cc own lv) {i : Nat} {x : Int32}  (l' : List (Option fAV)) (hd : decode cc pc = .ok (.istore i, 2))  (hi : i < xn F) (hw : fnw l i = true) (hl' : (l.set i (some (aI x))) = l') (k : fV F S n (pc + 2) l' st) : fV F S n pc l (aI x :: st) := by
  subst hl'
  exact fV_istore hF (fun y => (l.set i (some (aI y)))) hd  hi hw (fun _ => rfl) (fun y e => by subst e; exact k)
theorem fV_istore_n0 {F : fX} {S : fMS} {n pc : Nat} {l : List (Option fAV)} {st : List fAV} {cc : ByteArray} {own : String} {lv : Nat} (hF : fOk F cc own lv) {i : Nat} {x : Int32} {j : Fin 4} (l' : List (Option fAV)) (hd : decode cc pc = .ok (.istore_n j, 1)) (hj : (j : Nat) = i) (hi : i < xn F) (hw : fnw l i = true) (hl' : (l.set i (some (aI x))) = l') (k : fV F S n (pc + 1) l' st) : fV F S n pc l (aI x :: st) := by
  subst hl'
  exact fV_istore_n hF (fun y => (l.set i (some (aI y)))) hd hj hi hw (fun _ => rfl) (fun y e => by subst e; exact k)
theorem fV_fstore0 {F : fX} {S : fMS} {n pc : Nat} {l : List (Option fAV)} {st : List fAV} {cc : ByteArray} {own : String} {lv : Nat} (hF : fOk F cc own lv) {i : Nat} {x : UInt32}  (l' : List (Option fAV)) (hd : decode cc pc = .ok (.fstore i, 2))  (hi : i < xn F) (hw : fnw l i = true) (hl' : (l.set i (some (aF x))) = l') (k : fV F S n (pc + 2) l' st) : fV F S n pc l (aF x :: st) := by
  subst hl'
  exact fV_fstore hF (fun y => (l.set i (some (aF y)))) hd  hi hw (fun _ => rfl) (fun y e => by subst e; exact k)
theorem fV_fstore_n0 {F : fX} {S : fMS} {n pc : Nat} {l : List (Option fAV)} {st : List fAV} {cc : ByteArray} {own : String} {lv : Nat} (hF : fOk F cc own lv) {i : Nat} {x : UInt32} {j : Fin 4} (l' : List (Option fAV)) (hd : decode cc pc = .ok (.fstore_n j, 1)) (hj : (j : Nat) = i) (hi : i < xn F) (hw : fnw l i = true) (hl' : (l.set i (some (aF x))) = l') (k : fV F S n (pc + 1) l' st) : fV F S n pc l (aF x :: st) := by
  subst hl'
  exact fV_fstore_n hF (fun y => (l.set i (some (aF y)))) hd hj hi hw (fun _ => rfl) (fun y e => by subst e; exact k)
theorem fV_lstore0 {F : fX} {S : fMS} {n pc : Nat} {l : List (Option fAV)} {st : List fAV} {cc : ByteArray} {own : String} {lv : Nat} (hF : fOk F cc own lv) {i : Nat} {x : Int64}  (l' : List (Option fAV)) (hd : decode cc pc = .ok (.lstore i, 2))  (hi : i + 1 < xn F) (hw : fnw l i = true) (hl' : ((l.set i (some (aJ x))).set (i + 1) none) = l') (k : fV F S n (pc + 2) l' st) : fV F S n pc l (aJ x :: st) := by
  subst hl'
  exact fV_lstore hF (fun y => ((l.set i (some (aJ y))).set (i + 1) none)) hd  hi hw (fun _ => rfl) (fun y e => by subst e; exact k)
theorem fV_lstore_n0 {F : fX} {S : fMS} {n pc : Nat} {l : List (Option fAV)} {st : List fAV} {cc : ByteArray} {own : String} {lv : Nat} (hF : fOk F cc own lv) {i : Nat} {x : Int64} {j : Fin 4} (l' : List (Option fAV)) (hd : decode cc pc = .ok (.lstore_n j, 1)) (hj : (j : Nat) = i) (hi : i + 1 < xn F) (hw : fnw l i = true) (hl' : ((l.set i (some (aJ x))).set (i + 1) none) = l') (k : fV F S n (pc + 1) l' st) : fV F S n pc l (aJ x :: st) := by
  subst hl'
  exact fV_lstore_n hF (fun y => ((l.set i (some (aJ y))).set (i + 1) none)) hd hj hi hw (fun _ => rfl) (fun y e => by subst e; exact k)
theorem fV_dstore0 {F : fX} {S : fMS} {n pc : Nat} {l : List (Option fAV)} {st : List fAV} {cc : ByteArray} {own : String} {lv : Nat} (hF : fOk F cc own lv) {i : Nat} {x : UInt64}  (l' : List (Option fAV)) (hd : decode cc pc = .ok (.dstore i, 2))  (hi : i + 1 < xn F) (hw : fnw l i = true) (hl' : ((l.set i (some (aD x))).set (i + 1) none) = l') (k : fV F S n (pc + 2) l' st) : fV F S n pc l (aD x :: st) := by
  subst hl'
  exact fV_dstore hF (fun y => ((l.set i (some (aD y))).set (i + 1) none)) hd  hi hw (fun _ => rfl) (fun y e => by subst e; exact k)
theorem fV_dstore_n0 {F : fX} {S : fMS} {n pc : Nat} {l : List (Option fAV)} {st : List fAV} {cc : ByteArray} {own : String} {lv : Nat} (hF : fOk F cc own lv) {i : Nat} {x : UInt64} {j : Fin 4} (l' : List (Option fAV)) (hd : decode cc pc = .ok (.dstore_n j, 1)) (hj : (j : Nat) = i) (hi : i + 1 < xn F) (hw : fnw l i = true) (hl' : ((l.set i (some (aD x))).set (i + 1) none) = l') (k : fV F S n (pc + 1) l' st) : fV F S n pc l (aD x :: st) := by
  subst hl'
  exact fV_dstore_n hF (fun y => ((l.set i (some (aD y))).set (i + 1) none)) hd hj hi hw (fun _ => rfl) (fun y e => by subst e; exact k)
theorem fV_astore0 {F : fX} {S : fMS} {n pc : Nat} {l : List (Option fAV)} {st : List fAV} {cc : ByteArray} {own : String} {lv : Nat} (hF : fOk F cc own lv) {i : Nat} {x : Option Nat}  (l' : List (Option fAV)) (hd : decode cc pc = .ok (.astore i, 2))  (hi : i < xn F) (hw : fnw l i = true) (hl' : (l.set i (some (aR x))) = l') (k : fV F S n (pc + 2) l' st) : fV F S n pc l (aR x :: st) := by
  subst hl'
  exact fV_astore hF (fun y => (l.set i (some (aR y)))) hd  hi hw (fun _ => rfl) (fun y e => by subst e; exact k)
theorem fV_astore_n0 {F : fX} {S : fMS} {n pc : Nat} {l : List (Option fAV)} {st : List fAV} {cc : ByteArray} {own : String} {lv : Nat} (hF : fOk F cc own lv) {i : Nat} {x : Option Nat} {j : Fin 4} (l' : List (Option fAV)) (hd : decode cc pc = .ok (.astore_n j, 1)) (hj : (j : Nat) = i) (hi : i < xn F) (hw : fnw l i = true) (hl' : (l.set i (some (aR x))) = l') (k : fV F S n (pc + 1) l' st) : fV F S n pc l (aR x :: st) := by
  subst hl'
  exact fV_astore_n hF (fun y => (l.set i (some (aR y)))) hd hj hi hw (fun _ => rfl) (fun y e => by subst e; exact k)
theorem fV_iinc {F : fX} {S : fMS} {n pc : Nat} {l : List (Option fAV)} {st : List fAV} {cc : ByteArray} {own : String} {lv : Nat} (hF : fOk F cc own lv) {i : Nat} {m : Int} {x v : Int32} (l' : Int32 → List (Option fAV)) (hd : decode cc pc = .ok (.iinc i m, 3)) (hx : l[i]? = some (some (aI x))) (hv : Int32.ofInt m = v) (hi : i < xn F) (hw : fnw l i = true) (hl' : ∀ y, (l.set i (some (aI y))) = l' y) (k : ∀ y : Int32, y = x + v → fV F S n (pc + 3) (l' y) st) : fV F S n pc l st := fV.of fun H locs cells slots ls hB hH hS hl => by
  subst hv
  obtain ⟨kx, hkx⟩ := List.getElem?_of_mem ((fls_mem l 0 (i, fv (aI x))).mpr ⟨i, aI x, hx, by simp⟩)
  exact lv_iinc hF.1 hF.2.1 hd hl hkx rfl hi rfl (fun ls' h' => (k _ rfl).to hB hH hS (hl' _ ▸ fok_put1 (v := aI _) hw h'))
theorem fV_icmp_eq {F : fX} {S : fMS} {n pc : Nat} {l : List (Option fAV)} {st : List fAV} {cc : ByteArray} {own : String} {lv : Nat} (hF : fOk F cc own lv) {x y : Int32} {off : Int} {tgt : Nat} (hd : decode cc pc = .ok (.if_icmp .eq off, 3)) (ht : (pc : Int) + off = (tgt : Int)) (kt : x = y → fV F S n tgt l st) (kf : ¬ x = y → fV F S n (pc + 3) l st) : fV F S n pc l (aI y :: aI x :: st) := fV.of fun H locs cells slots ls hB hH hS hl => lv_icmp_eq hF.1 hF.2.1 hd ht (fun c => (kt c).to hB hH hS hl) (fun c => (kf c).to hB hH hS hl)
theorem fV_icmp_ne {F : fX} {S : fMS} {n pc : Nat} {l : List (Option fAV)} {st : List fAV} {cc : ByteArray} {own : String} {lv : Nat} (hF : fOk F cc own lv) {x y : Int32} {off : Int} {tgt : Nat} (hd : decode cc pc = .ok (.if_icmp .ne off, 3)) (ht : (pc : Int) + off = (tgt : Int)) (kt : ¬ x = y → fV F S n tgt l st) (kf : x = y → fV F S n (pc + 3) l st) : fV F S n pc l (aI y :: aI x :: st) := fV.of fun H locs cells slots ls hB hH hS hl => lv_icmp_ne hF.1 hF.2.1 hd ht (fun c => (kt c).to hB hH hS hl) (fun c => (kf c).to hB hH hS hl)
theorem fV_icmp_lt {F : fX} {S : fMS} {n pc : Nat} {l : List (Option fAV)} {st : List fAV} {cc : ByteArray} {own : String} {lv : Nat} (hF : fOk F cc own lv) {x y : Int32} {off : Int} {tgt : Nat} (hd : decode cc pc = .ok (.if_icmp .lt off, 3)) (ht : (pc : Int) + off = (tgt : Int)) (kt : x < y → fV F S n tgt l st) (kf : ¬ x < y → fV F S n (pc + 3) l st) : fV F S n pc l (aI y :: aI x :: st) := fV.of fun H locs cells slots ls hB hH hS hl => lv_icmp_lt hF.1 hF.2.1 hd ht (fun c => (kt c).to hB hH hS hl) (fun c => (kf c).to hB hH hS hl)
theorem fV_icmp_ge {F : fX} {S : fMS} {n pc : Nat} {l : List (Option fAV)} {st : List fAV} {cc : ByteArray} {own : String} {lv : Nat} (hF : fOk F cc own lv) {x y : Int32} {off : Int} {tgt : Nat} (hd : decode cc pc = .ok (.if_icmp .ge off, 3)) (ht : (pc : Int) + off = (tgt : Int)) (kt : y ≤ x → fV F S n tgt l st) (kf : ¬ y ≤ x → fV F S n (pc + 3) l st) : fV F S n pc l (aI y :: aI x :: st) := fV.of fun H locs cells slots ls hB hH hS hl => lv_icmp_ge hF.1 hF.2.1 hd ht (fun c => (kt c).to hB hH hS hl) (fun c => (kf c).to hB hH hS hl)
theorem fV_icmp_gt {F : fX} {S : fMS} {n pc : Nat} {l : List (Option fAV)} {st : List fAV} {cc : ByteArray} {own : String} {lv : Nat} (hF : fOk F cc own lv) {x y : Int32} {off : Int} {tgt : Nat} (hd : decode cc pc = .ok (.if_icmp .gt off, 3)) (ht : (pc : Int) + off = (tgt : Int)) (kt : y < x → fV F S n tgt l st) (kf : ¬ y < x → fV F S n (pc + 3) l st) : fV F S n pc l (aI y :: aI x :: st) := fV.of fun H locs cells slots ls hB hH hS hl => lv_icmp_gt hF.1 hF.2.1 hd ht (fun c => (kt c).to hB hH hS hl) (fun c => (kf c).to hB hH hS hl)
theorem fV_icmp_le {F : fX} {S : fMS} {n pc : Nat} {l : List (Option fAV)} {st : List fAV} {cc : ByteArray} {own : String} {lv : Nat} (hF : fOk F cc own lv) {x y : Int32} {off : Int} {tgt : Nat} (hd : decode cc pc = .ok (.if_icmp .le off, 3)) (ht : (pc : Int) + off = (tgt : Int)) (kt : x ≤ y → fV F S n tgt l st) (kf : ¬ x ≤ y → fV F S n (pc + 3) l st) : fV F S n pc l (aI y :: aI x :: st) := fV.of fun H locs cells slots ls hB hH hS hl => lv_icmp_le hF.1 hF.2.1 hd ht (fun c => (kt c).to hB hH hS hl) (fun c => (kf c).to hB hH hS hl)
theorem fV_if_eq {F : fX} {S : fMS} {n pc : Nat} {l : List (Option fAV)} {st : List fAV} {cc : ByteArray} {own : String} {lv : Nat} (hF : fOk F cc own lv) {x : Int32} {off : Int} {tgt : Nat} (hd : decode cc pc = .ok (.ifCond .eq off, 3)) (ht : (pc : Int) + off = (tgt : Int)) (kt : x = 0 → fV F S n tgt l st) (kf : ¬ x = 0 → fV F S n (pc + 3) l st) : fV F S n pc l (aI x :: st) := fV.of fun H locs cells slots ls hB hH hS hl => lv_if_eq hF.1 hF.2.1 hd ht (fun c => (kt c).to hB hH hS hl) (fun c => (kf c).to hB hH hS hl)
theorem fV_if_ne {F : fX} {S : fMS} {n pc : Nat} {l : List (Option fAV)} {st : List fAV} {cc : ByteArray} {own : String} {lv : Nat} (hF : fOk F cc own lv) {x : Int32} {off : Int} {tgt : Nat} (hd : decode cc pc = .ok (.ifCond .ne off, 3)) (ht : (pc : Int) + off = (tgt : Int)) (kt : ¬ x = 0 → fV F S n tgt l st) (kf : x = 0 → fV F S n (pc + 3) l st) : fV F S n pc l (aI x :: st) := fV.of fun H locs cells slots ls hB hH hS hl => lv_if_ne hF.1 hF.2.1 hd ht (fun c => (kt c).to hB hH hS hl) (fun c => (kf c).to hB hH hS hl)
theorem fV_if_lt {F : fX} {S : fMS} {n pc : Nat} {l : List (Option fAV)} {st : List fAV} {cc : ByteArray} {own : String} {lv : Nat} (hF : fOk F cc own lv) {x : Int32} {off : Int} {tgt : Nat} (hd : decode cc pc = .ok (.ifCond .lt off, 3)) (ht : (pc : Int) + off = (tgt : Int)) (kt : x < 0 → fV F S n tgt l st) (kf : ¬ x < 0 → fV F S n (pc + 3) l st) : fV F S n pc l (aI x :: st) := fV.of fun H locs cells slots ls hB hH hS hl => lv_if_lt hF.1 hF.2.1 hd ht (fun c => (kt c).to hB hH hS hl) (fun c => (kf c).to hB hH hS hl)
theorem fV_if_ge {F : fX} {S : fMS} {n pc : Nat} {l : List (Option fAV)} {st : List fAV} {cc : ByteArray} {own : String} {lv : Nat} (hF : fOk F cc own lv) {x : Int32} {off : Int} {tgt : Nat} (hd : decode cc pc = .ok (.ifCond .ge off, 3)) (ht : (pc : Int) + off = (tgt : Int)) (kt : 0 ≤ x → fV F S n tgt l st) (kf : ¬ 0 ≤ x → fV F S n (pc + 3) l st) : fV F S n pc l (aI x :: st) := fV.of fun H locs cells slots ls hB hH hS hl => lv_if_ge hF.1 hF.2.1 hd ht (fun c => (kt c).to hB hH hS hl) (fun c => (kf c).to hB hH hS hl)
theorem fV_if_gt {F : fX} {S : fMS} {n pc : Nat} {l : List (Option fAV)} {st : List fAV} {cc : ByteArray} {own : String} {lv : Nat} (hF : fOk F cc own lv) {x : Int32} {off : Int} {tgt : Nat} (hd : decode cc pc = .ok (.ifCond .gt off, 3)) (ht : (pc : Int) + off = (tgt : Int)) (kt : 0 < x → fV F S n tgt l st) (kf : ¬ 0 < x → fV F S n (pc + 3) l st) : fV F S n pc l (aI x :: st) := fV.of fun H locs cells slots ls hB hH hS hl => lv_if_gt hF.1 hF.2.1 hd ht (fun c => (kt c).to hB hH hS hl) (fun c => (kf c).to hB hH hS hl)
theorem fV_if_le {F : fX} {S : fMS} {n pc : Nat} {l : List (Option fAV)} {st : List fAV} {cc : ByteArray} {own : String} {lv : Nat} (hF : fOk F cc own lv) {x : Int32} {off : Int} {tgt : Nat} (hd : decode cc pc = .ok (.ifCond .le off, 3)) (ht : (pc : Int) + off = (tgt : Int)) (kt : x ≤ 0 → fV F S n tgt l st) (kf : ¬ x ≤ 0 → fV F S n (pc + 3) l st) : fV F S n pc l (aI x :: st) := fV.of fun H locs cells slots ls hB hH hS hl => lv_if_le hF.1 hF.2.1 hd ht (fun c => (kt c).to hB hH hS hl) (fun c => (kf c).to hB hH hS hl)
theorem fV_acmp_eq {F : fX} {S : fMS} {n pc : Nat} {l : List (Option fAV)} {st : List fAV} {cc : ByteArray} {own : String} {lv : Nat} (hF : fOk F cc own lv) {x y : Option Nat} {off : Int} {tgt : Nat} (hd : decode cc pc = .ok (.if_acmp .eq off, 3)) (ht : (pc : Int) + off = (tgt : Int)) (kt : x = y → fV F S n tgt l st) (kf : ¬ x = y → fV F S n (pc + 3) l st) : fV F S n pc l (aR y :: aR x :: st) := fV.of fun H locs cells slots ls hB hH hS hl => lv_acmp_eq hF.1 hF.2.1 hd ht (fun c => (kt c).to hB hH hS hl) (fun c => (kf c).to hB hH hS hl)
theorem fV_acmp_ne {F : fX} {S : fMS} {n pc : Nat} {l : List (Option fAV)} {st : List fAV} {cc : ByteArray} {own : String} {lv : Nat} (hF : fOk F cc own lv) {x y : Option Nat} {off : Int} {tgt : Nat} (hd : decode cc pc = .ok (.if_acmp .ne off, 3)) (ht : (pc : Int) + off = (tgt : Int)) (kt : ¬ x = y → fV F S n tgt l st) (kf : x = y → fV F S n (pc + 3) l st) : fV F S n pc l (aR y :: aR x :: st) := fV.of fun H locs cells slots ls hB hH hS hl => lv_acmp_ne hF.1 hF.2.1 hd ht (fun c => (kt c).to hB hH hS hl) (fun c => (kf c).to hB hH hS hl)
theorem fV_ifnull {F : fX} {S : fMS} {n pc : Nat} {l : List (Option fAV)} {st : List fAV} {cc : ByteArray} {own : String} {lv : Nat} (hF : fOk F cc own lv) {r : Option Nat} {off : Int} {tgt : Nat} (hd : decode cc pc = .ok (.ifnull off, 3)) (ht : (pc : Int) + off = (tgt : Int)) (kt : r = none → fV F S n tgt l st) (kf : ¬ r = none → fV F S n (pc + 3) l st) : fV F S n pc l (aR r :: st) := fV.of fun H locs cells slots ls hB hH hS hl => by
  cases r with
  | none => exact lv_ifnullN hF.1 hF.2.1 hd ht ((kt rfl).to hB hH hS hl)
  | some x => exact lv_ifnull hF.1 hF.2.1 hd ((kf (fun e => by cases e)).to hB hH hS hl)
theorem fV_ifnonnull {F : fX} {S : fMS} {n pc : Nat} {l : List (Option fAV)} {st : List fAV} {cc : ByteArray} {own : String} {lv : Nat} (hF : fOk F cc own lv) {r : Option Nat} {off : Int} {tgt : Nat} (hd : decode cc pc = .ok (.ifnonnull off, 3)) (ht : (pc : Int) + off = (tgt : Int)) (kt : ¬ r = none → fV F S n tgt l st) (kf : r = none → fV F S n (pc + 3) l st) : fV F S n pc l (aR r :: st) := fV.of fun H locs cells slots ls hB hH hS hl => by
  cases r with
  | none => exact lv_ifnonnullN hF.1 hF.2.1 hd ((kf rfl).to hB hH hS hl)
  | some x => exact lv_ifnonnull hF.1 hF.2.1 hd ht ((kt (fun e => by cases e)).to hB hH hS hl)
theorem fV_goto {F : fX} {S : fMS} {n pc : Nat} {l : List (Option fAV)} {st : List fAV} {cc : ByteArray} {own : String} {lv : Nat} (hF : fOk F cc own lv) {off : Int} {tgt : Nat} (hd : decode cc pc = .ok (.goto off, 3)) (ht : (pc : Int) + off = (tgt : Int)) (k : fV F S n tgt l st) : fV F S n pc l st := fV.of fun H locs cells slots ls hB hH hS hl => lv_goto hF.1 hF.2.1 hd ht (k.to hB hH hS hl)
theorem fV_tableIn {F : fX} {S : fMS} {n pc : Nat} {l : List (Option fAV)} {st : List fAV} {cc : ByteArray} {own : String} {lv : Nat} (hF : fOk F cc own lv) {dflt lo hi : Int} {offs : Array Int} {len : Nat} {x : Int32} {off : Int} {tgt : Nat} (hd : decode cc pc = .ok (.tableswitch dflt lo hi offs, len)) (h1 : ¬ x.toInt < lo) (h2 : ¬ hi < x.toInt) (ho : offs[(x.toInt - lo).toNat]? = some off) (ht : (pc : Int) + off = (tgt : Int)) (k : fV F S n tgt l st) : fV F S n pc l (aI x :: st) := fV.of fun H locs cells slots ls hB hH hS hl => lv_tableIn hF.1 hF.2.1 hd h1 h2 ho ht (k.to hB hH hS hl)
theorem fV_tableOut {F : fX} {S : fMS} {n pc : Nat} {l : List (Option fAV)} {st : List fAV} {cc : ByteArray} {own : String} {lv : Nat} (hF : fOk F cc own lv) {dflt lo hi : Int} {offs : Array Int} {len : Nat} {x : Int32} {tgt : Nat} (hd : decode cc pc = .ok (.tableswitch dflt lo hi offs, len)) (h1 : x.toInt < lo ∨ hi < x.toInt) (ht : (pc : Int) + dflt = (tgt : Int)) (k : fV F S n tgt l st) : fV F S n pc l (aI x :: st) := fV.of fun H locs cells slots ls hB hH hS hl => lv_tableOut hF.1 hF.2.1 hd h1 ht (k.to hB hH hS hl)
-- ===== fields =====
/-- a kind's class, its fields in the frame's order, the words of its layout -/
def fKind (k : Nat) (C : String) (T : u_T) : Prop := k < 11 ∧ vwCl[kc k]? = some (C, T, kn k) ∧ ∀ w ∈ u_ws C T (kn k), w ∈ fBig
theorem fH.at {G : fG} {S : fMS} {n : Nat} {s : State} {H : Heap} (h : fH G S n s H) {a : Nat} (ha : a ∈ sL S) : ∃ q0 : Nat, (va_pl (sL S) (cellOf G S))[q0]? = some (a, cellOf G S a) := va_pl_get (X := []) ha
theorem fH.ge {G : fG} {S : fMS} {n : Nat} {s : State} {H : Heap} (h : fH G S n s H) {a : Nat} (ha : a ∈ sL S) : fgz G ≤ a := by
  obtain ⟨q0, hq⟩ := h.at ha
  exact h.2.1.2 q0 _ hq
theorem fH.lt {G : fG} {S : fMS} {n : Nat} {s : State} {H : Heap} (h : fH G S n s H) {a : Nat} (ha : a ∈ sL S) : a < H.size := by
  obtain ⟨q0, hq⟩ := h.at ha
  exact (h.1 q0 _ hq).lt
theorem fH.put {G : fG} {S S' : fMS} {n : Nat} {s : State} {H H1 : Heap} {a q0 : Nat} {e : va_E} (h : fH G S n s H) (ha : a ∈ sL S) (hq : (va_pl (sL S) (cellOf G S))[q0]? = some (a, cellOf G S a)) (hc : ∀ b, va_up (cellOf G S) a e b = cellOf G S' b) (hL : sL S' = sL S) (hN : sN S' = sN S) (hE : sE S' = sE S) (hM : sM S' = sM S)
    (hP : va_P (fgD G) vwCl ((va_pl (sL S) (cellOf G S)).set q0 (a, e)) H1) (hD : va_D (fgA G) ((va_pl (sL S) (cellOf G S)).set q0 (a, e))) {s0 : State} {locs0 locs : List Loc} {H0 : Heap} (hS0 : va_S (fgA G) H0 H locs0) (hS : va_S (fgA G) H0 H1 locs) (hz : fgz G ≤ H0.size) : fH G S' n s H1 := by
  have e1 : (va_pl (sL S) (cellOf G S)).set q0 (a, e) = va_pl (sL S') (cellOf G S') := by
    have h1 := va_pl_set (X := []) h.2.1 ha hq (e := e)
    rw [hL]
    exact h1.trans (va_pl_congr hc)
  rw [e1] at hP hD
  obtain ⟨-, -, h3, h4, h5, h6⟩ := h
  refine ⟨hP, hD, h3, ?_, ?_, h6⟩
  · have h7 := fZ.kept h4 (H1 := H1) (fun b hb hA => by
      have hb0 : b < H0.size := Nat.lt_of_lt_of_le (Nat.not_le.mp hA) hz
      rw [hS.2.1 b hb0 hA, hS0.2.1 b hb0 hA])
    unfold fZ
    rw [hE, hM]
    exact h7
  · unfold fZm
    rw [hN, hE]
    exact h5
section
variable {F : fX} {S : fMS} {n pc : Nat} {l : List (Option fAV)} {st : List fAV} {cc : ByteArray} {own : String} {lv : Nat}
theorem fV_get (hF : fOk F cc own lv) {k a i index : Nat} {r : Option Nat} {C ref : String} {T : u_T} (hk : fKind k C T) (he : r = some a) (hA : isA S k a) (hi : i < kn k) (hw : Cond.fieldLink own index ref (T i).2.1 (T i).2.2.1 ∈ fBig) (href : ref = (T i).1 ∨ Cond.sameField ref (T i).1 (T i).2.1 (T i).2.2.1 ∈ fBig) (hd : decode cc pc = .ok (.getfield index, 3)) {v : fAV} (hv : slotAV S k a i = v) (kk : fV F S n (pc + 3) l (v :: st)) : fV F S n pc l (aR r :: st) := by
  subst he hv
  refine fV.of fun H locs cells slots ls hB hH hS hl => ?_
  obtain ⟨q0, hq⟩ := hH.at hA.1
  have hq1 := hq.trans (congrArg (fun e => some (a, e)) (cell_obj hA.2 hk.1))
  refine va_get hF.1 hF.2.1 hF.2.2.2.2.1 hk.2.2 hF.2.2.2.1 hH.2.2.1 hH.1 q0 hq1 hk.2.1 i hi (hF.2.2.2.2.1 _ hw) ?_ (v := fv (slotAV S k a i)) ?_ hd (kk.to hB hH hS hl)
  · intro x hx
    rcases href with h | h
    · rw [h]; exact hx
    · exact u_same (hF.2.2.2.2.1 _ h) x hx
  · simp [hi]
theorem fV_getI (hF : fOk F cc own lv) {k a i index : Nat} {r : Option Nat} {C ref : String} {T : u_T} (hk : fKind k C T) (he : r = some a) (hA : isA S k a) (hi : i < kn k) (hw : Cond.fieldLink own index ref (T i).2.1 (T i).2.2.1 ∈ fBig) (href : ref = (T i).1 ∨ Cond.sameField ref (T i).1 (T i).2.1 (T i).2.2.1 ∈ fBig) (ht : kft k i = 0) (hd : decode cc pc = .ok (.getfield index, 3)) (kk : fV F S n (pc + 3) l (aI (sI S a i) :: st)) : fV F S n pc l (aR r :: st) :=
  fV_get hF hk he hA hi hw href hd (by unfold slotAV; rw [ht]; rfl) kk
theorem fV_getJ (hF : fOk F cc own lv) {k a i index : Nat} {r : Option Nat} {C ref : String} {T : u_T} (hk : fKind k C T) (he : r = some a) (hA : isA S k a) (hi : i < kn k) (hw : Cond.fieldLink own index ref (T i).2.1 (T i).2.2.1 ∈ fBig) (href : ref = (T i).1 ∨ Cond.sameField ref (T i).1 (T i).2.1 (T i).2.2.1 ∈ fBig) (ht : kft k i = 1) (hd : decode cc pc = .ok (.getfield index, 3)) (kk : fV F S n (pc + 3) l (aJ (sJ S a i) :: st)) : fV F S n pc l (aR r :: st) :=
  fV_get hF hk he hA hi hw href hd (by unfold slotAV; rw [ht]; rfl) kk
theorem fV_getR (hF : fOk F cc own lv) {k a i index : Nat} {r : Option Nat} {C ref : String} {T : u_T} (hk : fKind k C T) (he : r = some a) (hA : isA S k a) (hi : i < kn k) (hw : Cond.fieldLink own index ref (T i).2.1 (T i).2.2.1 ∈ fBig) (href : ref = (T i).1 ∨ Cond.sameField ref (T i).1 (T i).2.1 (T i).2.2.1 ∈ fBig) (ht : kft k i = 2) (hd : decode cc pc = .ok (.getfield index, 3)) (kk : fV F S n (pc + 3) l (aR (sR S a i) :: st)) : fV F S n pc l (aR r :: st) :=
  fV_get hF hk he hA hi hw href hd (by unfold slotAV; rw [ht]; rfl) kk
/-- a store, told by what it makes of the memory -/
theorem fV_put (hF : fOk F cc own lv) {k a i index : Nat} {r : Option Nat} {C ref : String} {T : u_T} {ty0 : Nat → FieldType} (hk : fKind k C T) (hty : ∀ j, j < kn k → parseFieldDescriptor (T j).2.2.1 = some (ty0 j)) (hnm : ∀ x, x < kn k → ∀ y, y < kn k → x ≠ y → (T x).2.1 ≠ (T y).2.1)
    (he : r = some a) (hA : isA S k a) (hi : i < kn k) (hw : Cond.fieldLink own index ref (T i).2.1 (T i).2.2.1 ∈ fBig) (href : ref = (T i).1 ∨ Cond.sameField ref (T i).1 (T i).2.1 (T i).2.2.1 ∈ fBig) (hfin : (T i).2.2.2 = false ∨ ((T i).2.2.2 = true ∧ (xM F).name = "<init>" ∧ (T i).1 = own)) {v : fAV} (hn : narrow (ty0 i) (fv v) = fv v) (hfit : fits (ty0 i) (fv v) = true)
    (hd : decode cc pc = .ok (.putfield index, 3)) {S' : fMS} (hc : ∀ (G : fG) (b : Nat), va_up (cellOf G S) a (.inr (kc k, ((List.range (kn k)).map (fun i => fv (slotAV S k a i))).set i (fv v))) b = cellOf G S' b) (hS' : sL S' = sL S ∧ sN S' = sN S ∧ sE S' = sE S ∧ sM S' = sM S) (kk : fV F S' n (pc + 3) l st) : fV F S n pc l (v :: aR r :: st) := by
  subst he
  refine fV.of fun H locs cells slots ls hB hH hS hl => ?_
  obtain ⟨q0, hq⟩ := hH.at hA.1
  have hq1 := hq.trans (congrArg (fun e => some (a, e)) (cell_obj hA.2 hk.1))
  have hsame : ∀ x, (xs F).fieldFound? (T i).1 (T i).2.1 (T i).2.2.1 = some x → (xs F).fieldFound? ref (T i).2.1 (T i).2.2.1 = some x := by
    intro x hx
    rcases href with h | h
    · rw [h]; exact hx
    · exact u_same (hF.2.2.2.2.1 _ h) x hx
  rcases hfin with hfin | ⟨hfin, hin, hown⟩
  · refine va_put hF.1 hF.2.1 hF.2.2.2.2.1 hk.2.2 ty0 hty hnm hF.2.2.2.1 hH.2.2.1 hH.1 hH.2.1 hS q0 hq1 hk.2.1 i hi (hF.2.2.2.2.1 _ hw) hsame hfin (hty i hi) hn hfit (by simpa using hi) hd (fun H1 locs1 hP1 hD1 hS1 => ?_)
    exact kk.to hB (fH.put (s0 := xs F) hH hA.1 hq (hc _) hS'.1 hS'.2.1 hS'.2.2.1 hS'.2.2.2 hP1 hD1 hS hS1 hF.2.2.2.2.2.2.1.1) hS1 hl
  · refine va_putF hF.1 hF.2.1 hF.2.2.2.2.1 hk.2.2 ty0 hty hnm hF.2.2.2.1 hH.2.2.1 hH.1 hH.2.1 hS q0 hq1 hk.2.1 i hi (hF.2.2.2.2.1 _ hw) hsame hfin hin hown (hty i hi) hn hfit (by simpa using hi) hd (fun H1 locs1 hP1 hD1 hS1 => ?_)
    exact kk.to hB (fH.put (s0 := xs F) hH hA.1 hq (hc _) hS'.1 hS'.2.1 hS'.2.2.1 hS'.2.2.2 hP1 hD1 hS hS1 hF.2.2.2.2.2.2.1.1) hS1 hl
theorem fV_putI (hF : fOk F cc own lv) {k a i index : Nat} {r : Option Nat} {C ref : String} {T : u_T} {ty0 : Nat → FieldType} {v : Int32} (hk : fKind k C T) (hty : ∀ j, j < kn k → parseFieldDescriptor (T j).2.2.1 = some (ty0 j)) (hnm : ∀ x, x < kn k → ∀ y, y < kn k → x ≠ y → (T x).2.1 ≠ (T y).2.1)
    (he : r = some a) (hA : isA S k a) (hi : i < kn k) (ht : kft k i = 0) (hw : Cond.fieldLink own index ref (T i).2.1 (T i).2.2.1 ∈ fBig) (href : ref = (T i).1 ∨ Cond.sameField ref (T i).1 (T i).2.1 (T i).2.2.1 ∈ fBig) (hfin : (T i).2.2.2 = false ∨ ((T i).2.2.2 = true ∧ (xM F).name = "<init>" ∧ (T i).1 = own)) (hn : narrow (ty0 i) (fv (aI v)) = fv (aI v)) (hfit : fits (ty0 i) (fv (aI v)) = true)
    (hd : decode cc pc = .ok (.putfield index, 3)) (kk : fV F (wI S a i v) n (pc + 3) l st) : fV F S n pc l (aI v :: aR r :: st) :=
  fV_put hF hk hty hnm he hA hi hw href hfin hn hfit hd (S' := wI S a i v) (fun G b => put_I hA.2 hk.1 hi ht b) ⟨rfl, rfl, rfl, rfl⟩ kk
theorem fV_putJ (hF : fOk F cc own lv) {k a i index : Nat} {r : Option Nat} {C ref : String} {T : u_T} {ty0 : Nat → FieldType} {v : Int64} (hk : fKind k C T) (hty : ∀ j, j < kn k → parseFieldDescriptor (T j).2.2.1 = some (ty0 j)) (hnm : ∀ x, x < kn k → ∀ y, y < kn k → x ≠ y → (T x).2.1 ≠ (T y).2.1)
    (he : r = some a) (hA : isA S k a) (hi : i < kn k) (ht : kft k i = 1) (hw : Cond.fieldLink own index ref (T i).2.1 (T i).2.2.1 ∈ fBig) (href : ref = (T i).1 ∨ Cond.sameField ref (T i).1 (T i).2.1 (T i).2.2.1 ∈ fBig) (hfin : (T i).2.2.2 = false ∨ ((T i).2.2.2 = true ∧ (xM F).name = "<init>" ∧ (T i).1 = own)) (hn : narrow (ty0 i) (fv (aJ v)) = fv (aJ v)) (hfit : fits (ty0 i) (fv (aJ v)) = true)
    (hd : decode cc pc = .ok (.putfield index, 3)) (kk : fV F (wJ S a i v) n (pc + 3) l st) : fV F S n pc l (aJ v :: aR r :: st) :=
  fV_put hF hk hty hnm he hA hi hw href hfin hn hfit hd (S' := wJ S a i v) (fun G b => put_J hA.2 hk.1 hi ht b) ⟨rfl, rfl, rfl, rfl⟩ kk
theorem fV_putR (hF : fOk F cc own lv) {k a i index : Nat} {r : Option Nat} {C ref : String} {T : u_T} {ty0 : Nat → FieldType} {v : Option Nat} (hk : fKind k C T) (hty : ∀ j, j < kn k → parseFieldDescriptor (T j).2.2.1 = some (ty0 j)) (hnm : ∀ x, x < kn k → ∀ y, y < kn k → x ≠ y → (T x).2.1 ≠ (T y).2.1)
    (he : r = some a) (hA : isA S k a) (hi : i < kn k) (ht : kft k i = 2) (hw : Cond.fieldLink own index ref (T i).2.1 (T i).2.2.1 ∈ fBig) (href : ref = (T i).1 ∨ Cond.sameField ref (T i).1 (T i).2.1 (T i).2.2.1 ∈ fBig) (hfin : (T i).2.2.2 = false ∨ ((T i).2.2.2 = true ∧ (xM F).name = "<init>" ∧ (T i).1 = own)) (hn : narrow (ty0 i) (fv (aR v)) = fv (aR v)) (hfit : fits (ty0 i) (fv (aR v)) = true)
    (hd : decode cc pc = .ok (.putfield index, 3)) (kk : fV F (wR S a i v) n (pc + 3) l st) : fV F S n pc l (aR v :: aR r :: st) :=
  fV_put hF hk hty hnm he hA hi hw href hfin hn hfit hd (S' := wR S a i v) (fun G b => put_R hA.2 hk.1 hi ht b) ⟨rfl, rfl, rfl, rfl⟩ kk
theorem rf_nar (ty : FieldType) (r : Option Nat) : narrow ty (fv (aR r)) = fv (aR r) := by cases r <;> cases ty <;> rfl
theorem rf_fit {ty : FieldType} (h : ty.isReference = true) (r : Option Nat) : fits ty (fv (aR r)) = true := by cases r <;> cases ty <;> first | rfl | (cases h)
end
theorem fK1 : fKind 1 RX0 TX0 := ⟨by decide, rfl, inlX0⟩
theorem fK2 : fKind 2 RX1 TX1 := ⟨by decide, rfl, inlX1⟩
theorem fK3 : fKind 3 RX2 TX2 := ⟨by decide, rfl, inlX2⟩
theorem fK4 : fKind 4 RX3 TX3 := ⟨by decide, rfl, inlX3⟩
theorem fK5 : fKind 5 RX4 TX4 := ⟨by decide, rfl, inlX4⟩
theorem fK6 : fKind 6 RJx4a65c TJx4a65c := ⟨by decide, rfl, inlJx4a65c⟩
-- ===== rows =====
theorem fH.any {G : fG} {S : fMS} {n : Nat} {s : State} {H : Heap} (hT : fT s) (h : fH G S n s H) {a k : Nat} (hA : isA S k a) (hk : k = 1 ∨ k = 2 ∨ k = 3) : va_Any "java/lang/Object" s H a := by
  obtain ⟨q0, hq⟩ := h.at hA.1
  have hk11 : k < 11 := by rcases hk with h | h | h <;> omega
  have hP := h.1 q0 _ (hq.trans (congrArg (fun e => some (a, e)) (cell_obj hA.2 hk11)))
  obtain ⟨r, hr, cell, c1, c2, c3, -⟩ := hP
  have hcs : ∃ C T N, vwCl[kc k]? = some (C, T, N) ∧ va_Nw (.castable C "java/lang/Object") s := by
    have hz := hT.2.2.1
    rcases hk with e | e | e <;> subst e
    · exact ⟨RX0, TX0, 8, rfl, hz (.castable RX0 "java/lang/Object") fw_cast0 rfl⟩
    · exact ⟨RX1, TX1, 4, rfl, hz (.castable RX1 "java/lang/Object") fw_cast1 rfl⟩
    · exact ⟨RX2, TX2, 14, rfl, hz (.castable RX2 "java/lang/Object") fw_cast2 rfl⟩
  obtain ⟨C, T, N, hC, hcast⟩ := hcs
  obtain ⟨-, hfc, kC, hkC, -⟩ := h.2.2.1.1 _ _ hC
  refine ⟨cell, c1, by rw [c3]; rfl, ⟨kC, by rw [c2]; exact hkC⟩, fun comp hcomp => ?_⟩
  obtain ⟨c3', c4, e3, e4, hasg⟩ := Cond.castable_spec hcast
  rw [c2]
  rw [hfc] at e3
  cases e3
  rw [hcomp] at e4
  cases e4
  exact hasg
section
variable {F : fX} {S : fMS} {n pc : Nat} {l : List (Option fAV)} {st : List fAV} {cc : ByteArray} {own : String} {lv : Nat}
theorem fV_iald (hF : fOk F cc own lv) {a : Nat} {r : Option Nat} {i : Int32} (he : r = some a) (hA : isA S 11 a) (hi : vp_in i (sN S a)) (hd : decode cc pc = .ok (.iaload, 1)) (kk : fV F S n (pc + 1) l (aI (sI S a i.toNatClampNeg) :: st)) : fV F S n pc l (aI i :: aR r :: st) := by
  subst he
  refine fV.of fun H locs cells slots ls hB hH hS hl => ?_
  obtain ⟨q0, hq⟩ := hH.at hA.1
  exact va_iald hF.1 hF.2.1 hH.2.2.1 hH.1 q0 0 (hq.trans (congrArg (fun e => some (a, e)) (cell_I hA.2))) rfl hi hd (kk.to hB hH hS hl)
theorem fV_zald (hF : fOk F cc own lv) {a : Nat} {r : Option Nat} {i : Int32} (he : r = some a) (hA : isA S 13 a) (hi : vp_in i (sN S a)) (hd : decode cc pc = .ok (.baload, 1)) (kk : fV F S n (pc + 1) l (aI (sI S a i.toNatClampNeg) :: st)) : fV F S n pc l (aI i :: aR r :: st) := by
  subst he
  refine fV.of fun H locs cells slots ls hB hH hS hl => ?_
  obtain ⟨q0, hq⟩ := hH.at hA.1
  exact va_zald hF.1 hF.2.1 hH.2.2.1 hH.1 q0 2 (hq.trans (congrArg (fun e => some (a, e)) (cell_Z hA.2))) rfl hi hd (kk.to hB hH hS hl)
theorem fV_lald (hF : fOk F cc own lv) {a : Nat} {r : Option Nat} {i : Int32} (he : r = some a) (hA : isA S 12 a) (hi : vp_in i (sN S a)) (hd : decode cc pc = .ok (.laload, 1)) (kk : fV F S n (pc + 1) l (aJ (sJ S a i.toNatClampNeg) :: st)) : fV F S n pc l (aI i :: aR r :: st) := by
  subst he
  refine fV.of fun H locs cells slots ls hB hH hS hl => ?_
  obtain ⟨q0, hq⟩ := hH.at hA.1
  exact va_lald hF.1 hF.2.1 hH.2.2.1 hH.1 q0 1 (hq.trans (congrArg (fun e => some (a, e)) (cell_J hA.2))) rfl hi hd (kk.to hB hH hS hl)
theorem fV_dald (hF : fOk F cc own lv) {a : Nat} {r : Option Nat} {i : Int32} (he : r = some a) (hA : isA S 15 a) (hi : vp_in i (sN S a)) (hd : decode cc pc = .ok (.daload, 1)) (kk : fV F S n (pc + 1) l (aD (sJ S a i.toNatClampNeg).toUInt64 :: st)) : fV F S n pc l (aI i :: aR r :: st) := by
  subst he
  refine fV.of fun H locs cells slots ls hB hH hS hl => ?_
  obtain ⟨q0, hq⟩ := hH.at hA.1
  exact va_dald hF.1 hF.2.1 hH.2.2.1 hH.1 q0 4 (hq.trans (congrArg (fun e => some (a, e)) (cell_D hA.2))) rfl hi hd (kk.to hB hH hS hl)
theorem fV_aald (hF : fOk F cc own lv) {a : Nat} {r : Option Nat} {i : Int32} (he : r = some a) (hA : isA S 14 a) (hi : vp_in i (sN S a)) (hd : decode cc pc = .ok (.aaload, 1)) (kk : fV F S n (pc + 1) l (aR (sR S a i.toNatClampNeg) :: st)) : fV F S n pc l (aI i :: aR r :: st) := by
  subst he
  refine fV.of fun H locs cells slots ls hB hH hS hl => ?_
  obtain ⟨q0, hq⟩ := hH.at hA.1
  exact va_aldq hF.1 hF.2.1 hH.2.2.1 hH.1 q0 3 (hq.trans (congrArg (fun e => some (a, e)) (cell_O hA.2))) rfl hi hd (kk.to hB hH hS hl)
theorem fV_iast (hF : fOk F cc own lv) {a : Nat} {r : Option Nat} {i x : Int32} (he : r = some a) (hA : isA S 11 a) (hi : vp_in i (sN S a)) (hd : decode cc pc = .ok (.iastore, 1)) (kk : fV F (wI S a i.toNatClampNeg x) n (pc + 1) l st) : fV F S n pc l (aI x :: aI i :: aR r :: st) := by
  subst he
  refine fV.of fun H locs cells slots ls hB hH hS hl => ?_
  obtain ⟨q0, hq⟩ := hH.at hA.1
  exact va_iast hF.1 hF.2.1 hH.2.2.1 hH.1 hH.2.1 hS q0 0 (hq.trans (congrArg (fun e => some (a, e)) (cell_I hA.2))) rfl hi hd (fun H1 locs1 hP1 hD1 hS1 => kk.to hB (fH.put (s0 := xs F) hH hA.1 hq (putA_I hA.2) rfl rfl rfl rfl hP1 hD1 hS hS1 hF.2.2.2.2.2.2.1.1) hS1 hl)
theorem fV_zast (hF : fOk F cc own lv) {a : Nat} {r : Option Nat} {i x : Int32} (he : r = some a) (hA : isA S 13 a) (hi : vp_in i (sN S a)) (hd : decode cc pc = .ok (.bastore, 1)) (kk : fV F (wI S a i.toNatClampNeg (vp_nar .boolean x)) n (pc + 1) l st) : fV F S n pc l (aI x :: aI i :: aR r :: st) := by
  subst he
  refine fV.of fun H locs cells slots ls hB hH hS hl => ?_
  obtain ⟨q0, hq⟩ := hH.at hA.1
  exact va_zast hF.1 hF.2.1 hH.2.2.1 hH.1 hH.2.1 hS q0 2 (hq.trans (congrArg (fun e => some (a, e)) (cell_Z hA.2))) rfl hi hd (fun H1 locs1 hP1 hD1 hS1 => kk.to hB (fH.put (s0 := xs F) hH hA.1 hq (putA_Z hA.2) rfl rfl rfl rfl hP1 hD1 hS hS1 hF.2.2.2.2.2.2.1.1) hS1 hl)
theorem fV_last (hF : fOk F cc own lv) {a : Nat} {r : Option Nat} {i : Int32} {x : Int64} (he : r = some a) (hA : isA S 12 a) (hi : vp_in i (sN S a)) (hd : decode cc pc = .ok (.lastore, 1)) (kk : fV F (wJ S a i.toNatClampNeg x) n (pc + 1) l st) : fV F S n pc l (aJ x :: aI i :: aR r :: st) := by
  subst he
  refine fV.of fun H locs cells slots ls hB hH hS hl => ?_
  obtain ⟨q0, hq⟩ := hH.at hA.1
  exact va_last hF.1 hF.2.1 hH.2.2.1 hH.1 hH.2.1 hS q0 1 (hq.trans (congrArg (fun e => some (a, e)) (cell_J hA.2))) rfl hi hd (fun H1 locs1 hP1 hD1 hS1 => kk.to hB (fH.put (s0 := xs F) hH hA.1 hq (putA_J hA.2) rfl rfl rfl rfl hP1 hD1 hS hS1 hF.2.2.2.2.2.2.1.1) hS1 hl)
theorem fV_dast (hF : fOk F cc own lv) {a : Nat} {r : Option Nat} {i : Int32} {x : UInt64} (he : r = some a) (hA : isA S 15 a) (hi : vp_in i (sN S a)) (hd : decode cc pc = .ok (.dastore, 1)) (kk : fV F (wJ S a i.toNatClampNeg x.toInt64) n (pc + 1) l st) : fV F S n pc l (aD x :: aI i :: aR r :: st) := by
  subst he
  refine fV.of fun H locs cells slots ls hB hH hS hl => ?_
  obtain ⟨q0, hq⟩ := hH.at hA.1
  exact va_dast hF.1 hF.2.1 hH.2.2.1 hH.1 hH.2.1 hS q0 4 (hq.trans (congrArg (fun e => some (a, e)) (cell_D hA.2))) rfl hi hd (fun H1 locs1 hP1 hD1 hS1 => kk.to hB (fH.put (s0 := xs F) hH hA.1 hq (putA_D hA.2) rfl rfl rfl rfl hP1 hD1 hS hS1 hF.2.2.2.2.2.2.1.1) hS1 hl)
theorem fEl.any {G : fG} {n : Nat} {s : State} {H : Heap} (hT : fT s) (h : fH G S n s H) {b : Nat} (hb : isA S 1 b ∨ isA S 2 b ∨ isA S 3 b) : va_Any "java/lang/Object" s H b := by
  rcases hb with hb | hb | hb
  · exact h.any hT hb (Or.inl rfl)
  · exact h.any hT hb (Or.inr (Or.inl rfl))
  · exact h.any hT hb (Or.inr (Or.inr rfl))
theorem fV_aast (hF : fOk F cc own lv) {a : Nat} {r x : Option Nat} {i : Int32} (he : r = some a) (hA : isA S 14 a) (hi : vp_in i (sN S a)) (hx : fEl S x) (hd : decode cc pc = .ok (.aastore, 1)) (kk : fV F (wR S a i.toNatClampNeg x) n (pc + 1) l st) : fV F S n pc l (aR x :: aI i :: aR r :: st) := by
  subst he
  refine fV.of fun H locs cells slots ls hB hH hS hl => ?_
  obtain ⟨q0, hq⟩ := hH.at hA.1
  have hq1 := hq.trans (congrArg (fun e => some (a, e)) (cell_O hA.2))
  rcases hx with rfl | ⟨b, rfl, hb⟩
  · exact va_astqN hF.1 hF.2.1 hH.2.2.1 hH.1 hH.2.1 hS q0 3 hq1 rfl hi hd (fun H1 locs1 hP1 hD1 hS1 => kk.to hB (fH.put (s0 := xs F) hH hA.1 hq (putA_O hA.2) rfl rfl rfl rfl hP1 hD1 hS hS1 hF.2.2.2.2.2.2.1.1) hS1 hl)
  · exact va_astqM hF.1 hF.2.1 hH.2.2.1 hH.1 hH.2.1 hS q0 3 hq1 rfl (fEl.any hF.2.2.2.2.2.2.2.2.2 hH hb) hi hd (fun H1 locs1 hP1 hD1 hS1 => kk.to hB (fH.put (s0 := xs F) hH hA.1 hq (putA_O hA.2) rfl rfl rfl rfl hP1 hD1 hS hS1 hF.2.2.2.2.2.2.1.1) hS1 hl)
theorem fV_alenI (hF : fOk F cc own lv) {a : Nat} {r : Option Nat} (he : r = some a) (hA : isA S 11 a) (hd : decode cc pc = .ok (.arraylength, 1)) (kk : fV F S n (pc + 1) l (aI (Int32.ofNat (sN S a)) :: st)) : fV F S n pc l (aR r :: st) := by
  subst he
  refine fV.of fun H locs cells slots ls hB hH hS hl => ?_
  obtain ⟨q0, hq⟩ := hH.at hA.1
  exact va_alen hF.1 hF.2.1 hH.2.2.1 hH.1 q0 0 (hq.trans (congrArg (fun e => some (a, e)) (cell_I hA.2))) rfl rfl hd (kk.to hB hH hS hl)
/-- a row of objects, or the empty row of the lists -/
theorem fV_alenO (hF : fOk F cc own lv) {a : Nat} {r : Option Nat} (he : r = some a) (hA : isA S 14 a ∨ a = sE S) (hd : decode cc pc = .ok (.arraylength, 1)) (kk : fV F S n (pc + 1) l (aI (Int32.ofNat (sN S a)) :: st)) : fV F S n pc l (aR r :: st) := by
  subst he
  refine fV.of fun H locs cells slots ls hB hH hS hl => ?_
  rcases hA with hA | hA
  · obtain ⟨q0, hq⟩ := hH.at hA.1
    exact va_alen hF.1 hF.2.1 hH.2.2.1 hH.1 q0 3 (hq.trans (congrArg (fun e => some (a, e)) (cell_O hA.2))) rfl rfl hd (kk.to hB hH hS hl)
  · subst hA
    obtain ⟨cell, c1, c2, c3, c4, c5, -⟩ := hH.2.2.2.1.2.1
    refine W.alen (n := Int32.ofNat (sN S (sE S))) hF.1 hF.2.1 c1 c2 ?_ rfl rfl hd (kk.to hB hH hS hl)
    rw [c5, hH.2.2.2.2.1]
theorem fV_castK (hF : fOk F cc own lv) {k a index : Nat} {r : Option Nat} {C : String} {T : u_T} (hk : fKind k C T) (he : r = some a) (hA : isA S k a) (hw : Cond.classLink own index C ∈ fBig) (hd : decode cc pc = .ok (.checkcast index, 3)) (kk : fV F S n (pc + 3) l (aR r :: st)) : fV F S n pc l (aR r :: st) := by
  subst he
  refine fV.of fun H locs cells slots ls hB hH hS hl => ?_
  obtain ⟨q0, hq⟩ := hH.at hA.1
  obtain ⟨r, hr, cell, c1, c2, c3, -⟩ := hH.1 q0 _ (hq.trans (congrArg (fun e => some (a, e)) (cell_obj hA.2 hk.1)))
  obtain ⟨-, hfc, -⟩ := hH.2.2.1.1 _ _ hk.2.1
  exact va_castE hF.1 hF.2.1 hF.2.2.2.1 (hF.2.2.2.2.1 _ hw) ⟨cell, c1, by rw [c3]; rfl, by rw [c2]; exact hfc⟩ hd (kk.to hB hH hS hl)
end
-- ===== room, new cells, calls =====
theorem fBd.le {F : fX} {n cells slots : Nat} (hz : fgz (xG F) ≤ (xs F).heap.size ∧ fgs (xG F) ≤ hsl (xs F).heap) (h : fBd F n cells slots) : cells ≤ n ∧ slots ≤ n := by
  obtain ⟨h1, h2⟩ := h
  omega
theorem fBd.heap {F : fX} {n cells slots : Nat} {T : State} {locs : List Loc} (X : xS F T locs cells slots) (h : fBd F n cells slots) : T.heap.size ≤ fgz (xG F) + n ∧ hsl T.heap ≤ fgs (xG F) + n ∧ hsl (xs F).heap ≤ hsl T.heap := by
  obtain ⟨h1, h2⟩ := h
  have e1 : T.heap.size ≤ (xs F).heap.size + cells := X.heapSize
  have e2 := hsl_new (t := T.setVm (xs F).vm) X.same
  have e3 : ((T.heap.toList.drop (xs F).heap.size).map (fun c => c.slots.size)).sum ≤ slots := X.same.2.2.2.2.1
  have e4 : hsl T.heap = hsl (xs F).heap + ((T.heap.toList.drop (xs F).heap.size).map (fun c => c.slots.size)).sum := e2
  omega
/-- the counters drawn tight -/
theorem xS.tight {F : fX} {T : State} {locs : List Loc} {cells slots n : Nat} (X : xS F T locs cells slots) (h1 : T.heap.size ≤ fgz (xG F) + n) (h2 : hsl T.heap ≤ fgs (xG F) + n) (hz : fgz (xG F) ≤ (xs F).heap.size ∧ fgs (xG F) ≤ hsl (xs F).heap) :
    ∃ k m, xS F T locs k m ∧ k + (xs F).heap.size ≤ fgz (xG F) + n ∧ m + hsl (xs F).heap ≤ fgs (xG F) + n := by
  have e2 : hsl T.heap = hsl (xs F).heap + ((T.heap.toList.drop (xs F).heap.size).map (fun c => c.slots.size)).sum := hsl_new (t := T.setVm (xs F).vm) X.same
  obtain ⟨s1, s2, s3, s4, s5, s6⟩ := X.same
  have s2' : (xs F).heap.size ≤ T.heap.size := s2
  refine ⟨T.heap.size - (xs F).heap.size, ((T.heap.toList.drop (xs F).heap.size).map (fun c => c.slots.size)).sum, { X with same := ⟨s1, s2, ?_, s4, Nat.le_refl _, s6⟩ }, ?_, ?_⟩
  · show T.heap.size ≤ _
    omega
  · omega
  · omega
theorem fH.fresh {G : fG} {S : fMS} {n : Nat} {s : State} {H H1 : Heap} {q k N : Nat} {e : va_E} (h : fH G S n s H) (he : cellOf G (wN S q k N) q = e) {n' : Nat} (hn : n' ≤ 30000)
    (hP : va_P (fgD G) vwCl (va_pl (sL S) (cellOf G S) ++ [(q, e)]) H1) (hD : va_D (fgA G) (va_pl (sL S) (cellOf G S) ++ [(q, e)])) {locs0 locs : List Loc} {H0 : Heap} (hS0 : va_S (fgA G) H0 H locs0) (hS : va_S (fgA G) H0 H1 locs) (hz : fgz G ≤ H0.size) : q ∉ sL S ∧ q ≠ sE S ∧ fH G (wN S q k N) n' s H1 := by
  have hq : q ∉ sL S := va_pl_fresh2 (X := []) hD
  have hqA : fgA G q := hD.2 (va_pl (sL S) (cellOf G S)).length (q, e) (by simp)
  obtain ⟨-, -, h3, h4, h5, h6⟩ := h
  have hqE : q ≠ sE S := fun c => by
    obtain ⟨cell, -, -, -, -, -, -, hA⟩ := h4.2.1
    exact hA (c ▸ hqA)
  have e1 : va_pl (sL S) (cellOf G S) ++ [(q, e)] = va_pl (sL (wN S q k N)) (cellOf G (wN S q k N)) := by
    rw [va_pl_push hq]
    exact va_pl_congr (new_up he)
  rw [e1] at hP hD
  refine ⟨hq, hqE, hP, hD, h3, ?_, ?_, hn⟩
  · exact fZ.kept h4 (H1 := H1) (fun b hb hA => by
      have hb0 : b < H0.size := Nat.lt_of_lt_of_le (Nat.not_le.mp hA) hz
      rw [hS.2.1 b hb0 hA, hS0.2.1 b hb0 hA])
  · show va_up S.2.2.1 q N (sE S) = 0
    rw [va_up_ne _ _ (fun c => hqE c.symm)]
    exact h5
def fdef (k i : Nat) : fAV := match kft k i with
  | 0 => aI 0
  | 1 => aJ 0
  | _ => aR none
theorem slot_new (S : fMS) (q k N i : Nat) : slotAV (wN S q k N) k q i = fdef k i := by
  unfold slotAV fdef
  split <;> simp [wN, sI, sJ, sR]
theorem cell_new {G : fG} {S : fMS} {q k : Nat} (hk : k < 11) : cellOf G (wN S q k 0) q = .inr (kc k, (List.range (kn k)).map (fun i => fv (fdef k i))) := by
  have h : sK (wN S q k 0) q = k := va_up_self _ _ _
  rw [cell_obj h hk]
  simp only [slot_new]
section
variable {F : fX} {S : fMS} {n pc : Nat} {l : List (Option fAV)} {st : List fAV} {cc : ByteArray} {own : String} {lv : Nat}
theorem fV_new (hF : fOk F cc own lv) {k index : Nat} {C : String} {T : u_T} {ty : Nat → FieldType} (hk : fKind k C T) (hty : ∀ j, j < kn k → parseFieldDescriptor (T j).2.2.1 = some (ty j)) (hdef : ∀ j, j < kn k → defaultValue (ty j) = fv (fdef k j)) (hlv : 1 ≤ lv) (hw1 : Cond.classLink own index C ∈ fBig) (hw2 : Cond.instantiable C (kn k) ∈ fBig) (hw3 : Cond.initialized C ∈ fBig) (hn : n + (kn k + 1) ≤ 30000) (hd : decode cc pc = .ok (.new index, 3))
    (kk : ∀ q : Nat, q ∉ sL S → q ≠ sE S → fV F (wN S q k 0) (n + (kn k + 1)) (pc + 3) l (aR (some q) :: st)) : fV F S n pc l st := by
  refine fV.of fun H locs cells slots ls hB hH hS hl => ?_
  have hz := hF.2.2.2.2.2.2.1
  have hc := hB.le hz
  have hR := hF.2.2.2.2.2.1
  refine va_new hF.1 hF.2.1 hF.2.2.2.2.1 hk.2.2 ty hty hF.2.2.2.1 (hF.2.2.2.2.1 _ hw1) (hF.2.2.2.2.1 _ hw2) (hF.2.2.2.2.1 _ hw3) hH.2.2.1 hH.1 hH.2.1 hS (fun q hq => Nat.le_trans hz.1 hq) hk.2.1 (fs := (List.range (kn k)).map (fun i => fv (fdef k i))) ?_ ?_ ?_ hd (fun q H1 hP1 hD1 hS1 => ?_)
  · intro j hj
    rw [hdef j hj]
    simp [vp_V, hj]
  · omega
  · omega
  · obtain ⟨h1, h2, h3⟩ := fH.fresh hH (cell_new hk.1) hn hP1 hD1 hS hS1 hz.1
    refine (kk q h1 h2).to ?_ h3 hS1 hl
    obtain ⟨b1, b2⟩ := hB
    exact ⟨by omega, by omega⟩
theorem fV_newI (hF : fOk F cc own lv) {x : Int32} {N : Nat} (hlv : 1 ≤ lv) (hw : Cond.arrayClass .int ∈ fBig) (hx : x = Int32.ofNat N) (hN : N ≤ 10000) (hn : n + (N + 1) ≤ 30000) (hd : decode cc pc = .ok (.newarray .int, 2)) (kk : ∀ q : Nat, q ∉ sL S → q ≠ sE S → fV F (wN S q 11 N) (n + (N + 1)) (pc + 2) l (aR (some q) :: st)) : fV F S n pc l (aI x :: st) := by
  refine fV.of fun H locs cells slots ls hB hH hS hl => ?_
  have hz := hF.2.2.2.2.2.2.1
  have hc := hB.le hz
  have hR := hF.2.2.2.2.2.1
  have hN2 : (nI N).toNatClampNeg = N := nI_clamp (by omega)
  refine va_newa (atype := .int) (ty := .int) (a0 := (N, .inl (fun _ => 0))) hF.1 hF.2.1 (hF.2.2.2.2.1 _ hw) rfl hH.2.2.1 hH.1 hH.2.1 hS (fun q hq => Nat.le_trans hz.1 hq) (fun cA => rfl) (by rw [hx]; exact nI_pos (by omega)) (by rw [hx]; exact hN2) (by show N * 4 ≤ 536870912; omega) ?_ ?_ hd (fun q cA H1 hK1 hP1 hD1 hS1 => ?_)
  · omega
  · omega
  · have hcA : cA = fgI (xG F) := by
      have r1 := (hK1.2 5 (cA, .int) rfl).2
      have r2 := (hK1.2 0 (fgI (xG F), .int) rfl).2
      exact Option.some.inj (r1.symm.trans r2)
    subst hcA
    have he : cellOf (xG F) (wN S q 11 N) q = .inl (fgI (xG F), (N, .inl (fun _ => 0))) := by
      rw [cell_I (S := wN S q 11 N) (a := q) (va_up_self _ _ _)]
      have e1 : sN (wN S q 11 N) q = N := va_up_self _ _ _
      have e2 : sI (wN S q 11 N) q = fun _ => 0 := by funext j; simp [wN, sI]
      rw [e1, e2]
    obtain ⟨h1, h2, h3⟩ := fH.fresh hH he hn hP1 hD1 hS hS1 hz.1
    refine (kk q h1 h2).to ?_ h3 hS1 hl
    obtain ⟨b1, b2⟩ := hB
    exact ⟨by omega, by omega⟩
theorem fV_newJ (hF : fOk F cc own lv) {x : Int32} {N : Nat} (hlv : 1 ≤ lv) (hw : Cond.arrayClass .long ∈ fBig) (hx : x = Int32.ofNat N) (hN : N ≤ 10000) (hn : n + (N + 1) ≤ 30000) (hd : decode cc pc = .ok (.newarray .long, 2)) (kk : ∀ q : Nat, q ∉ sL S → q ≠ sE S → fV F (wN S q 12 N) (n + (N + 1)) (pc + 2) l (aR (some q) :: st)) : fV F S n pc l (aI x :: st) := by
  refine fV.of fun H locs cells slots ls hB hH hS hl => ?_
  have hz := hF.2.2.2.2.2.2.1
  have hc := hB.le hz
  have hR := hF.2.2.2.2.2.1
  have hN2 : (nI N).toNatClampNeg = N := nI_clamp (by omega)
  refine va_newa (atype := .long) (ty := .long) (a0 := (N, .inr (.inl (fun _ => 0)))) hF.1 hF.2.1 (hF.2.2.2.2.1 _ hw) rfl hH.2.2.1 hH.1 hH.2.1 hS (fun q hq => Nat.le_trans hz.1 hq) (fun cA => rfl) (by rw [hx]; exact nI_pos (by omega)) (by rw [hx]; exact hN2) (by show N * 8 ≤ 536870912; omega) ?_ ?_ hd (fun q cA H1 hK1 hP1 hD1 hS1 => ?_)
  · omega
  · omega
  · have hcA : cA = fgJ (xG F) := by
      have r1 := (hK1.2 5 (cA, .long) rfl).2
      have r2 := (hK1.2 1 (fgJ (xG F), .long) rfl).2
      exact Option.some.inj (r1.symm.trans r2)
    subst hcA
    have he : cellOf (xG F) (wN S q 12 N) q = .inl (fgJ (xG F), (N, .inr (.inl (fun _ => 0)))) := by
      rw [cell_J (S := wN S q 12 N) (a := q) (va_up_self _ _ _)]
      have e1 : sN (wN S q 12 N) q = N := va_up_self _ _ _
      have e2 : sJ (wN S q 12 N) q = fun _ => 0 := by funext j; simp [wN, sJ]
      rw [e1, e2]
    obtain ⟨h1, h2, h3⟩ := fH.fresh hH he hn hP1 hD1 hS hS1 hz.1
    refine (kk q h1 h2).to ?_ h3 hS1 hl
    obtain ⟨b1, b2⟩ := hB
    exact ⟨by omega, by omega⟩
theorem fV_newZ (hF : fOk F cc own lv) {x : Int32} {N : Nat} (hlv : 1 ≤ lv) (hw : Cond.arrayClass .boolean ∈ fBig) (hx : x = Int32.ofNat N) (hN : N ≤ 10000) (hn : n + (N + 1) ≤ 30000) (hd : decode cc pc = .ok (.newarray .boolean, 2)) (kk : ∀ q : Nat, q ∉ sL S → q ≠ sE S → fV F (wN S q 13 N) (n + (N + 1)) (pc + 2) l (aR (some q) :: st)) : fV F S n pc l (aI x :: st) := by
  refine fV.of fun H locs cells slots ls hB hH hS hl => ?_
  have hz := hF.2.2.2.2.2.2.1
  have hc := hB.le hz
  have hR := hF.2.2.2.2.2.1
  have hN2 : (nI N).toNatClampNeg = N := nI_clamp (by omega)
  refine va_newa (atype := .boolean) (ty := .boolean) (a0 := (N, .inl (fun _ => 0))) hF.1 hF.2.1 (hF.2.2.2.2.1 _ hw) rfl hH.2.2.1 hH.1 hH.2.1 hS (fun q hq => Nat.le_trans hz.1 hq) (fun cA => rfl) (by rw [hx]; exact nI_pos (by omega)) (by rw [hx]; exact hN2) (by show N * 1 ≤ 536870912; omega) ?_ ?_ hd (fun q cA H1 hK1 hP1 hD1 hS1 => ?_)
  · omega
  · omega
  · have hcA : cA = fgZ (xG F) := by
      have r1 := (hK1.2 5 (cA, .boolean) rfl).2
      have r2 := (hK1.2 2 (fgZ (xG F), .boolean) rfl).2
      exact Option.some.inj (r1.symm.trans r2)
    subst hcA
    have he : cellOf (xG F) (wN S q 13 N) q = .inl (fgZ (xG F), (N, .inl (fun _ => 0))) := by
      rw [cell_Z (S := wN S q 13 N) (a := q) (va_up_self _ _ _)]
      have e1 : sN (wN S q 13 N) q = N := va_up_self _ _ _
      have e2 : sI (wN S q 13 N) q = fun _ => 0 := by funext j; simp [wN, sI]
      rw [e1, e2]
    obtain ⟨h1, h2, h3⟩ := fH.fresh hH he hn hP1 hD1 hS hS1 hz.1
    refine (kk q h1 h2).to ?_ h3 hS1 hl
    obtain ⟨b1, b2⟩ := hB
    exact ⟨by omega, by omega⟩
end
-- ===== contracts =====
def fHd (G : fG) (S : fMS) (n : Nat) (U : State) : Prop := fH G S n U U.heap ∧ (U.heap.size ≤ fgz G + n ∧ hsl U.heap ≤ fgs G + n) ∧ (fgz G ≤ U.heap.size ∧ fgs G ≤ hsl U.heap)
def fRoom (lv : Nat) : Room := { frames := 20 * lv, cells := 30000 * lv, slots := 30000 * lv, locals := 100 * lv }
def fPc (G : fG) (av : List fAV) (S : fMS) (n : Nat) : Array Value → State → Prop := va_Pc (av.map fv) (fun U => fHd G S n U ∧ fT U)
def fQc (G : fG) (post : Option fAV → fMS → Nat → Prop) : Array Value → State → Outcome → State → Prop := fun _ st o t => (∃ (r : Option fAV) (S' : fMS) (n' : Nat), o = .returned (r.map fv) ∧ post r S' n' ∧ fHd G S' n' t) ∧ va_F (fgA G) st t
def fXc (G : fG) (postX : String → fMS → Nat → Prop) : String → State → State → Prop := fun E st t => (∃ (S' : fMS) (n' : Nat), postX E S' n' ∧ fHd G S' n' t) ∧ va_F (fgA G) st t
/-- a method that returns; one that returns or throws -/
def fCM (l : Launch) (y : MethodName) (w0 : Cond) (lv : Nat) (G : fG) (av : List fAV) (S : fMS) (n : Nat) (post : Option fAV → fMS → Nat → Prop) : Prop := Met l y (w0 :: fBig) (fRoom lv) (fPc G av S n) (fQc G post) (30000 * lv) (30000 * lv) (fgA G)
def fCX (l : Launch) (y : MethodName) (w0 : Cond) (lv : Nat) (G : fG) (av : List fAV) (S : fMS) (n : Nat) (post : Option fAV → fMS → Nat → Prop) (postX : String → fMS → Nat → Prop) : Prop := vx_Met l y (w0 :: fBig) (fRoom lv) (fPc G av S n) (fQc G post) (fXc G postX) (30000 * lv) (30000 * lv) (fgA G)
theorem fPc.blind {G : fG} {av : List fAV} {S : fMS} {n : Nat} : FrameBlind (fPc G av S n) := by
  rintro a U g mk ⟨h1, ⟨h2, h3, h4⟩, h5⟩
  exact ⟨h1, ⟨fH.moved (u := U) (U := U.calling g mk a) (Vm.Alike.refl U.vm) h2, h3, h4⟩, fT.warm (s := U) (U := U.calling g mk a) (State.WarmedH.refl U) h5⟩
theorem fgood {own : String} {idx : Nat} {C : String} {y : MethodName} {w0 : Cond} (h0 : w0 ∈ fBig) (h1 : Cond.methodLink own idx y ∈ fBig) (h2 : Cond.instanceMethod y ∈ fBig) (h3 : Cond.selects C y y ∈ fBig) (h4 : Cond.initialized C ∈ fBig) : GoodIn fBig (wsV own idx C y (w0 :: fBig)) := by
  intro w hw
  unfold wsV at hw
  refine fbig_good w ?_
  simp only [List.mem_append, List.mem_cons, List.not_mem_nil, or_false] at hw
  rcases hw with (h | h | h | h) | h | h
  · rw [h]; exact h1
  · rw [h]; exact h2
  · rw [h]; exact h3
  · rw [h]; exact h4
  · rw [h]; exact h0
  · exact h
theorem fgoodS {own : String} {idx : Nat} {y : MethodName} {w0 : Cond} (h0 : w0 ∈ fBig) (h1 : Cond.methodLink own idx y ∈ fBig) (h2 : Cond.static y ∈ fBig) (h4 : Cond.initialized own ∈ fBig) : GoodIn fBig (wsS own idx y (w0 :: fBig)) := by
  intro w hw
  unfold wsS at hw
  refine fbig_good w ?_
  simp only [List.mem_append, List.mem_cons, List.not_mem_nil, or_false] at hw
  rcases hw with (h | h | h) | h | h
  · rw [h]; exact h1
  · rw [h]; exact h2
  · rw [h]; exact h4
  · rw [h]; exact h0
  · exact h
theorem fgoodSa {own : String} {idx : Nat} {y : MethodName} {w0 : Cond} (h0 : w0 ∈ fBig) (h1 : Cond.methodLink own idx y ∈ fBig) (h2 : Cond.static y ∈ fBig) (h4 : Cond.initialized y.cls ∈ fBig) : GoodIn fBig (va_wsS own idx y (w0 :: fBig)) := by
  intro w hw
  unfold va_wsS at hw
  refine fbig_good w ?_
  simp only [List.mem_append, List.mem_cons, List.not_mem_nil, or_false] at hw
  rcases hw with (h | h | h) | h | h
  · rw [h]; exact h1
  · rw [h]; exact h2
  · rw [h]; exact h4
  · rw [h]; exact h0
  · exact h
theorem fgood0 {w0 : Cond} (h0 : w0 ∈ fBig) : GoodIn fBig (w0 :: fBig) := by
  intro w hw
  refine fbig_good w ?_
  rcases List.mem_cons.mp hw with h | h
  · rw [h]; exact h0
  · exact h
section
variable {F : fX} {S : fMS} {n pc : Nat} {l : List (Option fAV)} {st stk : List fAV} {cc : ByteArray} {own : String} {lv : Nat}
theorem fHd.call {T : State} {locs : List Loc} {cells slots : Nat} (hF : fOk F cc own lv) (X : xS F T locs cells slots) (hB : fBd F n cells slots) (hH : fH (xG F) S n (xs F) T.heap) (hS : va_S (fgA (xG F)) (xs F).heap T.heap locs) : ∀ U : State, U.heap = T.heap → (xs F).WarmedH U.vm → fHd (xG F) S n U ∧ fT U := by
  intro U hU hW
  obtain ⟨b1, b2, b3⟩ := hB.heap X
  have hz := hF.2.2.2.2.2.2.1
  refine ⟨⟨?_, ?_, ?_⟩, fT.warm hW hF.2.2.2.2.2.2.2.2.2⟩
  · rw [hU]; exact fH.moved hW.alike hH
  · rw [hU]; exact ⟨b1, b2⟩
  · rw [hU]; exact ⟨Nat.le_trans hz.1 hS.1, Nat.le_trans hz.2 b3⟩
theorem fV_ofRun {post : Option fAV → fMS → Nat → Prop} {lv' : Nat} {aa : Array Value} (hF : fOk F cc own lv)
    (hr : ∀ (T : State) (locs : List Loc) (cells slots : Nat) (ls : Array Slot), xS F T locs cells slots → fBd F n cells slots → fH (xG F) S n (xs F) T.heap → va_S (fgA (xG F)) (xs F).heap T.heap locs → fok ls (xn F) l →
      va_Run (xp F) (xl F) (xe F) (xR F) (xs F) (xm F) (xa F) (xb F) (xM F) (xc F) T.heap locs cells slots (30000 * lv') (30000 * lv') (F0 (xm F) pc ls (stk.map fv)) (st.map fv) (fQc (xG F) post aa) (fgA (xG F)))
    (kk : ∀ (rv : Option fAV) (S' : fMS) (n' : Nat), post rv S' n' → fV F S' n' (pc + 3) l (rv.toList ++ st)) : fV F S n pc l stk := by
  intro T locs cells slots ls X hB hH hS hl
  obtain ⟨v, st0, t, T', L, h0, X', hL, e1, e2, ⟨⟨r, S', n', hv, hp, hd, ⟨d1, d2⟩, -⟩, hz1, hk1⟩, go⟩ := hr T locs cells slots ls X hB hH hS hl T rfl X
  cases hv
  rw [← e1] at d1 d2
  obtain ⟨k, m, X2, b1, b2⟩ := xS.tight X' d1 d2 hF.2.2.2.2.2.2.1
  have hH' : fH (xG F) S' n' (xs F) T'.heap := by
    rw [e1]
    exact fH.moved (by rw [← e2]; exact X'.warmed.alike.symm) hd
  have hS' : va_S (fgA (xG F)) (xs F).heap T'.heap (locs ++ L) := by
    refine ⟨?_, fun q h1 h2 => ?_, fun q hq => ?_⟩
    · rw [e1]; rw [h0] at hz1; exact Nat.le_trans hS.1 hz1
    · rw [e1, hk1 q (by rw [h0]; exact Nat.lt_of_lt_of_le h1 hS.1) h2, h0]
      exact hS.2.1 q h1 h2
    · rcases List.mem_append.mp hq with h | h
      · exact hS.2.2 q h
      · exact hL q h
  obtain ⟨t2, a1, q1⟩ := kk r S' n' hp T' (locs ++ L) k m ls X2 ⟨b1, b2⟩ hH' hS' hl
  refine ⟨t2, go t2 ?_, q1⟩
  have e3 : (r.toList ++ st).map fv = (r.map fv).toList ++ st.map fv := by cases r <;> rfl
  rw [e3] at a1
  exact a1
theorem froom {cells slots lv' : Nat} (hF : fOk F cc own lv) (hB : fBd F n cells slots) (hn : n ≤ 30000) (hlv : lv' + 1 ≤ lv) : cells + 30000 * lv' ≤ (xR F).cells ∧ slots + 30000 * lv' ≤ (xR F).slots := by
  have hc := hB.le hF.2.2.2.2.2.2.1
  have hR := hF.2.2.2.2.2.1
  omega
theorem froom2 {lv' maxL : Nat} (hF : fOk F cc own lv) (hlv : lv' + 1 ≤ lv) (hm : maxL ≤ 60) : (fRoom lv').frames + 1 ≤ (xR F).frames ∧ 8 + (maxL + 11) + (fRoom lv').locals ≤ (xR F).locals := by
  have hR := hF.2.2.2.2.2.1
  show 20 * lv' + 1 ≤ _ ∧ 8 + (maxL + 11) + 100 * lv' ≤ _
  omega
theorem fcats : ∀ (st : List fAV), (st.map fv).map (fun v => v.category) = st.map fcat
  | [] => rfl
  | v :: st => by rw [List.map_cons, List.map_cons, List.map_cons, fcats st, fcat_ok]
/-- an object's own method, that returns -/
theorem fV_callV {k b index lv' maxL na : Nat} {r : Option Nat} {C : String} {T : u_T} {y : MethodName} {bytes : ByteArray} {ret : Option FieldType} {As : List fAV} {post : Option fAV → fMS → Nat → Prop} (hF : fOk F cc own lv) (hM : fCM (xl F) y (.code y bytes maxL ret) lv' (xG F) (aR (some b) :: As) S n post)
    (hk : fKind k C T) (he : r = some b) (hA : isA S k b) (hlv : lv' + 1 ≤ lv) (h0 : Cond.code y bytes maxL ret ∈ fBig) (h1 : Cond.methodLink own index y ∈ fBig) (h2 : Cond.instanceMethod y ∈ fBig) (h3 : Cond.selects C y y ∈ fBig) (h4 : Cond.initialized C ∈ fBig)
    (hy : y.cls = C ∧ y.cls ≠ "java/lang/invoke/MethodHandle" ∧ y.cls ≠ "java/lang/invoke/VarHandle" ∧ (parseMethodDescriptor y.desc).map (fun d => d.parameters.length) = some na) (hna : As.length = na) (hmL : maxL ≤ 60) (hst : (st.map fcat).sum ≤ 8) (hd : decode cc pc = .ok (.invokevirtual index, 3)) (hstk : stk = As.reverse ++ aR r :: st)
    (kk : ∀ (rv : Option fAV) (S' : fMS) (n' : Nat), post rv S' n' → fV F S' n' (pc + 3) l (rv.toList ++ st)) : fV F S n pc l stk := by
  subst he
  subst hna
  refine fV_ofRun (lv' := lv') (aa := (Value.ref b :: As.map fv).toArray) hF (fun T locs cells slots ls X hB hH hS hl => ?_) kk
  obtain ⟨q0, hq⟩ := hH.at hA.1
  obtain ⟨rr, hr, cell, c1, c2, c3, -⟩ := hH.1 q0 _ (hq.trans (congrArg (fun e => some (b, e)) (cell_obj hA.2 hk.1)))
  obtain ⟨-, hfc, -⟩ := hH.2.2.1.1 _ _ hk.2.1
  refine va_runV (As := As.map fv) (rest := st.map fv) ⟨hF.1, hF.2.1, hF.2.2.1, hF.2.2.2.1, hF.2.2.2.2.1⟩ hM (cwV As.length hF.2.2.2.2.1 (fgood h0 h1 h2 h3 h4) rfl rfl rfl hy (froom2 hF hlv hmL)) ⟨fPc.blind, ⟨cell, c1, by rw [c3]; rfl, by rw [c2]; exact hfc⟩, fun U hU hW => ⟨rfl, fHd.call hF X hB hH hS U hU hW⟩⟩ rfl (by simp) hl.1 ?_ ?_ hd (froom hF hB hH.2.2.2.2.2 hlv)
  · show stk.map fv = _
    rw [hstk]
    simp [fv, aR, va_rf]
  · show 2 * 0 + _ ≤ 8
    rw [fcats]; omega
/-- a static method, that returns -/
theorem fV_callS {index lv' maxL na : Nat} {y : MethodName} {bytes : ByteArray} {ret : Option FieldType} {As : List fAV} {post : Option fAV → fMS → Nat → Prop} (hF : fOk F cc own lv) (hM : fCM (xl F) y (.code y bytes maxL ret) lv' (xG F) As S n post)
    (hlv : lv' + 1 ≤ lv) (h0 : Cond.code y bytes maxL ret ∈ fBig) (h1 : Cond.methodLink own index y ∈ fBig) (h2 : Cond.static y ∈ fBig) (h4 : Cond.initialized y.cls ∈ fBig)
    (hy : y.cls ≠ "java/lang/invoke/MethodHandle" ∧ y.cls ≠ "java/lang/invoke/VarHandle" ∧ (parseMethodDescriptor y.desc).map (fun d => d.parameters.length) = some na) (hna : As.length = na) (hmL : maxL ≤ 60) (hst : (st.map fcat).sum ≤ 8) (hd : decode cc pc = .ok (.invokestatic index, 3)) (hstk : stk = As.reverse ++ st)
    (kk : ∀ (rv : Option fAV) (S' : fMS) (n' : Nat), post rv S' n' → fV F S' n' (pc + 3) l (rv.toList ++ st)) : fV F S n pc l stk := by
  subst hna
  refine fV_ofRun (lv' := lv') (aa := (As.map fv).toArray) hF (fun T locs cells slots ls X hB hH hS hl => ?_) kk
  refine va_runS (As := As.map fv) (rest := st.map fv) ⟨hF.1, hF.2.1, hF.2.2.1, hF.2.2.2.1, hF.2.2.2.2.1⟩ hM ⟨callB_of As.length hF.2.2.2.2.1 (fgood0 h0) rfl rfl rfl (hF.2.2.2.2.1 _ h4) (hF.2.2.2.2.1 _ h1) hy (froom2 hF hlv hmL), hF.2.2.2.2.1 _ h2⟩ ⟨fPc.blind, fun U hU hW => ⟨rfl, fHd.call hF X hB hH hS U hU hW⟩⟩ rfl (by simp) hl.1 ?_ ?_ hd (froom hF hB hH.2.2.2.2.2 hlv)
  · show stk.map fv = _
    rw [hstk]
    simp
  · show 2 * 0 + _ ≤ 8
    rw [fcats]; omega
/-- a constructor -/
theorem fV_callI {b index lv' maxL na : Nat} {r : Option Nat} {y : MethodName} {bytes : ByteArray} {As : List fAV} {post : Option fAV → fMS → Nat → Prop} (hF : fOk F cc own lv) (hM : fCM (xl F) y (.code y bytes maxL none) lv' (xG F) (aR (some b) :: As) S n post)
    (he : r = some b) (hlv : lv' + 1 ≤ lv) (h0 : Cond.code y bytes maxL none ∈ fBig) (h1 : Cond.methodLink own index y ∈ fBig) (h2 : Cond.instanceMethod y ∈ fBig) (h4 : Cond.initialized y.cls ∈ fBig)
    (hy : y.cls ≠ "java/lang/invoke/MethodHandle" ∧ y.cls ≠ "java/lang/invoke/VarHandle" ∧ (parseMethodDescriptor y.desc).map (fun d => d.parameters.length) = some na) (hna : As.length = na) (hyn : y.name = "<init>") (hmL : maxL ≤ 60) (hst : (st.map fcat).sum ≤ 8) (hd : decode cc pc = .ok (.invokespecial index, 3)) (hstk : stk = As.reverse ++ aR r :: st)
    (kk : ∀ (rv : Option fAV) (S' : fMS) (n' : Nat), post rv S' n' → fV F S' n' (pc + 3) l (rv.toList ++ st)) : fV F S n pc l stk := by
  subst he
  subst hna
  refine fV_ofRun (lv' := lv') (aa := (Value.ref b :: As.map fv).toArray) hF (fun T locs cells slots ls X hB hH hS hl => ?_) kk
  refine va_runI (As := As.map fv) (rest := st.map fv) ⟨hF.1, hF.2.1, hF.2.2.1, hF.2.2.2.1, hF.2.2.2.2.1⟩ hM ⟨callB_of As.length hF.2.2.2.2.1 (fgood0 h0) rfl rfl rfl (hF.2.2.2.2.1 _ h4) (hF.2.2.2.2.1 _ h1) hy (froom2 hF hlv hmL), hyn, hF.2.2.2.2.1 _ h2⟩ ⟨fPc.blind, fun U hU hW => ⟨rfl, fHd.call hF X hB hH hS U hU hW⟩⟩ rfl (by simp) hl.1 ?_ ?_ hd (froom hF hB hH.2.2.2.2.2 hlv)
  · show stk.map fv = _
    rw [hstk]
    simp [fv, aR, va_rf]
  · show 2 * 0 + _ ≤ 8
    rw [fcats]; omega
end
section
variable {F : fX} {S : fMS} {n pc : Nat} {l : List (Option fAV)} {st stk : List fAV} {cc : ByteArray} {own : String} {lv : Nat} {post : Option fAV → fMS → Nat → Prop}
theorem fV_min (hF : fOk F cc own lv) {x y : Int32} {index : Nat} (hlv : 1 ≤ lv) (hs : (st.map fcat).sum ≤ 8) (hw : Cond.methodLink own index Lib.Math.min.name ∈ fBig) (hd : decode cc pc = .ok (.invokestatic index, 3)) (kk : fV F S n (pc + 3) l (aI (if y < x then y else x) :: st)) : fV F S n pc l (aI y :: aI x :: st) := by
  refine fV.of fun H locs cells slots ls hB hH hS hl => ?_
  have hz := hF.2.2.2.2.2.2.1
  have hR := hF.2.2.2.2.2.1
  have hc := hB.le hz
  have hn := hH.2.2.2.2.2
  refine va_mmin hF.1 hF.2.1 (hF.2.2.1.trans hl.1.symm) hF.2.2.2.1 (hF.2.2.2.2.1 _ hw) (hF.2.2.2.2.1 _ fw_minS) (hF.2.2.2.2.1 _ fw_mathI) (hF.2.2.2.2.1 _ fw_minC) ?_ ?_ ?_ ?_ hd (kk.to hB hH hS hl)
  · have hR := hF.2.2.2.2.2.1; omega
  · rw [fcats]; omega
  · omega
  · omega
theorem fV_max (hF : fOk F cc own lv) {x y : Int32} {index : Nat} (hlv : 1 ≤ lv) (hs : (st.map fcat).sum ≤ 8) (hw : Cond.methodLink own index Lib.Math.max.name ∈ fBig) (hd : decode cc pc = .ok (.invokestatic index, 3)) (kk : fV F S n (pc + 3) l (aI (if x < y then y else x) :: st)) : fV F S n pc l (aI y :: aI x :: st) := by
  refine fV.of fun H locs cells slots ls hB hH hS hl => ?_
  have hz := hF.2.2.2.2.2.2.1
  have hR := hF.2.2.2.2.2.1
  have hc := hB.le hz
  have hn := hH.2.2.2.2.2
  refine va_mmax hF.1 hF.2.1 (hF.2.2.1.trans hl.1.symm) hF.2.2.2.1 (hF.2.2.2.2.1 _ hw) (hF.2.2.2.2.1 _ fw_maxS) (hF.2.2.2.2.1 _ fw_mathI) (hF.2.2.2.2.1 _ fw_maxC) ?_ ?_ ?_ ?_ hd (kk.to hB hH hS hl)
  · have hR := hF.2.2.2.2.2.1; omega
  · rw [fcats]; omega
  · omega
  · omega
end
-- ===== from a contract's start to its walk; ends =====
def fentry : List fAV → Nat → List (Option fAV)
  | [], m => List.replicate m none
  | v :: vs, m => some v :: fentry vs (m - 1)
theorem fentry_mem : ∀ (vs : List fAV) (m i : Nat), (∀ v ∈ vs, fcat v = 1) → ∀ q ∈ fls i (fentry vs m), q ∈ lv_args i (vs.map fv)
  | [], m, i, _, q, h => by
    exfalso
    obtain ⟨j, v, h1, -⟩ := (fls_mem _ i q).mp h
    simp [fentry, List.getElem?_replicate] at h1
  | v :: vs, m, i, hc, q, h => by
    rw [fentry, fls] at h
    have hv : (fv v).category = 1 := (fcat_ok v).trans (hc v List.mem_cons_self)
    have e : lv_args i ((v :: vs).map fv) = (i, fv v) :: lv_args (i + 1) (vs.map fv) := by
      rw [List.map_cons, lv_args, hv]
      first | rfl | simp
    rw [e]
    rcases List.mem_cons.mp h with h | h
    · rw [h]; exact List.mem_cons_self
    · exact List.mem_cons_of_mem _ (fentry_mem vs (m - 1) (i + 1) (fun w hw => hc w (List.mem_cons_of_mem _ hw)) q h)
theorem flg_len : ∀ (av : List fAV), (∀ v ∈ av, fcat v = 1) → (lg_sl (av.map fv)).length = av.length
  | [], _ => rfl
  | v :: av, h => by
    have hv : (fv v).category = 1 := (fcat_ok v).trans (h v List.mem_cons_self)
    have ih := flg_len av (fun w hw => h w (List.mem_cons_of_mem _ hw))
    unfold lg_sl at ih ⊢
    rw [List.map_cons, List.flatMap_cons, List.length_append, ih, hv]
    simp
    omega
/-- the answers by their kinds -/
def fPI (post : Int32 → fMS → Nat → Prop) : Option fAV → fMS → Nat → Prop := fun rv S n => ∃ x, rv = some (aI x) ∧ post x S n
def fPJ (post : Int64 → fMS → Nat → Prop) : Option fAV → fMS → Nat → Prop := fun rv S n => ∃ x, rv = some (aJ x) ∧ post x S n
def fPD (post : UInt64 → fMS → Nat → Prop) : Option fAV → fMS → Nat → Prop := fun rv S n => ∃ x, rv = some (aD x) ∧ post x S n
def fPF (post : UInt32 → fMS → Nat → Prop) : Option fAV → fMS → Nat → Prop := fun rv S n => ∃ x, rv = some (aF x) ∧ post x S n
def fPR (post : Option Nat → fMS → Nat → Prop) : Option fAV → fMS → Nat → Prop := fun rv S n => ∃ x, rv = some (aR x) ∧ post x S n
def fPV (post : fMS → Nat → Prop) : Option fAV → fMS → Nat → Prop := fun rv S n => rv = none ∧ post S n
/-- the end of a method that returns, of one that may throw -/
def fEnd (F : fX) (lv : Nat) (post : Option fAV → fMS → Nat → Prop) : Prop := xQ F = MQ (xb F) (fQc (xG F) post) (xa F) (xs F) (30000 * lv) (30000 * lv) (fgA (xG F))
def fEndX (F : fX) (lv : Nat) (post : Option fAV → fMS → Nat → Prop) (postX : String → fMS → Nat → Prop) : Prop := xQ F = vx_MQ (xb F) (fQc (xG F) post) (fXc (xG F) postX) (xa F) (xs F) (30000 * lv) (30000 * lv) (fgA (xG F))
/-- either -/
def fEnds (F : fX) (lv : Nat) (post : Option fAV → fMS → Nat → Prop) : Prop := ∀ (H : Heap) (locs : List Loc) (cells slots : Nat) (g : JFrame), W (xp F) (xl F) (xe F) (xR F) (xs F) (xm F) (xa F) (xb F) (xM F) (xc F) H locs cells slots (MQ (xb F) (fQc (xG F) post) (xa F) (xs F) (30000 * lv) (30000 * lv) (fgA (xG F))) g → xW F H locs cells slots g
theorem fEnd.s {F : fX} {lv : Nat} {post : Option fAV → fMS → Nat → Prop} (h : fEnd F lv post) : fEnds F lv post := fun H locs cells slots g k => by
  unfold xW
  rw [show xQ F = _ from h]
  exact k
theorem fEndX.s {F : fX} {lv : Nat} {post : Option fAV → fMS → Nat → Prop} {postX : String → fMS → Nat → Prop} (h : fEndX F lv post postX) : fEnds F lv post := fun H locs cells slots g k => by
  unfold xW
  rw [show xQ F = _ from h]
  exact vx_ret k
theorem fCM_of {l : Launch} {y : MethodName} {cc : ByteArray} {maxL : Nat} {ret : Option FieldType} {lv : Nat} {G : fG} {av : List fAV} {S : fMS} {n : Nat} {post : Option fAV → fMS → Nat → Prop} (hfl : l.stackTraces = false) (hy : plainName y.cls = true) (hc1 : ∀ v ∈ av, fcat v = 1) (hlen : av.length ≤ maxL)
    (body : ∀ F : fX, fOk F cc y.cls lv → xn F = maxL → xl F = l → xG F = G → (xM F).sig.returnType = ret → (xM F).name = y.name → fEnd F lv post → fV F S n 0 (fentry av maxL) []) : fCM l y (.code y cc maxL ret) lv G av S n post := by
  refine Met.ofW (cc := cc) (maxL := maxL) (ret := ret) hy rfl ?_
  intro p e s m args below meth c s1 B hml hv
  obtain ⟨rfl, ⟨hH, hbd, hz⟩, hT⟩ := hv
  have hts : ∀ w ∈ Cond.code y cc maxL ret :: fBig, w.before (av.map fv).toArray s = true := atoms_spec (ws := Cond.code y cc maxL ret :: fBig) B.pre
  have k := body ((p, l, e, fRoom lv, s, m, (av.map fv).toArray, below, meth, c), MQ below (fQc G post) (av.map fv).toArray s (30000 * lv) (30000 * lv) (fgA G), maxL, G)
    ⟨B.exec, B.bytes, hml, findClass_of_methodNamed B.named, fun w hw => hts w (List.mem_cons_of_mem _ hw), ⟨Nat.le_refl _, Nat.le_refl _, Nat.le_refl _, Nat.le_refl _⟩, hz, B.notSynchronized, hfl, hT⟩ rfl rfl rfl B.returns (name_of_methodNamed B.named B.method).1 rfl
  have hl := lv_entry (av.map fv) (n := maxL) (by rw [flg_len av hc1]; exact hlen)
  rw [lg_entry_eq]
  have hl2 : fok ((lg_sl (av.map fv) ++ List.replicate (maxL - (lg_sl (av.map fv)).length) Slot.unset).toArray) maxL (fentry av maxL) := ⟨hl.1, hl.2.1, fun q hq => hl.2.2 q (fentry_mem av maxL 0 hc1 q hq)⟩
  exact k.to (F := ((p, l, e, fRoom lv, s, m, (av.map fv).toArray, below, meth, c), MQ below (fQc G post) (av.map fv).toArray s (30000 * lv) (30000 * lv) (fgA G), maxL, G)) ⟨by show 0 + s.heap.size ≤ fgz G + n; omega, by show 0 + hsl s.heap ≤ fgs G + n; omega⟩ hH va_S.rf hl2
theorem fCX_of {l : Launch} {y : MethodName} {cc : ByteArray} {maxL : Nat} {ret : Option FieldType} {lv : Nat} {G : fG} {av : List fAV} {S : fMS} {n : Nat} {post : Option fAV → fMS → Nat → Prop} {postX : String → fMS → Nat → Prop} (hfl : l.stackTraces = false) (hy : plainName y.cls = true) (hc1 : ∀ v ∈ av, fcat v = 1) (hlen : av.length ≤ maxL)
    (body : ∀ F : fX, fOk F cc y.cls lv → xn F = maxL → xl F = l → xG F = G → (xM F).sig.returnType = ret → (xM F).name = y.name → (∀ x ∈ (xc F).exceptionTable.toList, False) → fEndX F lv post postX → fV F S n 0 (fentry av maxL) []) : fCX l y (.code y cc maxL ret) lv G av S n post postX := by
  refine vx_ofW (cc := cc) (maxL := maxL) (ret := ret) hy rfl ?_
  intro p e s m args below meth c s1 B hml hex hv
  obtain ⟨rfl, ⟨hH, hbd, hz⟩, hT⟩ := hv
  have hts : ∀ w ∈ Cond.code y cc maxL ret :: fBig, w.before (av.map fv).toArray s = true := atoms_spec (ws := Cond.code y cc maxL ret :: fBig) B.pre
  have k := body ((p, l, e, fRoom lv, s, m, (av.map fv).toArray, below, meth, c), vx_MQ below (fQc G post) (fXc G postX) (av.map fv).toArray s (30000 * lv) (30000 * lv) (fgA G), maxL, G)
    ⟨B.exec, B.bytes, hml, findClass_of_methodNamed B.named, fun w hw => hts w (List.mem_cons_of_mem _ hw), ⟨Nat.le_refl _, Nat.le_refl _, Nat.le_refl _, Nat.le_refl _⟩, hz, B.notSynchronized, hfl, hT⟩ rfl rfl rfl B.returns (name_of_methodNamed B.named B.method).1 hex rfl
  have hl := lv_entry (av.map fv) (n := maxL) (by rw [flg_len av hc1]; exact hlen)
  rw [lg_entry_eq]
  have hl2 : fok ((lg_sl (av.map fv) ++ List.replicate (maxL - (lg_sl (av.map fv)).length) Slot.unset).toArray) maxL (fentry av maxL) := ⟨hl.1, hl.2.1, fun q hq => hl.2.2 q (fentry_mem av maxL 0 hc1 q hq)⟩
  exact k.to (F := ((p, l, e, fRoom lv, s, m, (av.map fv).toArray, below, meth, c), vx_MQ below (fQc G post) (fXc G postX) (av.map fv).toArray s (30000 * lv) (30000 * lv) (fgA G), maxL, G)) ⟨by show 0 + s.heap.size ≤ fgz G + n; omega, by show 0 + hsl s.heap ≤ fgs G + n; omega⟩ hH va_S.rf hl2
section
variable {F : fX} {S : fMS} {n pc : Nat} {l : List (Option fAV)} {st stk : List fAV} {cc : ByteArray} {own : String} {lv : Nat} {post : Option fAV → fMS → Nat → Prop}
/-- what a return owes: the answer, the world, the frame -/
theorem fQc.mk {T : State} {locs : List Loc} {cells slots : Nat} {r : Option fAV} (hF : fOk F cc own lv) (X : xS F T locs cells slots) (hB : fBd F n cells slots) (hH : fH (xG F) S n (xs F) T.heap) (hS : va_S (fgA (xG F)) (xs F).heap T.heap locs) (hp : post r S n) : ∀ t : State, t.heap = T.heap → (xs F).WarmedH t.vm → fQc (xG F) post (xa F) (xs F) (.returned (r.map fv)) t :=
  fun t ht hW => ⟨⟨r, S, n, rfl, hp, (fHd.call hF X hB hH hS t ht hW).1⟩, hS.F ht⟩
theorem fV_iret (hF : fOk F cc own lv) (hE : fEnds F lv post) {x : Int32} {ty : FieldType} (hlv : 1 ≤ lv) (hr : (xM F).sig.returnType = some ty) (hn : narrow ty (.int x) = .int x) (hd : decode cc pc = .ok (.ireturn, 1)) (hp : post (some (aI x)) S n) : fV F S n pc l [aI x] := by
  intro T locs cells slots ls X hB hH hS hl
  have hc := hB.le hF.2.2.2.2.2.2.1
  have hn3 := hH.2.2.2.2.2
  refine hE T.heap locs cells slots _ ?_ T rfl X
  refine W.widen (k := 30000 * lv) (n := 30000 * lv) (by omega) (by omega) ?_
  exact W.zret hF.1 hF.2.1 hr hn (fQc.mk (r := some (aI x)) hF X hB hH hS hp) hS.2.2 hd hF.2.2.2.2.2.2.2.1
theorem fV_vret (hF : fOk F cc own lv) (hE : fEnds F lv post) (hlv : 1 ≤ lv) (hr : (xM F).sig.returnType = none) (hd : decode cc pc = .ok (.return_, 1)) (hp : post none S n) : fV F S n pc l [] := by
  intro T locs cells slots ls X hB hH hS hl
  have hc := hB.le hF.2.2.2.2.2.2.1
  have hn3 := hH.2.2.2.2.2
  refine hE T.heap locs cells slots _ ?_ T rfl X
  refine W.widen (k := 30000 * lv) (n := 30000 * lv) (by omega) (by omega) ?_
  exact W.vret hF.1 hF.2.1 hr (fQc.mk (r := none) hF X hB hH hS hp) hS.2.2 hd hF.2.2.2.2.2.2.2.1
theorem fV_aret (hF : fOk F cc own lv) (hE : fEnds F lv post) {r : Option Nat} {ty : FieldType} (hlv : 1 ≤ lv) (hr : (xM F).sig.returnType = some ty) (hrt : (∃ n, ty = .object n) ∨ ∃ t, ty = .array t) (hd : decode cc pc = .ok (.areturn, 1)) (hp : post (some (aR r)) S n) : fV F S n pc l [aR r] := by
  intro T locs cells slots ls X hB hH hS hl
  have hc := hB.le hF.2.2.2.2.2.2.1
  have hn3 := hH.2.2.2.2.2
  refine hE T.heap locs cells slots _ ?_ T rfl X
  refine W.widen (k := 30000 * lv) (n := 30000 * lv) (by omega) (by omega) ?_
  refine W.aret (v := va_rf r) hF.1 hF.2.1 hr hrt ?_ (fQc.mk (r := some (aR r)) hF X hB hH hS hp) hS.2.2 hd hF.2.2.2.2.2.2.2.1
  cases r with
  | none => exact Or.inl rfl
  | some a => exact Or.inr ⟨a, rfl⟩
theorem fV_lret (hF : fOk F cc own lv) (hE : fEnds F lv post) {x : Int64} (hlv : 1 ≤ lv) (hr : (xM F).sig.returnType = some .long) (hd : decode cc pc = .ok (.lreturn, 1)) (hp : post (some (aJ x)) S n) : fV F S n pc l [aJ x] := by
  intro T locs cells slots ls X hB hH hS hl
  have hc := hB.le hF.2.2.2.2.2.2.1
  have hn3 := hH.2.2.2.2.2
  refine hE T.heap locs cells slots _ ?_ T rfl X
  refine W.widen (k := 30000 * lv) (n := 30000 * lv) (by omega) (by omega) ?_
  exact W.lret hF.1 hF.2.1 hr (fQc.mk (r := some (aJ x)) hF X hB hH hS hp) hS.2.2 hd hF.2.2.2.2.2.2.2.1
theorem fV_dret (hF : fOk F cc own lv) (hE : fEnds F lv post) {x : UInt64} (hlv : 1 ≤ lv) (hr : (xM F).sig.returnType = some .double) (hd : decode cc pc = .ok (.dreturn, 1)) (hp : post (some (aD x)) S n) : fV F S n pc l [aD x] := by
  intro T locs cells slots ls X hB hH hS hl
  have hc := hB.le hF.2.2.2.2.2.2.1
  have hn3 := hH.2.2.2.2.2
  refine hE T.heap locs cells slots _ ?_ T rfl X
  refine W.widen (k := 30000 * lv) (n := 30000 * lv) (by omega) (by omega) ?_
  exact W.dret hF.1 hF.2.1 hr (fQc.mk (r := some (aD x)) hF X hB hH hS hp) hS.2.2 hd hF.2.2.2.2.2.2.2.1
theorem fV_fret (hF : fOk F cc own lv) (hE : fEnds F lv post) {x : UInt32} (hlv : 1 ≤ lv) (hr : (xM F).sig.returnType = some .float) (hd : decode cc pc = .ok (.freturn, 1)) (hp : post (some (aF x)) S n) : fV F S n pc l [aF x] := by
  intro T locs cells slots ls X hB hH hS hl
  have hc := hB.le hF.2.2.2.2.2.2.1
  have hn3 := hH.2.2.2.2.2
  refine hE T.heap locs cells slots _ ?_ T rfl X
  refine W.widen (k := 30000 * lv) (n := 30000 * lv) (by omega) (by omega) ?_
  exact W.fret hF.1 hF.2.1 hr (fQc.mk (r := some (aF x)) hF X hB hH hS hp) hS.2.2 hd hF.2.2.2.2.2.2.2.1
theorem fV_obj (hF : fOk F cc own lv) {b : Nat} {r : Option Nat} {idx : Nat} (he : r = some b) (hlv : 1 ≤ lv) (h1 : Cond.methodLink own idx Lib.objectInit ∈ fBig) (hst : (st.map fcat).sum ≤ 8) (hd : decode cc pc = .ok (.invokespecial idx, 3)) (kk : fV F S n (pc + 3) l st) : fV F S n pc l (aR r :: st) := by
  subst he
  refine fV.of fun H locs cells slots ls hB hH hS hl => ?_
  refine W.objInit (g := F0 (xm F) pc ls ((aR (some b) :: st).map fv)) (a := b) (rest := st.map fv) hF.1 hF.2.1 hF.2.2.2.1 (hF.2.2.2.2.1 _ h1) (hF.2.2.2.2.1 _ fw_objI) (hF.2.2.2.2.1 _ fw_objC) rfl (hl.1.trans hF.2.2.1.symm) rfl hd ?_ ?_ ?_
  · have hR := hF.2.2.2.2.2.1; omega
  · have hR := hF.2.2.2.2.2.1; rw [fcats]; show 2 * 0 + _ + 12 ≤ _; omega
  · exact kk.to hB hH hS hl
end
theorem fDef1 : ∀ j, j < kn 1 → defaultValue (tyX0 j) = fv (fdef 1 j) := by
  intro j hj
  have hj : j < 8 := hj
  rcases (show j = 0 ∨ j = 1 ∨ j = 2 ∨ j = 3 ∨ j = 4 ∨ j = 5 ∨ j = 6 ∨ j = 7 by omega) with rfl | rfl | rfl | rfl | rfl | rfl | rfl | rfl <;> rfl
theorem fDef2 : ∀ j, j < kn 2 → defaultValue (tyX1 j) = fv (fdef 2 j) := by
  intro j hj
  have hj : j < 4 := hj
  rcases (show j = 0 ∨ j = 1 ∨ j = 2 ∨ j = 3 by omega) with rfl | rfl | rfl | rfl <;> rfl
theorem fDef3 : ∀ j, j < kn 3 → defaultValue (tyX2 j) = fv (fdef 3 j) := by
  intro j hj
  have hj : j < 14 := hj
  rcases (show j = 0 ∨ j = 1 ∨ j = 2 ∨ j = 3 ∨ j = 4 ∨ j = 5 ∨ j = 6 ∨ j = 7 ∨ j = 8 ∨ j = 9 ∨ j = 10 ∨ j = 11 ∨ j = 12 ∨ j = 13 by omega) with rfl | rfl | rfl | rfl | rfl | rfl | rfl | rfl | rfl | rfl | rfl | rfl | rfl | rfl <;> rfl
theorem fDef4 : ∀ j, j < kn 4 → defaultValue (tyX3 j) = fv (fdef 4 j) := by
  intro j hj
  have hj : j < 11 := hj
  rcases (show j = 0 ∨ j = 1 ∨ j = 2 ∨ j = 3 ∨ j = 4 ∨ j = 5 ∨ j = 6 ∨ j = 7 ∨ j = 8 ∨ j = 9 ∨ j = 10 by omega) with rfl | rfl | rfl | rfl | rfl | rfl | rfl | rfl | rfl | rfl | rfl <;> rfl
theorem fDef5 : ∀ j, j < kn 5 → defaultValue (tyX4 j) = fv (fdef 5 j) := by
  intro j hj
  have hj : j < 33 := hj
  rcases (show j = 0 ∨ j = 1 ∨ j = 2 ∨ j = 3 ∨ j = 4 ∨ j = 5 ∨ j = 6 ∨ j = 7 ∨ j = 8 ∨ j = 9 ∨ j = 10 ∨ j = 11 ∨ j = 12 ∨ j = 13 ∨ j = 14 ∨ j = 15 ∨ j = 16 ∨ j = 17 ∨ j = 18 ∨ j = 19 ∨ j = 20 ∨ j = 21 ∨ j = 22 ∨ j = 23 ∨ j = 24 ∨ j = 25 ∨ j = 26 ∨ j = 27 ∨ j = 28 ∨ j = 29 ∨ j = 30 ∨ j = 31 ∨ j = 32 by omega) with rfl | rfl | rfl | rfl | rfl | rfl | rfl | rfl | rfl | rfl | rfl | rfl | rfl | rfl | rfl | rfl | rfl | rfl | rfl | rfl | rfl | rfl | rfl | rfl | rfl | rfl | rfl | rfl | rfl | rfl | rfl | rfl | rfl <;> rfl
theorem fDef6 : ∀ j, j < kn 6 → defaultValue (tyJx4a65c j) = fv (fdef 6 j) := by
  intro j hj
  have hj : j < 3 := hj
  rcases (show j = 0 ∨ j = 1 ∨ j = 2 by omega) with rfl | rfl | rfl <;> rfl
theorem fcd_use {w : Cond} (hw : fcd w = true) {A : Array Value} {U : State} (h : va_Nw w U) : w.before A U = true := by
  cases w <;> first | exact va_tabs rfl rfl h | (simp [fcd] at hw)
theorem fcd_ot {w : Cond} (hw : fcd w = true) : vx_ot w = true := by
  cases w <;> first | rfl | (simp [fcd] at hw)
-- ===== rows of objects, doubles; the statics; copies; throws; calls that may throw =====
section
variable {F : fX} {S : fMS} {n pc : Nat} {l : List (Option fAV)} {st stk : List fAV} {cc : ByteArray} {own : String} {lv : Nat}
theorem fV_newD (hF : fOk F cc own lv) {x : Int32} {N : Nat} (hlv : 1 ≤ lv) (hw : Cond.arrayClass .double ∈ fBig) (hx : x = Int32.ofNat N) (hN : N ≤ 10000) (hn : n + (N + 1) ≤ 30000) (hd : decode cc pc = .ok (.newarray .double, 2)) (kk : ∀ q : Nat, q ∉ sL S → q ≠ sE S → fV F (wN S q 15 N) (n + (N + 1)) (pc + 2) l (aR (some q) :: st)) : fV F S n pc l (aI x :: st) := by
  refine fV.of fun H locs cells slots ls hB hH hS hl => ?_
  have hz := hF.2.2.2.2.2.2.1
  have hc := hB.le hz
  have hR := hF.2.2.2.2.2.1
  have hN2 : (nI N).toNatClampNeg = N := nI_clamp (by omega)
  refine va_newa (atype := .double) (ty := .double) (a0 := (N, .inr (.inr (.inr (.inl (fun _ => 0)))))) hF.1 hF.2.1 (hF.2.2.2.2.1 _ hw) rfl hH.2.2.1 hH.1 hH.2.1 hS (fun q hq => Nat.le_trans hz.1 hq) (fun cA => rfl) (by rw [hx]; exact nI_pos (by omega)) (by rw [hx]; exact hN2) (by show N * 8 ≤ 536870912; omega) ?_ ?_ hd (fun q cA H1 hK1 hP1 hD1 hS1 => ?_)
  · omega
  · omega
  · have hcA : cA = fgDD (xG F) := by
      have r1 := (hK1.2 5 (cA, .double) rfl).2
      have r2 := (hK1.2 4 (fgDD (xG F), .double) rfl).2
      exact Option.some.inj (r1.symm.trans r2)
    subst hcA
    have he : cellOf (xG F) (wN S q 15 N) q = .inl (fgDD (xG F), (N, .inr (.inr (.inr (.inl (fun _ => 0)))))) := by
      rw [cell_D (S := wN S q 15 N) (a := q) (va_up_self _ _ _)]
      have e1 : sN (wN S q 15 N) q = N := va_up_self _ _ _
      have e2 : (fun i => (sJ (wN S q 15 N) q i).toUInt64) = fun _ => 0 := by funext j; simp [wN, sJ]; rfl
      rw [e1, e2]
    obtain ⟨h1, h2, h3⟩ := fH.fresh hH he hn hP1 hD1 hS hS1 hz.1
    refine (kk q h1 h2).to ?_ h3 hS1 hl
    obtain ⟨b1, b2⟩ := hB
    exact ⟨by omega, by omega⟩
theorem fV_newO (hF : fOk F cc own lv) {x : Int32} {N index : Nat} (hlv : 1 ≤ lv) (hw : Cond.classLink own index "java/lang/Object" ∈ fBig) (hx : x = Int32.ofNat N) (hN : N ≤ 10000) (hn : n + (N + 1) ≤ 30000) (hd : decode cc pc = .ok (.anewarray index, 3)) (kk : ∀ q : Nat, q ∉ sL S → q ≠ sE S → fV F (wN S q 14 N) (n + (N + 1)) (pc + 3) l (aR (some q) :: st)) : fV F S n pc l (aI x :: st) := by
  refine fV.of fun H locs cells slots ls hB hH hS hl => ?_
  have hz := hF.2.2.2.2.2.2.1
  have hc := hB.le hz
  have hR := hF.2.2.2.2.2.1
  have hN2 : (nI N).toNatClampNeg = N := nI_clamp (by omega)
  refine va_newq hF.1 hF.2.1 hF.2.2.2.1 (hF.2.2.2.2.1 _ hw) hF.2.2.2.2.2.2.2.2.2.2.1 hH.2.2.1 hH.1 hH.2.1 hS (fun q hq => Nat.le_trans hz.1 hq) (by rw [hx]; exact nI_pos (by omega)) (N' := N) (by rw [hx]; exact hN2) (by omega) ?_ ?_ hd (fun q cA H1 hK1 hP1 hD1 hS1 => ?_)
  · omega
  · omega
  · have hcA : cA = fgO (xG F) := by
      have r1 := (hK1.2 5 (cA, .object "java/lang/Object") rfl).2
      have r2 := (hK1.2 3 (fgO (xG F), .object "java/lang/Object") rfl).2
      obtain ⟨_, _, -, -, -, q1⟩ := r1
      obtain ⟨_, _, -, -, -, q2⟩ := r2
      exact Option.some.inj (q1.symm.trans q2)
    subst hcA
    have he : cellOf (xG F) (wN S q 14 N) q = .inl (fgO (xG F), (N, .inr (.inr (.inr (.inr (fun _ => none)))))) := by
      rw [cell_O (S := wN S q 14 N) (a := q) (va_up_self _ _ _)]
      have e1 : sN (wN S q 14 N) q = N := va_up_self _ _ _
      have e2 : sR (wN S q 14 N) q = fun _ => none := by funext j; simp [wN, sR]
      rw [e1, e2]
    obtain ⟨h1, h2, h3⟩ := fH.fresh hH he hn hP1 hD1 hS hS1 hz.1
    refine (kk q h1 h2).to ?_ h3 hS1 hl
    obtain ⟨b1, b2⟩ := hB
    exact ⟨by omega, by omega⟩
theorem fZ.start {H : Heap} {locs : List Loc} (hF : fOk F cc own lv) (hH : fH (xG F) S n (xs F) H) (hS : va_S (fgA (xG F)) (xs F).heap H locs) : fZ (xG F) S (xs F) (xs F).heap :=
  fZ.kept hH.2.2.2.1 (fun b _ hA => (hS.2.1 b (Nat.lt_of_lt_of_le (Nat.not_le.mp hA) hF.2.2.2.2.2.2.1.1) hA).symm)
theorem fV_getE (hF : fOk F cc own lv) {index : Nat} (hw : Cond.fieldLink own index "java/util/ArrayList" "DEFAULTCAPACITY_EMPTY_ELEMENTDATA" "[Ljava/lang/Object;" ∈ fBig) (hd : decode cc pc = .ok (.getstatic index, 3)) (kk : fV F S n (pc + 3) l (aR (some (sE S)) :: st)) : fV F S n pc l st := by
  refine fV.of fun H locs cells slots ls hB hH hS hl => ?_
  exact va_gets hF.1 hF.2.1 (fZ.start hF hH hS).1 hS hF.2.2.2.1 (hF.2.2.2.2.1 _ hw) (fun _ h => h) hd (kk.to hB hH hS hl)
theorem fV_ldcM (hF : fOk F cc own lv) {index : Nat} (hw : Cond.classLink own index "[Ljava/lang/Object;" ∈ fBig) (hd : decode cc pc = .ok (.ldc index, 2)) (kk : fV F S n (pc + 2) l (aR (some (sM S)) :: st)) : fV F S n pc l st := by
  refine fV.of fun H locs cells slots ls hB hH hS hl => ?_
  exact va_ldcM hF.1 hF.2.1 hF.2.2.2.1 (hF.2.2.2.2.1 _ hw) hH.2.2.2.1.2.2.1 hd (kk.to hB hH hS hl)
theorem fV_getClass (hF : fOk F cc own lv) {a index : Nat} {r : Option Nat} (he : r = some a) (hA : isA S 14 a) (hlv : 1 ≤ lv) (hst : (st.map fcat).sum ≤ 8) (hw : Cond.methodLink own index ⟨"java/lang/Object", "getClass", "()Ljava/lang/Class;"⟩ ∈ fBig) (hd : decode cc pc = .ok (.invokevirtual index, 3)) (kk : fV F S n (pc + 3) l (aR (some (sM S)) :: st)) : fV F S n pc l (aR r :: st) := by
  subst he
  refine fV.of fun H locs cells slots ls hB hH hS hl => ?_
  have hR := hF.2.2.2.2.2.1
  obtain ⟨q0, hq⟩ := hH.at hA.1
  have hcell := hH.1 q0 _ (hq.trans (congrArg (fun e => some (a, e)) (cell_O hA.2)))
  obtain ⟨_, _, -, -, -, q2⟩ := (hH.2.2.1.2 3 (fgO (xG F), .object "java/lang/Object") rfl).2
  refine va_getC hF.1 hF.2.1 (hF.2.2.1.trans hl.1.symm) hF.2.2.2.1 (hF.2.2.2.2.1 _ hw) (va_tabs rfl rfl (hF.2.2.2.2.2.2.2.2.2.2.2.1 _ fw_gcD rfl)) (hF.2.2.2.2.1 _ fw_gcS) (hF.2.2.2.2.1 _ fw_gcI) (hF.2.2.2.2.1 _ fw_gcN) hH.2.2.2.1.2.2.1 ⟨_, hcell, rfl, q2⟩ (by omega) (by rw [fcats]; omega) hd (kk.to hB hH hS hl)
theorem fV_copy (hF : fOk F cc own lv) {a0 a1 index : Nat} {r0 r1 : Option Nat} {sp dp m : Int32} (he0 : r0 = some a0) (hA0 : isA S 14 a0) (he1 : r1 = some a1) (hA1 : isA S 14 a1) (hc : ¬ sp < 0 ∧ ¬ dp < 0 ∧ ¬ m < 0 ∧ sp.toNatClampNeg + m.toNatClampNeg ≤ sN S a0 ∧ dp.toNatClampNeg + m.toNatClampNeg ≤ sN S a1 ∧ ∀ i : Nat, i < m.toNatClampNeg → fEl S (sR S a0 (sp.toNatClampNeg + i)))
    (hlv : 1 ≤ lv) (hst : (st.map fcat).sum ≤ 8) (hw : Cond.methodLink own index arraycopyName ∈ fBig) (hd : decode cc pc = .ok (.invokestatic index, 3)) (kk : fV F (wC S a0 sp.toNatClampNeg a1 dp.toNatClampNeg m.toNatClampNeg) n (pc + 3) l st) : fV F S n pc l (aI m :: aI dp :: aR r1 :: aI sp :: aR r0 :: st) := by
  subst he0 he1
  refine fV.of fun H locs cells slots ls hB hH hS hl => ?_
  have hR := hF.2.2.2.2.2.1
  obtain ⟨h1, h2, h3, h4, h5, hel⟩ := hc
  obtain ⟨q0, hq0⟩ := hH.at hA0.1
  obtain ⟨q1, hq1⟩ := hH.at hA1.1
  refine va_copyM hF.1 hF.2.1 (hF.2.2.1.trans hl.1.symm) hF.2.2.2.1 (hF.2.2.2.2.1 _ hw) (hF.2.2.2.2.1 _ fw_acN) (hF.2.2.2.2.1 _ fw_acS) (hF.2.2.2.2.1 _ fw_acI) hH.2.2.1 hH.1 hH.2.1 hS q0 q1 3 3 (hq0.trans (congrArg (fun e => some (a0, e)) (cell_O hA0.2))) (hq1.trans (congrArg (fun e => some (a1, e)) (cell_O hA1.2))) rfl rfl h1 h2 h3 h4 h5 ?_ (by omega) ?_ hd (fun H1 locs1 hP1 hD1 hS1 => ?_)
  · intro i hi y hy
    rcases hel i hi with e | ⟨b, e, hb⟩
    · rw [e] at hy; cases hy
    · rw [e] at hy; cases hy; exact fEl.any hF.2.2.2.2.2.2.2.2.2 hH hb
  · rw [fcats]
    have hwd : nativeFrameWords "java/lang/System" "arraycopy" 5 + 11 ≤ 80 := by decide
    omega
  · exact kk.to hB (fH.put (s0 := xs F) hH hA1.1 hq1 (putA_C hA1.2) rfl rfl rfl rfl hP1 hD1 hS hS1 hF.2.2.2.2.2.2.1.1) hS1 hl
/-- a method throws: the exception is new -/
theorem fV_throw {post : Option fAV → fMS → Nat → Prop} {postX : String → fMS → Nat → Prop} (hF : fOk F cc own lv) (hE : fEndX F lv post postX) (hex : ∀ x ∈ (xc F).exceptionTable.toList, False) {cls text : String} {ik is ic : Nat} (hn : n + 7 ≤ 30000) (hp : postX cls S (n + 7)) (hlv : 1 ≤ lv) (hst : (st.map fcat).sum ≤ 8) (hown : own = RX3)
    (hk : Cond.classLink own ik cls ∈ fBig) (hini : Cond.initialized cls ∈ fBig) (hfit : Bundle.fit cls = true) (hat : ∀ w ∈ vx_atS own ic cls ["java/lang/RuntimeException", "java/lang/Exception"], w ∈ fBig ∨ (w ∈ tables_1 ∧ fcd w = true)) (hstr : (is, text) ∈ fStrs)
    (d0 : decode cc pc = .ok (.new ik, 3)) (d3 : decode cc (pc + 3) = .ok (.dup, 1)) (d4 : decode cc (pc + 4) = .ok (.ldc is, 2)) (d6 : decode cc (pc + 6) = .ok (.invokespecial ic, 3)) (d9 : decode cc (pc + 9) = .ok (.athrow, 1)) : fV F S n pc l st := by
  subst hown
  intro T locs cells slots ls X hB hH hS hl
  have hz := hF.2.2.2.2.2.2.1
  have hc := hB.le hz
  have hR := hF.2.2.2.2.2.1
  have hT := hF.2.2.2.2.2.2.2.2.2
  have hZs := fZ.start hF hH hS
  obtain ⟨sa, hsa⟩ := hT.1 _ hstr
  have hbh := hB.heap X
  have hgw : ∀ w ∈ fBig, goodWord w = true := fun w hw => (List.mem_filter.mp hw).2
  obtain ⟨t, a1, o, b1, b2, b3⟩ := vx_throwS (Qc := fQc (xG F) post) (XC := fun E _ t => E = cls ∧ T.heap.size ≤ t.heap.size ∧ (∀ q : Nat, q < T.heap.size → t.heap[q]? = T.heap[q]?) ∧ (xs F).vm.Alike t.vm) (mc := cells + 1) (ms := slots + 6) (free := fgA (xG F)) (rest := st.map fv) (text := text) (names := ["java/lang/RuntimeException", "java/lang/Exception"]) hF.1 hF.2.1 hF.2.2.2.2.2.2.2.2.1 hF.2.2.2.1 hfit (by decide) (hF.2.2.2.2.1 _ hk) (hF.2.2.2.2.1 _ hini) hsa
    (fun w hw => by
      rcases hat w hw with h | ⟨h, h2⟩
      · exact hF.2.2.2.2.1 _ h
      · exact fcd_use h2 (hT.2.2.1 _ h h2))
    (fun w hw => by
      have key : ∀ w ∈ fBig, vx_ot w = true := fun w h => by unfold vx_ot; rw [hgw w h]; simp
      rcases List.mem_cons.mp hw with h | hw
      · rw [h]; exact key _ hk
      rcases List.mem_cons.mp hw with h | hw
      · rw [h]; exact key _ hini
      rcases hat w hw with h | ⟨-, h⟩
      · exact key _ h
      · exact fcd_ot h)
    hZs.2.2.2.1 hZs.2.2.2.2 hS (hl.1.trans hF.2.2.1.symm) d0 d3 d4 d6 d9 (fun x hx => (hex x hx).elim) (by show 2 + 3 < _; omega) (by rw [fcats]; show _ + (13 * 3 + 43) ≤ _; omega) (by omega) (by omega) hF.2.2.2.2.2.2.2.1
    (fun t h1 h2 h3 => ⟨rfl, h2, h3, h1⟩) hS.2.2 (Nat.le_refl _) (Nat.le_refl _) T rfl X
  refine ⟨t, a1, ?_⟩
  have hQ : xQ F = _ := hE
  rw [hQ]
  refine ⟨o, b1, b2, ?_⟩
  rcases b3 with ⟨h1, L, h2, h3⟩ | ⟨q, h1, E, ce, L, ⟨hcl, hsz, hsame, hal⟩, h3, h4, h5, h6, h7, h8⟩
  · left
    obtain ⟨f1, f2, f3⟩ := h2
    exact ⟨h1, L, ⟨f1, f2, f3.mono (by omega) (by omega)⟩, h3⟩
  · right
    refine ⟨q, h1, E, ce, L, ?_, h3, h4, h5, h6, h7.mono (by omega) (by omega), h8⟩
    subst hcl
    have g1 : t.heap.size ≤ (xs F).heap.size + (cells + 1) := h7.2.2.1
    have g2 : hsl t.heap ≤ hsl (xs F).heap + (slots + 6) := by
      have e1 : hsl t.heap = hsl (xs F).heap + ((t.heap.toList.drop (xs F).heap.size).map (fun c => c.slots.size)).sum := hsl_new (t := { t with vm := (xs F).vm }) h7
      have e2 : ((t.heap.toList.drop (xs F).heap.size).map (fun c => c.slots.size)).sum ≤ slots + 6 := h7.2.2.2.2.1
      omega
    have g3 : hsl (xs F).heap ≤ hsl t.heap := by
      have e1 : hsl t.heap = hsl (xs F).heap + ((t.heap.toList.drop (xs F).heap.size).map (fun c => c.slots.size)).sum := hsl_new (t := { t with vm := (xs F).vm }) h7
      omega
    have hBB := hB
    obtain ⟨b1', b2'⟩ := hBB
    have hke : ∀ b : Nat, b < T.heap.size → ¬ fgA (xG F) b → t.heap[b]? = T.heap[b]? := fun b hb _ => hsame b hb
    refine ⟨⟨S, n + 7, hp, ?_, ⟨by omega, by omega⟩, ⟨?_, by omega⟩⟩, ?_⟩
    · refine fH.moved hal ⟨hH.1.kept (fun k q hk => hsame _ (hH.1 k q hk).lt), hH.2.1, hH.2.2.1, fZ.kept hH.2.2.2.1 hke, hH.2.2.2.2.1, hn⟩
    · exact Nat.le_trans hz.1 (Nat.le_trans hS.1 hsz)
    · refine ⟨Nat.le_trans hS.1 hsz, fun q hq hA => ?_⟩
      rw [hsame q (Nat.lt_of_lt_of_le hq hS.1)]
      exact hS.2.1 q hq hA
/-- a method throws: the exception is new -/
theorem fV_throwW {post : Option fAV → fMS → Nat → Prop} {postX : String → fMS → Nat → Prop} (hF : fOk F cc own lv) (hE : fEndX F lv post postX) (hex : ∀ x ∈ (xc F).exceptionTable.toList, False) {cls text : String} {ik is ic : Nat} (hn : n + 7 ≤ 30000) (hp : postX cls S (n + 7)) (hlv : 1 ≤ lv) (hst : (st.map fcat).sum ≤ 8) (hown : own = RX3)
    (hk : Cond.classLink own ik cls ∈ fBig) (hini : Cond.initialized cls ∈ fBig) (hfit : Bundle.fit cls = true) (hat : ∀ w ∈ vx_atS own ic cls ["java/lang/RuntimeException", "java/lang/Exception"], w ∈ fBig ∨ (w ∈ tables_1 ∧ fcd w = true)) (hstr : (is, text) ∈ fStrs)
    (d0 : decode cc pc = .ok (.new ik, 3)) (d3 : decode cc (pc + 3) = .ok (.dup, 1)) (d4 : decode cc (pc + 4) = .ok (.ldc_w is, 3)) (d6 : decode cc (pc + 7) = .ok (.invokespecial ic, 3)) (d9 : decode cc (pc + 10) = .ok (.athrow, 1)) : fV F S n pc l st := by
  subst hown
  intro T locs cells slots ls X hB hH hS hl
  have hz := hF.2.2.2.2.2.2.1
  have hc := hB.le hz
  have hR := hF.2.2.2.2.2.1
  have hT := hF.2.2.2.2.2.2.2.2.2
  have hZs := fZ.start hF hH hS
  obtain ⟨sa, hsa⟩ := hT.1 _ hstr
  have hbh := hB.heap X
  have hgw : ∀ w ∈ fBig, goodWord w = true := fun w hw => (List.mem_filter.mp hw).2
  obtain ⟨t, a1, o, b1, b2, b3⟩ := vx_throwSW (Qc := fQc (xG F) post) (XC := fun E _ t => E = cls ∧ T.heap.size ≤ t.heap.size ∧ (∀ q : Nat, q < T.heap.size → t.heap[q]? = T.heap[q]?) ∧ (xs F).vm.Alike t.vm) (mc := cells + 1) (ms := slots + 6) (free := fgA (xG F)) (rest := st.map fv) (text := text) (names := ["java/lang/RuntimeException", "java/lang/Exception"]) hF.1 hF.2.1 hF.2.2.2.2.2.2.2.2.1 hF.2.2.2.1 hfit (by decide) (hF.2.2.2.2.1 _ hk) (hF.2.2.2.2.1 _ hini) hsa
    (fun w hw => by
      rcases hat w hw with h | ⟨h, h2⟩
      · exact hF.2.2.2.2.1 _ h
      · exact fcd_use h2 (hT.2.2.1 _ h h2))
    (fun w hw => by
      have key : ∀ w ∈ fBig, vx_ot w = true := fun w h => by unfold vx_ot; rw [hgw w h]; simp
      rcases List.mem_cons.mp hw with h | hw
      · rw [h]; exact key _ hk
      rcases List.mem_cons.mp hw with h | hw
      · rw [h]; exact key _ hini
      rcases hat w hw with h | ⟨-, h⟩
      · exact key _ h
      · exact fcd_ot h)
    hZs.2.2.2.1 hZs.2.2.2.2 hS (hl.1.trans hF.2.2.1.symm) d0 d3 d4 d6 d9 (fun x hx => (hex x hx).elim) (by show 2 + 3 < _; omega) (by rw [fcats]; show _ + (13 * 3 + 43) ≤ _; omega) (by omega) (by omega) hF.2.2.2.2.2.2.2.1
    (fun t h1 h2 h3 => ⟨rfl, h2, h3, h1⟩) hS.2.2 (Nat.le_refl _) (Nat.le_refl _) T rfl X
  refine ⟨t, a1, ?_⟩
  have hQ : xQ F = _ := hE
  rw [hQ]
  refine ⟨o, b1, b2, ?_⟩
  rcases b3 with ⟨h1, L, h2, h3⟩ | ⟨q, h1, E, ce, L, ⟨hcl, hsz, hsame, hal⟩, h3, h4, h5, h6, h7, h8⟩
  · left
    obtain ⟨f1, f2, f3⟩ := h2
    exact ⟨h1, L, ⟨f1, f2, f3.mono (by omega) (by omega)⟩, h3⟩
  · right
    refine ⟨q, h1, E, ce, L, ?_, h3, h4, h5, h6, h7.mono (by omega) (by omega), h8⟩
    subst hcl
    have g1 : t.heap.size ≤ (xs F).heap.size + (cells + 1) := h7.2.2.1
    have g2 : hsl t.heap ≤ hsl (xs F).heap + (slots + 6) := by
      have e1 : hsl t.heap = hsl (xs F).heap + ((t.heap.toList.drop (xs F).heap.size).map (fun c => c.slots.size)).sum := hsl_new (t := { t with vm := (xs F).vm }) h7
      have e2 : ((t.heap.toList.drop (xs F).heap.size).map (fun c => c.slots.size)).sum ≤ slots + 6 := h7.2.2.2.2.1
      omega
    have g3 : hsl (xs F).heap ≤ hsl t.heap := by
      have e1 : hsl t.heap = hsl (xs F).heap + ((t.heap.toList.drop (xs F).heap.size).map (fun c => c.slots.size)).sum := hsl_new (t := { t with vm := (xs F).vm }) h7
      omega
    have hBB := hB
    obtain ⟨b1', b2'⟩ := hBB
    have hke : ∀ b : Nat, b < T.heap.size → ¬ fgA (xG F) b → t.heap[b]? = T.heap[b]? := fun b hb _ => hsame b hb
    refine ⟨⟨S, n + 7, hp, ?_, ⟨by omega, by omega⟩, ⟨?_, by omega⟩⟩, ?_⟩
    · refine fH.moved hal ⟨hH.1.kept (fun k q hk => hsame _ (hH.1 k q hk).lt), hH.2.1, hH.2.2.1, fZ.kept hH.2.2.2.1 hke, hH.2.2.2.2.1, hn⟩
    · exact Nat.le_trans hz.1 (Nat.le_trans hS.1 hsz)
    · refine ⟨Nat.le_trans hS.1 hsz, fun q hq hA => ?_⟩
      rw [hsame q (Nat.lt_of_lt_of_le hq hS.1)]
      exact hS.2.1 q hq hA
theorem nsw_all : ∀ w ∈ (nsWords RX3 163).filter vx_no, w ∈ fBig ∨ (w ∈ tables_1 ∧ fcd w = true) := by
  have h : ∀ w ∈ (nsWords RX3 163).filter vx_no, (w ∈ lw_tbl ∧ goodWord w = true) ∨ (w ∈ tables_1 ∧ fcd w = true) := by decide +kernel
  intro w hw
  rcases h w hw with ⟨h1, h2⟩ | h1
  · exact Or.inl (List.mem_filter.mpr ⟨h1, h2⟩)
  · exact Or.inr h1
/-- a method throws: the exception is new -/
theorem fV_throwN {post : Option fAV → fMS → Nat → Prop} {postX : String → fMS → Nat → Prop} (hF : fOk F cc own lv) (hE : fEndX F lv post postX) (hex : ∀ x ∈ (xc F).exceptionTable.toList, False) {text : String} {is : Nat} (hn : n + 7 ≤ 30000) (hp : postX nsN S (n + 7)) (hlv : 1 ≤ lv) (hst : (st.map fcat).sum ≤ 8) (hown : own = RX3)
    (hstr : (is, text) ∈ fStrs)
    (d0 : decode cc pc = .ok (.new 159, 3)) (d3 : decode cc (pc + 3) = .ok (.dup, 1)) (d4 : decode cc (pc + 4) = .ok (.ldc is, 2)) (d6 : decode cc (pc + 6) = .ok (.invokespecial 163, 3)) (d9 : decode cc (pc + 9) = .ok (.athrow, 1)) : fV F S n pc l st := by
  subst hown
  have hk : Cond.classLink RX3 159 nsN ∈ fBig := fin1 925 (by decide +kernel) rfl
  have hini : Cond.initialized nsN ∈ fBig := fin1 29 (by decide +kernel) rfl
  have hat := nsw_all
  intro T locs cells slots ls X hB hH hS hl
  have hz := hF.2.2.2.2.2.2.1
  have hc := hB.le hz
  have hR := hF.2.2.2.2.2.1
  have hT := hF.2.2.2.2.2.2.2.2.2
  have hZs := fZ.start hF hH hS
  obtain ⟨sa, hsa⟩ := hT.1 _ hstr
  have hbh := hB.heap X
  have hgw : ∀ w ∈ fBig, goodWord w = true := fun w hw => (List.mem_filter.mp hw).2
  obtain ⟨t, a1, o, b1, b2, b3⟩ := ns_throwS (Qc := fQc (xG F) post) (XC := fun E _ t => E = nsN ∧ T.heap.size ≤ t.heap.size ∧ (∀ q : Nat, q < T.heap.size → t.heap[q]? = T.heap[q]?) ∧ (xs F).vm.Alike t.vm) (mc := cells + 1) (ms := slots + 6) (free := fgA (xG F)) (rest := st.map fv) (text := text) hF.1 hF.2.1 hF.2.2.2.2.2.2.2.2.1 hF.2.2.2.1 (hF.2.2.2.2.1 _ hk) (hF.2.2.2.2.1 _ hini) hsa
    (fun w hw => by
      rcases hat w hw with h | ⟨h, h2⟩
      · exact hF.2.2.2.2.1 _ h
      · exact fcd_use h2 (hT.2.2.1 _ h h2))
    (fun w hw => by
      have key : ∀ w ∈ fBig, vx_ot w = true := fun w h => by unfold vx_ot; rw [hgw w h]; simp
      rcases List.mem_cons.mp hw with h | hw
      · rw [h]; exact key _ hk
      rcases List.mem_cons.mp hw with h | hw
      · rw [h]; exact key _ hini
      rcases hat w hw with h | ⟨-, h⟩
      · exact key _ h
      · exact fcd_ot h)
    hZs.2.2.2.1 hZs.2.2.2.2 hS (hl.1.trans hF.2.2.1.symm) d0 d3 d4 d6 d9 (fun x hx => (hex x hx).elim) (by show 5 < _; omega) (by rw [fcats]; show _ + 82 ≤ _; omega) (by omega) (by omega) hF.2.2.2.2.2.2.2.1
    (fun t h1 h2 h3 => ⟨rfl, h2, h3, h1⟩) hS.2.2 (Nat.le_refl _) (Nat.le_refl _) T rfl X
  refine ⟨t, a1, ?_⟩
  have hQ : xQ F = _ := hE
  rw [hQ]
  refine ⟨o, b1, b2, ?_⟩
  rcases b3 with ⟨h1, L, h2, h3⟩ | ⟨q, h1, E, ce, L, ⟨hcl, hsz, hsame, hal⟩, h3, h4, h5, h6, h7, h8⟩
  · left
    obtain ⟨f1, f2, f3⟩ := h2
    exact ⟨h1, L, ⟨f1, f2, f3.mono (by omega) (by omega)⟩, h3⟩
  · right
    refine ⟨q, h1, E, ce, L, ?_, h3, h4, h5, h6, h7.mono (by omega) (by omega), h8⟩
    subst hcl
    have g1 : t.heap.size ≤ (xs F).heap.size + (cells + 1) := h7.2.2.1
    have g2 : hsl t.heap ≤ hsl (xs F).heap + (slots + 6) := by
      have e1 : hsl t.heap = hsl (xs F).heap + ((t.heap.toList.drop (xs F).heap.size).map (fun c => c.slots.size)).sum := hsl_new (t := { t with vm := (xs F).vm }) h7
      have e2 : ((t.heap.toList.drop (xs F).heap.size).map (fun c => c.slots.size)).sum ≤ slots + 6 := h7.2.2.2.2.1
      omega
    have g3 : hsl (xs F).heap ≤ hsl t.heap := by
      have e1 : hsl t.heap = hsl (xs F).heap + ((t.heap.toList.drop (xs F).heap.size).map (fun c => c.slots.size)).sum := hsl_new (t := { t with vm := (xs F).vm }) h7
      omega
    have hBB := hB
    obtain ⟨b1', b2'⟩ := hBB
    have hke : ∀ b : Nat, b < T.heap.size → ¬ fgA (xG F) b → t.heap[b]? = T.heap[b]? := fun b hb _ => hsame b hb
    refine ⟨⟨S, n + 7, hp, ?_, ⟨by omega, by omega⟩, ⟨?_, by omega⟩⟩, ?_⟩
    · refine fH.moved hal ⟨hH.1.kept (fun k q hk => hsame _ (hH.1 k q hk).lt), hH.2.1, hH.2.2.1, fZ.kept hH.2.2.2.1 hke, hH.2.2.2.2.1, hn⟩
    · exact Nat.le_trans hz.1 (Nat.le_trans hS.1 hsz)
    · refine ⟨Nat.le_trans hS.1 hsz, fun q hq hA => ?_⟩
      rw [hsame q (Nat.lt_of_lt_of_le hq hS.1)]
      exact hS.2.1 q hq hA
/-- a method throws: the exception is new -/
theorem fV_throwNW {post : Option fAV → fMS → Nat → Prop} {postX : String → fMS → Nat → Prop} (hF : fOk F cc own lv) (hE : fEndX F lv post postX) (hex : ∀ x ∈ (xc F).exceptionTable.toList, False) {text : String} {is : Nat} (hn : n + 7 ≤ 30000) (hp : postX nsN S (n + 7)) (hlv : 1 ≤ lv) (hst : (st.map fcat).sum ≤ 8) (hown : own = RX3)
    (hstr : (is, text) ∈ fStrs)
    (d0 : decode cc pc = .ok (.new 159, 3)) (d3 : decode cc (pc + 3) = .ok (.dup, 1)) (d4 : decode cc (pc + 4) = .ok (.ldc_w is, 3)) (d6 : decode cc (pc + 7) = .ok (.invokespecial 163, 3)) (d9 : decode cc (pc + 10) = .ok (.athrow, 1)) : fV F S n pc l st := by
  subst hown
  have hk : Cond.classLink RX3 159 nsN ∈ fBig := fin1 925 (by decide +kernel) rfl
  have hini : Cond.initialized nsN ∈ fBig := fin1 29 (by decide +kernel) rfl
  have hat := nsw_all
  intro T locs cells slots ls X hB hH hS hl
  have hz := hF.2.2.2.2.2.2.1
  have hc := hB.le hz
  have hR := hF.2.2.2.2.2.1
  have hT := hF.2.2.2.2.2.2.2.2.2
  have hZs := fZ.start hF hH hS
  obtain ⟨sa, hsa⟩ := hT.1 _ hstr
  have hbh := hB.heap X
  have hgw : ∀ w ∈ fBig, goodWord w = true := fun w hw => (List.mem_filter.mp hw).2
  obtain ⟨t, a1, o, b1, b2, b3⟩ := ns_throwSW (Qc := fQc (xG F) post) (XC := fun E _ t => E = nsN ∧ T.heap.size ≤ t.heap.size ∧ (∀ q : Nat, q < T.heap.size → t.heap[q]? = T.heap[q]?) ∧ (xs F).vm.Alike t.vm) (mc := cells + 1) (ms := slots + 6) (free := fgA (xG F)) (rest := st.map fv) (text := text) hF.1 hF.2.1 hF.2.2.2.2.2.2.2.2.1 hF.2.2.2.1 (hF.2.2.2.2.1 _ hk) (hF.2.2.2.2.1 _ hini) hsa
    (fun w hw => by
      rcases hat w hw with h | ⟨h, h2⟩
      · exact hF.2.2.2.2.1 _ h
      · exact fcd_use h2 (hT.2.2.1 _ h h2))
    (fun w hw => by
      have key : ∀ w ∈ fBig, vx_ot w = true := fun w h => by unfold vx_ot; rw [hgw w h]; simp
      rcases List.mem_cons.mp hw with h | hw
      · rw [h]; exact key _ hk
      rcases List.mem_cons.mp hw with h | hw
      · rw [h]; exact key _ hini
      rcases hat w hw with h | ⟨-, h⟩
      · exact key _ h
      · exact fcd_ot h)
    hZs.2.2.2.1 hZs.2.2.2.2 hS (hl.1.trans hF.2.2.1.symm) d0 d3 d4 d6 d9 (fun x hx => (hex x hx).elim) (by show 5 < _; omega) (by rw [fcats]; show _ + 82 ≤ _; omega) (by omega) (by omega) hF.2.2.2.2.2.2.2.1
    (fun t h1 h2 h3 => ⟨rfl, h2, h3, h1⟩) hS.2.2 (Nat.le_refl _) (Nat.le_refl _) T rfl X
  refine ⟨t, a1, ?_⟩
  have hQ : xQ F = _ := hE
  rw [hQ]
  refine ⟨o, b1, b2, ?_⟩
  rcases b3 with ⟨h1, L, h2, h3⟩ | ⟨q, h1, E, ce, L, ⟨hcl, hsz, hsame, hal⟩, h3, h4, h5, h6, h7, h8⟩
  · left
    obtain ⟨f1, f2, f3⟩ := h2
    exact ⟨h1, L, ⟨f1, f2, f3.mono (by omega) (by omega)⟩, h3⟩
  · right
    refine ⟨q, h1, E, ce, L, ?_, h3, h4, h5, h6, h7.mono (by omega) (by omega), h8⟩
    subst hcl
    have g1 : t.heap.size ≤ (xs F).heap.size + (cells + 1) := h7.2.2.1
    have g2 : hsl t.heap ≤ hsl (xs F).heap + (slots + 6) := by
      have e1 : hsl t.heap = hsl (xs F).heap + ((t.heap.toList.drop (xs F).heap.size).map (fun c => c.slots.size)).sum := hsl_new (t := { t with vm := (xs F).vm }) h7
      have e2 : ((t.heap.toList.drop (xs F).heap.size).map (fun c => c.slots.size)).sum ≤ slots + 6 := h7.2.2.2.2.1
      omega
    have g3 : hsl (xs F).heap ≤ hsl t.heap := by
      have e1 : hsl t.heap = hsl (xs F).heap + ((t.heap.toList.drop (xs F).heap.size).map (fun c => c.slots.size)).sum := hsl_new (t := { t with vm := (xs F).vm }) h7
      omega
    have hBB := hB
    obtain ⟨b1', b2'⟩ := hBB
    have hke : ∀ b : Nat, b < T.heap.size → ¬ fgA (xG F) b → t.heap[b]? = T.heap[b]? := fun b hb _ => hsame b hb
    refine ⟨⟨S, n + 7, hp, ?_, ⟨by omega, by omega⟩, ⟨?_, by omega⟩⟩, ?_⟩
    · refine fH.moved hal ⟨hH.1.kept (fun k q hk => hsame _ (hH.1 k q hk).lt), hH.2.1, hH.2.2.1, fZ.kept hH.2.2.2.1 hke, hH.2.2.2.2.1, hn⟩
    · exact Nat.le_trans hz.1 (Nat.le_trans hS.1 hsz)
    · refine ⟨Nat.le_trans hS.1 hsz, fun q hq hA => ?_⟩
      rw [hsame q (Nat.lt_of_lt_of_le hq hS.1)]
      exact hS.2.1 q hq hA
end
section
variable {F : fX} {S : fMS} {n pc : Nat} {l : List (Option fAV)} {st stk : List fAV} {cc : ByteArray} {own : String} {lv : Nat}
/-- what stands behind a throw: the frame with the rest of its stack, the exception on top -/
def fVX (F : fX) (S : fMS) (n pc : Nat) (l : List (Option fAV)) (st : List fAV) (E : String) (q : Nat) : Prop :=
  ∀ (T : State) (locs : List Loc) (cells slots : Nat) (ls : Array Slot) (ce : Cell), xS F T locs cells slots → fBd F n cells slots → fH (xG F) S n (xs F) T.heap → va_S (fgA (xG F)) (xs F).heap T.heap locs → fok ls (xn F) l → T.heap[q]? = some ce → ce.vm = .none → (xs F).vm.findClass E = some ce.cls →
    ∃ t, Steps (xp F).tables (xe F) (xb F) ((T.setTop (F0 (xm F) pc ls (st.map fv))).pushFrame (.throwing q)) t ∧ xQ F t
theorem fV_ofRunX {post : Option fAV → fMS → Nat → Prop} {postX : String → fMS → Nat → Prop} {lv' : Nat} {aa : Array Value} (hF : fOk F cc own lv)
    (hr : ∀ (T : State) (locs : List Loc) (cells slots : Nat) (ls : Array Slot), xS F T locs cells slots → fBd F n cells slots → fH (xG F) S n (xs F) T.heap → va_S (fgA (xG F)) (xs F).heap T.heap locs → fok ls (xn F) l →
      vx_Run (xp F) (xl F) (xe F) (xR F) (xs F) (xm F) (xa F) (xb F) (xM F) (xc F) T.heap locs cells slots (30000 * lv') (30000 * lv') (F0 (xm F) pc ls (stk.map fv)) (st.map fv) (fQc (xG F) post aa) (fXc (xG F) postX) (fgA (xG F)))
    (kx : ∀ (E : String) (S' : fMS) (n' q : Nat), postX E S' n' → fVX F S' n' pc l st E q)
    (kk : ∀ (rv : Option fAV) (S' : fMS) (n' : Nat), post rv S' n' → fV F S' n' (pc + 3) l (rv.toList ++ st)) : fV F S n pc l stk := by
  intro T locs cells slots ls X hB hH hS hl
  rcases hr T locs cells slots ls X hB hH hS hl T rfl X with ⟨v, st0, t, T', L, h0, X', hL, e1, e2, ⟨⟨r, S', n', hv, hp, hd, ⟨d1, d2⟩, -⟩, hz1, hk1⟩, go⟩ | ⟨q, st0, t, T', L, E, ce, h0, X', hL, e1, e2, ⟨⟨S', n', hp, hd, ⟨d1, d2⟩, -⟩, hz1, hk1⟩, c1, c2, c3, go⟩
  · cases hv
    rw [← e1] at d1 d2
    obtain ⟨k, m, X2, b1, b2⟩ := xS.tight X' d1 d2 hF.2.2.2.2.2.2.1
    have hH' : fH (xG F) S' n' (xs F) T'.heap := by
      rw [e1]
      exact fH.moved (by rw [← e2]; exact X'.warmed.alike.symm) hd
    have hS' : va_S (fgA (xG F)) (xs F).heap T'.heap (locs ++ L) := by
      refine ⟨?_, fun q h1 h2 => ?_, fun q hq => ?_⟩
      · rw [e1]; rw [h0] at hz1; exact Nat.le_trans hS.1 hz1
      · rw [e1, hk1 q (by rw [h0]; exact Nat.lt_of_lt_of_le h1 hS.1) h2, h0]
        exact hS.2.1 q h1 h2
      · rcases List.mem_append.mp hq with h | h
        · exact hS.2.2 q h
        · exact hL q h
    obtain ⟨t2, a1, q1⟩ := kk r S' n' hp T' (locs ++ L) k m ls X2 ⟨b1, b2⟩ hH' hS' hl
    refine ⟨t2, go t2 ?_, q1⟩
    have e3 : (r.toList ++ st).map fv = (r.map fv).toList ++ st.map fv := by cases r <;> rfl
    rw [e3] at a1
    exact a1
  · rw [← e1] at d1 d2
    obtain ⟨k, m, X2, b1, b2⟩ := xS.tight X' d1 d2 hF.2.2.2.2.2.2.1
    have hH' : fH (xG F) S' n' (xs F) T'.heap := by
      rw [e1]
      exact fH.moved (by rw [← e2]; exact X'.warmed.alike.symm) hd
    have hS' : va_S (fgA (xG F)) (xs F).heap T'.heap (locs ++ L) := by
      refine ⟨?_, fun q h1 h2 => ?_, fun q hq => ?_⟩
      · rw [e1]; rw [h0] at hz1; exact Nat.le_trans hS.1 hz1
      · rw [e1, hk1 q (by rw [h0]; exact Nat.lt_of_lt_of_le h1 hS.1) h2, h0]
        exact hS.2.1 q h1 h2
      · rcases List.mem_append.mp hq with h | h
        · exact hS.2.2 q h
        · exact hL q h
    obtain ⟨t2, a1, q1⟩ := kx E S' n' q hp T' (locs ++ L) k m ls ce X2 ⟨b1, b2⟩ hH' hS' hl (by rw [e1]; exact c1) c2 c3
    exact ⟨t2, Steps.trans go a1, q1⟩
/-- not caught: the method throws it on -/
theorem fVX_out {post : Option fAV → fMS → Nat → Prop} {postX : String → fMS → Nat → Prop} {E : String} {q : Nat} (hF : fOk F cc own lv) (hE : fEndX F lv post postX) (hex : ∀ x ∈ (xc F).exceptionTable.toList, False) (hlv : 1 ≤ lv) (hp : postX E S n) : fVX F S n pc l st E q := by
  intro T locs cells slots ls ce X hB hH hS hl c1 c2 c3
  have hc := hB.le hF.2.2.2.2.2.2.1
  have hn3 := hH.2.2.2.2.2
  have hbh := hB.heap X
  have hz := hF.2.2.2.2.2.2.1
  have hQ : xQ F = _ := hE
  rw [hQ]
  refine vx_out (H := T.heap) (E := E) (ce := ce) (fun x hx => (hex x hx).elim) hF.2.2.2.2.2.2.2.1 c1 c2 c3 (fun t ht hal => ⟨⟨S, n, hp, ?_, ?_, ?_⟩, hS.F ht⟩) hS.2.2 (by omega) (by omega) T rfl X
  · rw [ht]; exact fH.moved hal hH
  · rw [ht]; exact ⟨hbh.1, hbh.2.1⟩
  · rw [ht]; exact ⟨Nat.le_trans hz.1 hS.1, Nat.le_trans hz.2 hbh.2.2⟩
theorem fV_callVX {k b index lv' maxL na : Nat} {r : Option Nat} {C : String} {T : u_T} {y : MethodName} {bytes : ByteArray} {ret : Option FieldType} {As : List fAV} {post post0 : Option fAV → fMS → Nat → Prop} {postX : String → fMS → Nat → Prop} (hF : fOk F cc own lv) (hM : fCX (xl F) y (.code y bytes maxL ret) lv' (xG F) (aR (some b) :: As) S n post postX) (hE : fEndX F lv post0 postX) (hex : ∀ x ∈ (xc F).exceptionTable.toList, False)
    (hk : fKind k C T) (he : r = some b) (hA : isA S k b) (hlv : lv' + 1 ≤ lv) (h0 : Cond.code y bytes maxL ret ∈ fBig) (h1 : Cond.methodLink own index y ∈ fBig) (h2 : Cond.instanceMethod y ∈ fBig) (h3 : Cond.selects C y y ∈ fBig) (h4 : Cond.initialized C ∈ fBig)
    (hy : y.cls = C ∧ y.cls ≠ "java/lang/invoke/MethodHandle" ∧ y.cls ≠ "java/lang/invoke/VarHandle" ∧ (parseMethodDescriptor y.desc).map (fun d => d.parameters.length) = some na) (hna : As.length = na) (hmL : maxL ≤ 60) (hst : (st.map fcat).sum ≤ 8) (hd : decode cc pc = .ok (.invokevirtual index, 3)) (hstk : stk = As.reverse ++ aR r :: st)
    (kk : ∀ (rv : Option fAV) (S' : fMS) (n' : Nat), post rv S' n' → fV F S' n' (pc + 3) l (rv.toList ++ st)) : fV F S n pc l stk := by
  subst he
  subst hna
  refine fV_ofRunX (lv' := lv') (postX := postX) (aa := (Value.ref b :: As.map fv).toArray) hF (fun T locs cells slots ls X hB hH hS hl => ?_) (fun E S' n' q hp => fVX_out hF hE hex (by omega) hp) kk
  obtain ⟨q0, hq⟩ := hH.at hA.1
  obtain ⟨rr, hr, cell, c1, c2, c3, -⟩ := hH.1 q0 _ (hq.trans (congrArg (fun e => some (b, e)) (cell_obj hA.2 hk.1)))
  obtain ⟨-, hfc, -⟩ := hH.2.2.1.1 _ _ hk.2.1
  refine vx_runV (As := As.map fv) (rest := st.map fv) ⟨hF.1, hF.2.1, hF.2.2.1, hF.2.2.2.1, hF.2.2.2.2.1⟩ hM (cwV As.length hF.2.2.2.2.1 (fgood h0 h1 h2 h3 h4) rfl rfl rfl hy (froom2 hF hlv hmL)) ⟨fPc.blind, ⟨cell, c1, by rw [c3]; rfl, by rw [c2]; exact hfc⟩, fun U hU hW => ⟨rfl, fHd.call hF X hB hH hS U hU hW⟩⟩ rfl (by simp) hl.1 ?_ ?_ hd (froom hF hB hH.2.2.2.2.2 hlv)
  · show stk.map fv = _
    rw [hstk]
    simp [fv, aR, va_rf]
  · show 2 * 0 + _ ≤ 8
    rw [fcats]; omega
theorem fV_callSX {index lv' maxL na : Nat} {y : MethodName} {bytes : ByteArray} {ret : Option FieldType} {As : List fAV} {post post0 : Option fAV → fMS → Nat → Prop} {postX : String → fMS → Nat → Prop} (hF : fOk F cc own lv) (hM : fCX (xl F) y (.code y bytes maxL ret) lv' (xG F) As S n post postX) (hE : fEndX F lv post0 postX) (hex : ∀ x ∈ (xc F).exceptionTable.toList, False)
    (hlv : lv' + 1 ≤ lv) (h0 : Cond.code y bytes maxL ret ∈ fBig) (h1 : Cond.methodLink own index y ∈ fBig) (h2 : Cond.static y ∈ fBig) (h4 : Cond.initialized y.cls ∈ fBig)
    (hy : y.cls ≠ "java/lang/invoke/MethodHandle" ∧ y.cls ≠ "java/lang/invoke/VarHandle" ∧ (parseMethodDescriptor y.desc).map (fun d => d.parameters.length) = some na) (hna : As.length = na) (hmL : maxL ≤ 60) (hst : (st.map fcat).sum ≤ 8) (hd : decode cc pc = .ok (.invokestatic index, 3)) (hstk : stk = As.reverse ++ st)
    (kk : ∀ (rv : Option fAV) (S' : fMS) (n' : Nat), post rv S' n' → fV F S' n' (pc + 3) l (rv.toList ++ st)) : fV F S n pc l stk := by
  subst hna
  refine fV_ofRunX (lv' := lv') (postX := postX) (aa := (As.map fv).toArray) hF (fun T locs cells slots ls X hB hH hS hl => ?_) (fun E S' n' q hp => fVX_out hF hE hex (by omega) hp) kk
  refine vx_runS (As := As.map fv) (rest := st.map fv) ⟨hF.1, hF.2.1, hF.2.2.1, hF.2.2.2.1, hF.2.2.2.2.1⟩ hM ⟨callB_of As.length hF.2.2.2.2.1 (fgood0 h0) rfl rfl rfl (hF.2.2.2.2.1 _ h4) (hF.2.2.2.2.1 _ h1) hy (froom2 hF hlv hmL), hF.2.2.2.2.1 _ h2⟩ ⟨fPc.blind, fun U hU hW => ⟨rfl, fHd.call hF X hB hH hS U hU hW⟩⟩ rfl (by simp) hl.1 ?_ ?_ hd (froom hF hB hH.2.2.2.2.2 hlv)
  · show stk.map fv = _
    rw [hstk]
    simp
  · show 2 * 0 + _ ≤ 8
    rw [fcats]; omega
end
