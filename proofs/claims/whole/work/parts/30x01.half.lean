-- ===== what does not ask for the half-time =====
/-- the same but for the half-time and what is reckoned anew -/
def eqH (σ τ : fG2) : Prop := ∀ g k : Nat, 1 ≤ g ∧ g ≠ 3 → g < 27 → τ g k = σ g k
theorem eqK.H {σ τ : fG2} (h : eqK σ τ) : eqH σ τ := fun g k a b => h g k a.1 b
section
variable {σ τ : fG2} {j : Nat}
theorem eqH.kids {a b : fG2} (h : eqH a b) : kidsN b = kidsN a := by
  funext t; unfold kidsN nt1 kidsF; simp only [h 4 _ (by omega) (by omega), h 5 _ (by omega) (by omega)]
theorem eqH.n1 {a b : fG2} (h : eqH a b) : nt1 b = nt1 a := by unfold nt1; rw [h 4 _ (by omega) (by omega)]
theorem eqH.dm {a b : fG2} (h : eqH a b) : ∀ d t, dmF b d t = dmF a d t := by
  intro d; induction d with
  | zero => intro t; rfl
  | succ d ih =>
    intro t
    simp only [dmF, h.kids, h.n1, h 5 _ (by omega) (by omega), h 7 _ (by omega) (by omega), h 10 _ (by omega) (by omega), h 11 _ (by omega) (by omega), ih]
theorem eqH.rsv {a b : fG2} (h : eqH a b) (t : Int) : rsvS b t = rsvS a t := by
  unfold rsvS rsvF; simp only [h 22 _ (by omega) (by omega), h 23 _ (by omega) (by omega), h 24 _ (by omega) (by omega), h 25 _ (by omega) (by omega), h 26 _ (by omega) (by omega), h 1 _ (by omega) (by omega)]
theorem eqH.fre {a b : fG2} (h : eqH a b) (t : Int) : freS b t = freS a t := by
  unfold freS freF; simp only [h.kids, h.rsv, h 2 _ (by omega) (by omega), h 10 _ (by omega) (by omega), h 4 _ (by omega) (by omega)]
theorem eqH.fst {a b : fG2} (h : eqH a b) (t : Int) : fstS b t = fstS a t := by
  have : ∀ d j, fstF b t j d = fstF a t j d := by
    intro d; induction d with
    | zero => intro j; rfl
    | succ d ih => intro j; simp only [fstF, h 13 _ (by omega) (by omega), h 17 _ (by omega) (by omega), ih]
  unfold fstS; rw [this, h 12 _ (by omega) (by omega)]
theorem due_cngH (h : eqH σ τ) (h28 : ∀ k, τ 28 k = σ 28 k) (t : Nat) : dueS τ t = dueS σ t := by
  unfold dueS; rw [h.rsv, h28]
theorem ov_cngH (h : eqH σ τ) (h28 : ∀ k, τ 28 k = σ 28 k) (t : Int) (i : Nat) : ovP τ t i ↔ ovP σ t i := by
  unfold ovP; rw [due_cngH h h28, h 17 _ (by omega) (by omega), h 13 _ (by omega) (by omega), h 10 _ (by omega) (by omega)]
theorem lo_cngH (h : eqH σ τ) (h28 : ∀ k, τ 28 k = σ 28 k) (t : Int) : loS τ t = loS σ t := by
  have : ∀ d i b, loF τ t i d b = loF σ t i d b := by
    intro d; induction d with
    | zero => intro i b; rfl
    | succ d ih =>
      intro i b
      have hc : (ovP τ t i ∧ (b = -1 ∨ τ 19 b.toNat < τ 19 i)) ↔ (ovP σ t i ∧ (b = -1 ∨ σ 19 b.toNat < σ 19 i)) := by
        rw [ov_cngH h h28, h 19 _ (by omega) (by omega), h 19 i (by omega) (by omega)]
      simp only [loF, ih]
      by_cases c : ovP σ t i ∧ (b = -1 ∨ σ 19 b.toNat < σ 19 i)
      · rw [if_pos c, if_pos (hc.mpr c)]
      · rw [if_neg c, if_neg (fun z => c (hc.mp z))]
  unfold loS; rw [this, h 12 _ (by omega) (by omega)]
theorem htF_cngH (h : eqH σ τ) : eqH (htF σ j) (htF τ j) := by
  intro g k g0 g1
  rw [htF_g, htF_g]
  by_cases c1 : g = 10
  · subst c1
    unfold gF rmS adL
    rw [gF_ch, gF_ch]
    have hc : ∀ t, chS τ t = chS σ t := fun t => chF_cong (fun k => h 5 k (by omega) (by omega)) 11 t
    simp only [hc, h 13 _ (by omega) (by omega), h 14 _ (by omega) (by omega), up_ne (show (10 : Nat) ≠ 11 by decide), up_ne (show (10 : Nat) ≠ 17 by decide), h 10 _ (by omega) (by omega)]
  · by_cases c2 : g = 11
    · subst c2; rw [gF_11, gF_11, h 13 _ (by omega) (by omega), h 14 _ (by omega) (by omega), h 11 _ (by omega) (by omega)]
    · by_cases c3 : g = 17
      · subst c3; rw [gF_17, gF_17, h 17 _ (by omega) (by omega)]
      · rw [gF_ne c1 c2 c3, gF_ne c1 c2 c3]; exact h g k g0 g1
theorem eqH.ch (h : eqH σ τ) (t : Int) : chS τ t = chS σ t := chF_cong (fun k => h 5 k (by omega) (by omega)) 11 t
theorem eqH.lim (h : eqH σ τ) (l : List Nat) (u : Int) : limP τ l u ↔ limP σ l u := by
  unfold limP; simp only [h 10 _ (by omega) (by omega), h 7 _ (by omega) (by omega)]
theorem eqH.can (h : eqH σ τ) (j : Nat) : canP τ j ↔ canP σ j := by
  unfold canP; rw [h.ch, h.lim, h.fre, h 13 j (by omega) (by omega), h 14 j (by omega) (by omega)]
theorem mkQ_cngH (h : eqH σ τ) (h28 : ∀ k, τ 28 k = σ 28 k) (j : Nat) : mkQ τ j ↔ mkQ σ j := by
  unfold mkQ; rw [h.ch, h.lim, h.fre, due_cngH h h28, h 13 j (by omega) (by omega), h 14 j (by omega) (by omega), h 10 _ (by omega) (by omega)]
theorem vcF_cngH (t sz : Int) : ∀ (f : Nat) (σ τ : fG2), eqH σ τ → (∀ k, τ 28 k = σ 28 k) → vcF t sz f τ = vcF t sz f σ := by
  intro f; induction f with
  | zero => intro σ τ h h28; simp only [vcF, h.fre]
  | succ f ih =>
    intro σ τ h h28
    simp only [vcF, h.fre, lo_cngH h h28]
    rw [ih (htF σ (loS σ t).toNat) (htF τ (loS σ t).toNat) (htF_cngH h) (fun k => by rw [htF_g, htF_g, gF_ne (by decide) (by decide) (by decide), gF_ne (by decide) (by decide) (by decide)]; exact h28 k)]
theorem vcS_cngH (h : eqH σ τ) (h28 : ∀ k, τ 28 k = σ 28 k) (j : Nat) : vcS τ j = vcS σ j := by
  unfold vcS; rw [h 13 j (by omega) (by omega), h 14 j (by omega) (by omega)]; exact vcF_cngH _ _ _ _ _ h h28
theorem canX_cngH (h : eqH σ τ) (h28 : ∀ k, τ 28 k = σ 28 k) (j : Nat) : canX τ j ↔ canX σ j := by
  unfold canX; rw [h.can, mkQ_cngH h h28, vcS_cngH h h28]
theorem eqH.ah {a b : fG2} (h : eqH a b) (t x : Nat) : ahd b t x ↔ ahd a t x := by
  unfold ahd; simp only [h 8 _ (by omega) (by omega), h 6 _ (by omega) (by omega)]
theorem eqH.at (h : eqH σ τ) (l : List Nat) (t : Nat) : ∀ a, atB τ l t a = atB σ l t a := by
  intro a; induction a with
  | zero => rfl
  | succ a ih =>
    unfold atB
    by_cases c : ahd σ t (l.getD a 0)
    · rw [if_pos c, if_pos ((h.ah _ _).mpr c), ih]
    · rw [if_neg c, if_neg (fun z => c ((h.ah _ _).mp z))]
theorem eqH.ln (h : eqH σ τ) : lnS τ = lnS σ := by
  have : ∀ (d t : Nat) (l : List Nat), lnF τ t d l = lnF σ t d l := by
    intro d; induction d with
    | zero => intro t l; rfl
    | succ d ih =>
      intro t l
      unfold lnF
      by_cases c : kidsN σ t = 0 ∧ fstS σ t ≠ -1
      · rw [if_pos c, if_pos (by rw [h.kids, h.fst]; exact c), ih, h.at]
      · rw [if_neg c, if_neg (by rw [h.kids, h.fst]; exact c), ih]
  unfold lnS; rw [this, h 4 0 (by omega) (by omega)]
theorem nxL_cngH (h : eqH σ τ) (h28 : ∀ k, τ 28 k = σ 28 k) : ∀ l : List Nat, nxL τ l = nxL σ l := by
  intro l; induction l with
  | nil => rfl
  | cons t l ih =>
    unfold nxL
    rw [h.fst]
    by_cases c : canX σ (fstS σ t).toNat
    · rw [if_pos c, if_pos ((canX_cngH h h28 _).mpr c)]
    · rw [if_neg c, if_neg (fun z => c ((canX_cngH h h28 _).mp z)), ih]
end
