-- ===== units dealt to a list of teams =====
/-- the neediest: given g, demands d, weights w -/
def nbL (g d w : Nat → Int) : List Nat → Int → Int
  | [], b => b
  | k :: l, b => nbL g d w l (if g k < d k ∧ (b = -1 ∨ g k * w b.toNat < g b.toNat * w k) then (k : Int) else b)
def g1 (K : List Nat) (d w g : Nat → Int) : Nat → Int := fun k => if (k : Int) = nbL g d w K (-1) then g k + 1 else g k
def gN (K : List Nat) (d w : Nat → Int) : Nat → (Nat → Int) → (Nat → Int)
  | 0, g => g
  | u + 1, g => gN K d w u (g1 K d w g)
theorem nbL_cong {g d w g' d' w' : Nat → Int} : ∀ (K : List Nat) (b : Int), (∀ k ∈ K, g k = g' k ∧ d k = d' k ∧ w k = w' k) → (b = -1 ∨ (g b.toNat = g' b.toNat ∧ w b.toNat = w' b.toNat)) → nbL g d w K b = nbL g' d' w' K b := by
  intro K; induction K with
  | nil => intro b _ _; rfl
  | cons k K ih =>
    intro b h hb
    have hk := h k List.mem_cons_self
    have hc : (g k < d k ∧ (b = -1 ∨ g k * w b.toNat < g b.toNat * w k)) ↔ (g' k < d' k ∧ (b = -1 ∨ g' k * w' b.toNat < g' b.toNat * w' k)) := by
      rcases hb with z | ⟨z1, z2⟩
      · subst z; rw [hk.1, hk.2.1]; simp
      · rw [hk.1, hk.2.1, hk.2.2, z1, z2]
    simp only [nbL]
    by_cases c : g k < d k ∧ (b = -1 ∨ g k * w b.toNat < g b.toNat * w k)
    · rw [if_pos c, if_pos (hc.mp c)]
      exact ih _ (fun i hi => h i (List.mem_cons_of_mem _ hi)) (Or.inr (by simpa using ⟨hk.1, hk.2.2⟩))
    · rw [if_neg c, if_neg (fun z => c (hc.mpr z))]
      exact ih _ (fun i hi => h i (List.mem_cons_of_mem _ hi)) hb
/-- what the neediest is -/
theorem nbL_mem {g d w : Nat → Int} : ∀ (K : List Nat) (b : Int), nbL g d w K b = b ∨ ∃ k ∈ K, nbL g d w K b = k ∧ g k < d k := by
  intro K; induction K with
  | nil => intro b; exact Or.inl rfl
  | cons k K ih =>
    intro b
    simp only [nbL]
    split
    · rename_i c
      rcases ih (k : Int) with z | ⟨i, z1, z2⟩
      · exact Or.inr ⟨k, List.mem_cons_self, z, c.1⟩
      · exact Or.inr ⟨i, List.mem_cons_of_mem _ z1, z2⟩
    · rcases ih b with z | ⟨i, z1, z2⟩
      · exact Or.inl z
      · exact Or.inr ⟨i, List.mem_cons_of_mem _ z1, z2⟩
theorem nbL_min {g d w : Nat → Int} (hg : ∀ k, 0 ≤ g k) (hw : ∀ k, 1 ≤ w k) : ∀ (K : List Nat) (b : Int), (b = -1 ∨ 0 ≤ b) →
    (b ≠ -1 → nbL g d w K b ≠ -1 ∧ g (nbL g d w K b).toNat * w b.toNat ≤ g b.toNat * w (nbL g d w K b).toNat) ∧
    ∀ k ∈ K, g k < d k → nbL g d w K b ≠ -1 ∧ g (nbL g d w K b).toNat * w k ≤ g k * w (nbL g d w K b).toNat := by
  -- quotients go over: a/x ≤ b/y ≤ c/z
  have tr : ∀ a b c x y z : Int, 0 ≤ a → 0 ≤ b → 0 ≤ c → 1 ≤ x → 1 ≤ y → 1 ≤ z → a * y ≤ b * x → b * z ≤ c * y → a * z ≤ c * x := by
    intro a b c x y z ha hb hc hx hy hz h1 h2
    have h3 : (a * y) * z ≤ (b * x) * z := Int.mul_le_mul_of_nonneg_right h1 (by omega)
    have h4 : (b * z) * x ≤ (c * y) * x := Int.mul_le_mul_of_nonneg_right h2 (by omega)
    have h5 : (b * x) * z = (b * z) * x := by rw [Int.mul_assoc, Int.mul_comm x z, ← Int.mul_assoc]
    have h6 : y * (a * z) ≤ y * (c * x) := by
      have e1 : y * (a * z) = (a * y) * z := by rw [← Int.mul_assoc, Int.mul_comm y a]
      have e2 : y * (c * x) = (c * y) * x := by rw [← Int.mul_assoc, Int.mul_comm y c]
      rw [e1, e2]; omega
    exact Int.le_of_mul_le_mul_left h6 (by omega)
  intro K; induction K with
  | nil => intro b _; exact ⟨fun h => ⟨h, Int.le_refl _⟩, fun k hk => by simp at hk⟩
  | cons k K ih =>
    intro b hb
    simp only [nbL]
    by_cases c : g k < d k ∧ (b = -1 ∨ g k * w b.toNat < g b.toNat * w k)
    · rw [if_pos c]
      have h1 := ih (k : Int) (Or.inr (by omega))
      have h2 := h1.1 (by omega)
      simp only [Int.toNat_natCast] at h2
      refine ⟨fun hne => ⟨h2.1, ?_⟩, fun i hi hid => ?_⟩
      · rcases c.2 with z | z
        · exact absurd z hne
        · exact tr _ (g k) _ _ (w k) _ (hg _) (hg _) (hg _) (hw _) (hw _) (hw _) h2.2 (by omega)
      · rcases List.mem_cons.mp hi with z | z
        · rw [z]; exact h2
        · exact h1.2 i z hid
    · rw [if_neg c]
      have h1 := ih b hb
      refine ⟨h1.1, fun i hi hid => ?_⟩
      rcases List.mem_cons.mp hi with z | z
      · have hbn : b ≠ -1 := fun y => c ⟨by rw [← z]; exact hid, Or.inl y⟩
        have h2 := h1.1 hbn
        have h3 : ¬ g k * w b.toNat < g b.toNat * w k := fun y => c ⟨by rw [← z]; exact hid, Or.inr y⟩
        refine ⟨h2.1, ?_⟩
        rw [z]
        exact tr _ (g b.toNat) _ _ (w b.toNat) _ (hg _) (hg _) (hg _) (hw _) (hw _) (hw _) h2.2 (by omega)
      · exact h1.2 i z hid
theorem g1_out {K : List Nat} {d w g : Nat → Int} {k : Nat} (h : k ∉ K) : g1 K d w g k = g k := by
  unfold g1
  rcases nbL_mem (g := g) (d := d) (w := w) K (-1) with z | ⟨i, z1, z2, -⟩
  · rw [z, if_neg (by omega)]
  · rw [z2, if_neg (fun e => h (by have : k = i := by omega
                                   rw [this]; exact z1))]
theorem gN_out {K : List Nat} {d w : Nat → Int} {k : Nat} (h : k ∉ K) : ∀ (u : Nat) (g : Nat → Int), gN K d w u g k = g k := by
  intro u; induction u with
  | zero => intro g; rfl
  | succ u ih => intro g; exact (ih _).trans (g1_out h)
theorem gN_cong {K : List Nat} {d w d' w' : Nat → Int} (hd : ∀ k ∈ K, d k = d' k ∧ w k = w' k) : ∀ (u : Nat) (g g' : Nat → Int), (∀ k ∈ K, g k = g' k) → ∀ k ∈ K, gN K d w u g k = gN K d' w' u g' k := by
  intro u; induction u with
  | zero => intro g g' h k hk; exact h k hk
  | succ u ih =>
    intro g g' h k hk
    refine ih _ _ (fun i hi => ?_) k hk
    have : nbL g d w K (-1) = nbL g' d' w' K (-1) := nbL_cong K (-1) (fun j hj => ⟨h j hj, (hd j hj).1, (hd j hj).2⟩) (Or.inl rfl)
    unfold g1; rw [this, h i hi]
theorem gN_add {K : List Nat} {d w : Nat → Int} : ∀ (u v : Nat) (g : Nat → Int), gN K d w (u + v) g = gN K d w v (gN K d w u g) := by
  intro u; induction u with
  | zero => intro v g; rw [Nat.zero_add]; rfl
  | succ u ih => intro v g; rw [show u + 1 + v = (u + v) + 1 by omega]; exact ih v _
theorem gN_b {K : List Nat} {d w : Nat → Int} : ∀ (u : Nat) (g : Nat → Int) (k : Nat), g k ≤ gN K d w u g k ∧ (gN K d w u g k ≤ g k ∨ gN K d w u g k ≤ d k) := by
  intro u; induction u with
  | zero => intro g k; exact ⟨Int.le_refl _, Or.inl (Int.le_refl _)⟩
  | succ u ih =>
    intro g k
    have h := ih (g1 K d w g) k
    have h2 : g1 K d w g k = g k ∨ (g1 K d w g k = g k + 1 ∧ g k < d k) := by
      unfold g1
      rcases nbL_mem (g := g) (d := d) (w := w) K (-1) with z | ⟨i, z1, z2, z3⟩
      · rw [z, if_neg (by omega)]; exact Or.inl rfl
      · rw [z2]
        by_cases c : (k : Int) = i
        · have e : k = i := by omega
          rw [if_pos c, e]; exact Or.inr ⟨rfl, z3⟩
        · rw [if_neg c]; exact Or.inl rfl
    show g k ≤ gN K d w u (g1 K d w g) k ∧ _
    have e : gN K d w (u + 1) g k = gN K d w u (g1 K d w g) k := rfl
    rw [e]
    omega
/-- sums over a list -/
def lsm (f : Nat → Int) : List Nat → Int
  | [] => 0
  | k :: l => f k + lsm f l
theorem lsm_cong {f g : Nat → Int} : ∀ K : List Nat, (∀ k ∈ K, f k = g k) → lsm f K = lsm g K := by
  intro K; induction K with
  | nil => intro _; rfl
  | cons k K ih => intro h; simp only [lsm]; rw [h k List.mem_cons_self, ih (fun i hi => h i (List.mem_cons_of_mem _ hi))]
theorem lsm_le {f g : Nat → Int} : ∀ K : List Nat, (∀ k ∈ K, f k ≤ g k) → lsm f K ≤ lsm g K := by
  intro K; induction K with
  | nil => intro _; exact Int.le_refl _
  | cons k K ih =>
    intro h; simp only [lsm]
    have := h k List.mem_cons_self; have := ih (fun i hi => h i (List.mem_cons_of_mem _ hi)); omega
theorem lsm_lt {f g : Nat → Int} : ∀ K : List Nat, (∀ k ∈ K, f k ≤ g k) → lsm f K < lsm g K → ∃ k ∈ K, f k < g k := by
  intro K; induction K with
  | nil => intro _ h; simp [lsm] at h
  | cons k K ih =>
    intro h hl; simp only [lsm] at hl
    by_cases c : f k < g k
    · exact ⟨k, List.mem_cons_self, c⟩
    · have := h k List.mem_cons_self
      obtain ⟨i, i1, i2⟩ := ih (fun i hi => h i (List.mem_cons_of_mem _ hi)) (by omega)
      exact ⟨i, List.mem_cons_of_mem _ i1, i2⟩
theorem lsm_eq {f g : Nat → Int} : ∀ K : List Nat, (∀ k ∈ K, f k ≤ g k) → lsm g K ≤ lsm f K → ∀ k ∈ K, f k = g k := by
  intro K; induction K with
  | nil => intro _ _ k hk; simp at hk
  | cons k K ih =>
    intro h hl i hi; simp only [lsm] at hl
    have h1 := h k List.mem_cons_self; have h2 := lsm_le K (fun i hi => h i (List.mem_cons_of_mem _ hi))
    rcases List.mem_cons.mp hi with z | z
    · rw [z]; omega
    · exact ih (fun i hi => h i (List.mem_cons_of_mem _ hi)) (by omega) i z
theorem lsm_nn {f : Nat → Int} : ∀ K : List Nat, (∀ k ∈ K, 0 ≤ f k) → 0 ≤ lsm f K := by
  intro K; induction K with
  | nil => intro _; exact Int.le_refl _
  | cons k K ih =>
    intro h; simp only [lsm]
    have := h k List.mem_cons_self; have := ih (fun i hi => h i (List.mem_cons_of_mem _ hi)); omega
/-- one term changed -/
theorem lsm_upd {f g : Nat → Int} {j : Nat} (hg : ∀ k, k ≠ j → g k = f k) : ∀ K : List Nat, K.Nodup → j ∈ K → lsm g K = lsm f K + (g j - f j) := by
  intro K; induction K with
  | nil => intro _ h; simp at h
  | cons k K ih =>
    intro hn hj
    simp only [lsm]
    have hn2 := List.nodup_cons.mp hn
    by_cases c : k = j
    · subst c
      rw [lsm_cong K (fun i hi => hg i (fun e => hn2.1 (e ▸ hi)))]; omega
    · rw [hg k c, ih hn2.2 ((List.mem_cons.mp hj).resolve_left (fun e => c e.symm))]; omega
/-- filled up to a level, unit by unit -/
theorem gN_level {K : List Nat} {d w : Nat → Int} (hK : K.Nodup) (hw : ∀ k, 1 ≤ w k) (hd : ∀ k ∈ K, 0 ≤ d k) {lv : Int} (hl : 0 ≤ lv) :
    ∀ n : Nat, (n : Int) ≤ lsm (fun k => if lv * w k < d k then lv * w k else d k) K →
      (∀ k, 0 ≤ gN K d w n (fun _ => 0) k) ∧ (∀ k ∈ K, gN K d w n (fun _ => 0) k ≤ (if lv * w k < d k then lv * w k else d k)) ∧ lsm (gN K d w n (fun _ => 0)) K = n := by
  intro n
  induction n with
  | zero =>
    intro _
    refine ⟨fun k => Int.le_refl _, fun k hk => ?_, ?_⟩
    · have h1 := hd k hk
      have h2 : 0 ≤ lv * w k := Int.mul_nonneg hl (by have := hw k; omega)
      show (0 : Int) ≤ _
      split <;> omega
    · show lsm (fun _ => 0) K = 0
      have : ∀ K : List Nat, lsm (fun _ => 0) K = 0 := by
        intro K; induction K with
        | nil => rfl
        | cons k K ih => simp only [lsm, ih]; omega
      exact this K
  | succ n ih =>
    intro hn
    obtain ⟨h1, h2, h3⟩ := ih (by omega)
    have e : gN K d w (n + 1) (fun _ => 0) = g1 K d w (gN K d w n (fun _ => 0)) := gN_add n 1 _
    rw [e]
    obtain ⟨g, hg⟩ : ∃ g, g = gN K d w n (fun _ => 0) := ⟨_, rfl⟩
    rw [← hg] at h1 h2 h3 ⊢
    obtain ⟨k, hk, hlt⟩ := lsm_lt K h2 (by omega)
    have hlt1 : g k < d k ∧ g k < lv * w k := by split at hlt <;> omega
    have hmin := (nbL_min (d := d) h1 hw K (-1) (Or.inl rfl)).2 k hk hlt1.1
    obtain ⟨i, i1, i2, i3⟩ := (nbL_mem (g := g) (d := d) (w := w) K (-1)).resolve_left hmin.1
    rw [i2] at hmin
    simp only [Int.toNat_natCast] at hmin
    have gi : g1 K d w g i = g i + 1 := by unfold g1; rw [i2, if_pos rfl]
    have go : ∀ j, j ≠ i → g1 K d w g j = g j := fun j hj => by unfold g1; rw [i2, if_neg (by omega)]
    -- the neediest stands below the level too
    have hil : g i < lv * w i := by
      have a1 : g k * w i < (lv * w k) * w i := Int.mul_lt_mul_of_pos_right hlt1.2 (by have := hw i; omega)
      have a2 : (lv * w k) * w i = (lv * w i) * w k := by rw [Int.mul_assoc, Int.mul_comm (w k) (w i), ← Int.mul_assoc]
      have a3 : g i * w k < (lv * w i) * w k := by omega
      exact Int.lt_of_mul_lt_mul_right a3 (by have := hw k; omega)
    refine ⟨fun j => ?_, fun j hj => ?_, ?_⟩
    · by_cases c : j = i
      · rw [c, gi]; have := h1 i; omega
      · rw [go j c]; exact h1 j
    · by_cases c : j = i
      · rw [c, gi]; split <;> omega
      · rw [go j c]; exact h2 j hj
    · rw [lsm_upd (f := g) (g := g1 K d w g) go K hK i1, h3, gi]; omega
theorem gN_level' {K : List Nat} {d w : Nat → Int} (hK : K.Nodup) (hw : ∀ k, 1 ≤ w k) (hd : ∀ k ∈ K, 0 ≤ d k) {lv : Int} (hl : 0 ≤ lv) {U : Nat} (hU : lsm (fun k => if lv * w k < d k then lv * w k else d k) K = U) :
    ∀ k ∈ K, gN K d w U (fun _ => 0) k = (if lv * w k < d k then lv * w k else d k) := by
  obtain ⟨h1, h2, h3⟩ := gN_level hK hw hd hl U (by omega)
  exact lsm_eq K h2 (by rw [h3]; omega)
/-- by levels, or unit by unit: the same -/
theorem gN_fill {K : List Nat} {d w : Nat → Int} (hK : K.Nodup) (hw : ∀ k, 1 ≤ w k) (hd : ∀ k ∈ K, 0 ≤ d k) {lv : Int} (hl : 0 ≤ lv) {U u : Nat} (hU : lsm (fun k => if lv * w k < d k then lv * w k else d k) K = U) (hu : U ≤ u) (g : Nat → Int) (hg : ∀ k ∈ K, g k = (if lv * w k < d k then lv * w k else d k)) :
    ∀ k ∈ K, gN K d w (u - U) g k = gN K d w u (fun _ => 0) k := by
  intro k hk
  have e : gN K d w u (fun _ => 0) = gN K d w (u - U) (gN K d w U (fun _ => 0)) := by rw [← gN_add]; congr 1; omega
  rw [e]
  exact gN_cong (fun _ _ => ⟨rfl, rfl⟩) _ _ _ (fun i hi => by rw [hg i hi, gN_level' hK hw hd hl hU i hi]) k hk
