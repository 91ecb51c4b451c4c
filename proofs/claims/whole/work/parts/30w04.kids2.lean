section
variable {ρ : fG2}
/-- a row of a list of teams copied -/
def cpK (ρ : fG2) (K : List Nat) (f : Nat) (g : Nat → Int) : fG2 := sF ρ f (fun k => if k ∈ K then g k else ρ f k)
def dcG (ρ : fG2) (t : Nat) : Nat → Int := gN (kdl ρ t) (ρ 41) (ρ 6) (ρ 42 t).toNat (fun k => if k ∈ kdl ρ t then 0 else ρ 46 k)
def dcS (ρ : fG2) (t : Nat) : fG2 := cpK (sF ρ 46 (dcG ρ t)) (kdl ρ t) 42 (dcG ρ t)
def ulL (ρ : fG2) (lv : Int) (k : Nat) : Int := if lv * ρ 6 k < ρ 41 k then lv * ρ 6 k else ρ 41 k
def ulS (ρ : fG2) (K : List Nat) (lv : Int) : Int := lsm (ulL ρ lv) K
def lwF (ρ : fG2) (K : List Nat) (u : Int) : Nat → Int → Int
  | 0, l => l
  | e + 1, l => lwF ρ K u e (if ulS ρ K (l + (2 ^ e : Nat)) ≤ u then l + (2 ^ e : Nat) else l)
def lwS (ρ : fG2) (t : Nat) : Int := lwF ρ (kdl ρ t) (ρ 43 t) 8 0
def flG (ρ : fG2) (t : Nat) : Nat → Int := gN (kdl ρ t) (ρ 41) (ρ 6) (ρ 43 t - ulS ρ (kdl ρ t) (lwS ρ t)).toNat (fun k => if k ∈ kdl ρ t then ulL ρ (lwS ρ t) k else ρ 46 k)
def flS (ρ : fG2) (t : Nat) : fG2 := cpK (sF ρ 46 (flG ρ t)) (kdl ρ t) 43 (flG ρ t)
theorem mem_take_s {K : List Nat} {i k : Nat} (hi : i < K.length) : k ∈ K.take (i + 1) ↔ k ∈ K.take i ∨ k = K[i] := by
  have ht : K.take (i + 1) = K.take i ++ [K[i]] := by rw [List.take_add_one, List.getElem?_eq_getElem hi]; rfl
  rw [ht]
  exact List.mem_append.trans (or_congr Iff.rfl List.mem_singleton)
theorem upd_take {K : List Nat} {i : Nat} {g v : Nat → Int} (hi : i < K.length) : (fun k => if k = K[i] then v K[i] else (if k ∈ K.take i then v k else g k)) = (fun k => if k ∈ K.take (i + 1) then v k else g k) := by
  funext k
  by_cases c : k = K[i]
  · rw [if_pos c, if_pos ((mem_take_s hi).mpr (Or.inr c)), c]
  · rw [if_neg c]
    by_cases d : k ∈ K.take i
    · rw [if_pos d, if_pos ((mem_take_s hi).mpr (Or.inl d))]
    · rw [if_neg d, if_neg (fun z => ((mem_take_s hi).mp z).elim d c)]
theorem take0 {K : List Nat} {g v : Nat → Int} : (fun k => if k ∈ K.take 0 then v k else g k) = g := by funext k; simp
theorem kdl_l (h4 : ρ 4 0 ≤ 10) {t : Int} : (kdl ρ t).length ≤ 10 := by
  unfold kdl
  have := List.length_filter_le (fun c : Nat => decide (ρ 5 c = t)) (List.range (ρ 4 0).toNat)
  rw [List.length_range] at this; omega
theorem gN_B {K : List Nat} {u : Nat} {g : Nat → Int} (hB : okB ρ) (hg : ∀ k, -100000000 ≤ g k ∧ g k ≤ 100000000) (k : Nat) : -100000000 ≤ gN K (ρ 41) (ρ 6) u g k ∧ gN K (ρ 41) (ρ 6) u g k ≤ 100000000 := by
  have h1 := gN_b (K := K) (d := ρ 41) (w := ρ 6) u g k; have h2 := hg k; have h3 := hB 41 k; omega
theorem sF_B (hB : okB ρ) {f : Nat} {g : Nat → Int} (hg : ∀ k, -100000000 ≤ g k ∧ g k ≤ 100000000) : okB (sF ρ f g) := by
  intro i k; unfold sF; split
  · exact hg k
  · exact hB i k
theorem sF_row {f i : Nat} {g : Nat → Int} (h : i ≠ f) : sF ρ f g i = ρ i := by funext k; exact sF_ne h
theorem sF_at' {f : Nat} {g : Nat → Int} : sF ρ f g f = g := by funext k; exact sF_at
end
section
variable {P : Nat → Prop} {F S S' : fMS} {x n B : Nat} {T J V L E E' : Nat → Nat} {ρ : fG2} {al ln vi : List Nat}
theorem cx_deal (hB : okB ρ) (hw : ∀ k, 0 ≤ ρ 6 k ∧ ρ 6 k ≤ 9) (h4 : ρ 4 0 ≤ 10) (h : RB P F S x T J V L E ρ al ln vi) (hn : rmB S E n B) {t : Nat} (ht : (t : Int) < ρ 4 0) {post : fMS → Nat → Prop}
    (hp : ∀ S', RB P F S' x T J V L E (dcS ρ t) al ln vi → rmB S' E n B → post S' n) : wp_X2_dealToChildren S n (T t) post := by
  obtain ⟨K, hK⟩ : ∃ K, K = kdl ρ t := ⟨_, rfl⟩
  have hKm : ∀ k ∈ K, (k : Int) < ρ 4 0 := fun k hk => by rw [hK] at hk; exact (kdl_mem.mp hk).1
  have hKl : K.length ≤ 10 := by rw [hK]; exact kdl_l h4
  obtain ⟨G, hG⟩ : ∃ G, G = dcG ρ t := ⟨_, rfl⟩
  have hGB : ∀ k, -100000000 ≤ G k ∧ G k ≤ 100000000 := by
    rw [hG]; exact gN_B hB (fun k => by have := hB 46 k; split <;> omega)
  have hps : ∀ S', RB P F S' x T J V L E (sF (sF ρ 46 G) 42 (fun k => if k ∈ K then G k else ρ 42 k)) al ln vi → rmB S' E n B → post S' n := by
    intro S' h' hn'
    refine hp S' ?_ hn'
    unfold dcS cpK
    rw [← hG, ← hK]
    have : (sF ρ 46 G) 42 = ρ 42 := sF_row (by decide)
    rw [this]; exact h'
  -- the shares written
  have l3 : ∀ (d i : Nat) (S : fMS), i + d = K.length → RB P F S x T J V L E (sF (sF ρ 46 G) 42 (fun k => if k ∈ K.take i then G k else ρ 42 k)) al ln vi → rmB S E n B → wB_X2_dealToChildren_44 post (T t) (d + 1) S n (iI i) := by
    intro d; induction d with
    | zero =>
      intro i S hi h hn
      have eK : kdl (sF (sF ρ 46 G) 42 (fun k => if k ∈ K.take i then G k else ρ 42 k)) t = K := by rw [kdl_sF (by decide) (by decide), kdl_sF (by decide) (by decide), hK]
      have ht' : (t : Int) < sF (sF ρ 46 G) 42 (fun k => if k ∈ K.take i then G k else ρ 42 k) 4 0 := ht
      simp only [wB_X2_dealToChildren_44]
      simp (disch := omega) only [h.Tk t ht', true_and, h.tc t ht', Option.some.injEq, exists_eq_left', h.kc t ht', h.sc t ht', eK, iI_le]
      refine ⟨fun _ => hps S ?_ hn, fun c => absurd c (by omega)⟩
      rw [List.take_of_length_le (by omega)] at h; exact h
    | succ d ih =>
      intro i S hi h hn
      have eK : kdl (sF (sF ρ 46 G) 42 (fun k => if k ∈ K.take i then G k else ρ 42 k)) t = K := by rw [kdl_sF (by decide) (by decide), kdl_sF (by decide) (by decide), hK]
      have ht' : (t : Int) < sF (sF ρ 46 G) 42 (fun k => if k ∈ K.take i then G k else ρ 42 k) 4 0 := ht
      have hgd : K.getD i 0 = K[i] := by rw [List.getD_eq_getElem?_getD, List.getElem?_eq_getElem (by omega)]; rfl
      have hkn := hKm K[i] (List.getElem_mem _)
      have hkn' : (K[i] : Int) < sF (sF ρ 46 G) 42 (fun k => if k ∈ K.take i then G k else ρ 42 k) 4 0 := hkn
      have hw2 := h.w9 K[i] (G K[i]) hkn'
      rw [up_sF, sF_sF, sF_at', upd_take (by omega)] at hw2
      have e46 : sF (sF ρ 46 G) 42 (fun k => if k ∈ K.take i then G k else ρ 42 k) 46 K[i] = G K[i] := by rw [sF_ne (by decide), sF_at]
      rw [wB_X2_dealToChildren_44]
      simp (disch := omega) only [h.Tk t ht', true_and, h.tc t ht', Option.some.injEq, exists_eq_left', h.kc t ht', h.sc t ht', eK, iI_le]
      refine ⟨fun c => absurd c (by omega), fun _ => ?_⟩
      rw [h.gc t i ht' (by rw [eK]; omega), eK, hgd]
      simp only [Option.some.injEq, exists_eq_left', h.Tk _ hkn', true_and, h.t13 _ hkn', e46, iI_1, iI_add]
      rintro _ rfl
      exact ih (i + 1) _ (by omega) hw2 (hn.w rfl)
  have l1 : ∀ (d i : Nat) (S : fMS), i + d = K.length → RB P F S x T J V L E (sF ρ 46 (fun k => if k ∈ K.take i then 0 else ρ 46 k)) al ln vi → rmB S E n B → wB_X2_dealToChildren_2 post (T t) (d + 1) S n (iI i) := by
    intro d; induction d with
    | zero =>
      intro i S hi h hn
      obtain ⟨ψ, hψ⟩ : ∃ ψ, ψ = sF ρ 46 (fun k => if k ∈ K.take i then 0 else ρ 46 k) := ⟨_, rfl⟩
      rw [← hψ] at h
      have ro : ∀ j, j ≠ 46 → ψ j = ρ j := fun j hj => by rw [hψ]; exact sF_row hj
      have eK : kdl ψ t = K := by rw [hψ, kdl_sF (by decide) (by decide), hK]
      have e4 : ψ 4 0 = ρ 4 0 := by rw [ro 4 (by decide)]
      have ht' : (t : Int) < ψ 4 0 := by rw [e4]; exact ht
      have e42 : ψ 42 t = ρ 42 t := by rw [ro 42 (by decide)]
      have b42 := hB 42 t
      have hBψ : okB ψ := by rw [hψ]; exact sF_B hB (fun k => by have := hB 46 k; split <;> omega)
      simp only [wB_X2_dealToChildren_2]
      simp (disch := omega) only [h.Tk t ht', true_and, h.tc t ht', Option.some.injEq, exists_eq_left', h.kc t ht', h.sc t ht', eK, iI_le, h.t9 t ht', e42]
      refine ⟨fun _ => ?_, fun c => absurd c (by omega)⟩
      refine cx_giveOne (by rw [e4]; exact h4) ht' (by rw [ro 6 (by decide)]; exact hw) b42 h hn hBψ (fun S' h' hn' => ⟨_, l3 K.length 0 S' (by omega) ?_ hn'⟩)
      have e46 : ψ 46 = (fun k => if k ∈ K then 0 else ρ 46 k) := by rw [hψ, sF_at', List.take_of_length_le (by omega)]
      rw [eK, ro 41 (by decide), ro 6 (by decide), e46, hψ, sF_sF] at h'
      have gg : gN K (ρ 41) (ρ 6) (ρ 42 t).toNat (fun k => if k ∈ K then 0 else ρ 46 k) = G := by rw [hG, hK]; rfl
      rw [gg] at h'
      have : sF (sF ρ 46 G) 42 (fun k => if k ∈ K.take 0 then G k else ρ 42 k) = sF ρ 46 G := by
        rw [take0]
        have e : ρ 42 = (sF ρ 46 G) 42 := (sF_row (by decide)).symm
        rw [e, sF_self]
      rw [this]; exact h'
    | succ d ih =>
      intro i S hi h hn
      have eK : kdl (sF ρ 46 (fun k => if k ∈ K.take i then 0 else ρ 46 k)) t = K := by rw [kdl_sF (by decide) (by decide), hK]
      have ht' : (t : Int) < sF ρ 46 (fun k => if k ∈ K.take i then 0 else ρ 46 k) 4 0 := ht
      have hgd : K.getD i 0 = K[i] := by rw [List.getD_eq_getElem?_getD, List.getElem?_eq_getElem (by omega)]; rfl
      have hkn := hKm K[i] (List.getElem_mem _)
      have hkn' : (K[i] : Int) < sF ρ 46 (fun k => if k ∈ K.take i then 0 else ρ 46 k) 4 0 := hkn
      have hw2 := h.w13 K[i] 0 hkn'
      rw [up_sF, sF_sF, sF_at'] at hw2
      have hu := upd_take (K := K) (i := i) (g := ρ 46) (v := fun _ => 0) (by omega)
      rw [hu] at hw2
      rw [wB_X2_dealToChildren_2]
      simp (disch := omega) only [h.Tk t ht', true_and, h.tc t ht', Option.some.injEq, exists_eq_left', h.kc t ht', h.sc t ht', eK, iI_le]
      refine ⟨fun c => absurd c (by omega), fun _ => ?_⟩
      rw [h.gc t i ht' (by rw [eK]; omega), eK, hgd]
      simp only [Option.some.injEq, exists_eq_left', h.Tk _ hkn', true_and, iI_1, iI_add]
      rintro _ rfl
      exact ih (i + 1) _ (by omega) hw2 (hn.w rfl)
  refine ⟨_, l1 K.length 0 S (by omega) ?_ hn⟩
  have hz := take0 (K := K) (g := ρ 46) (v := fun _ => 0)
  rw [hz, sF_self]; exact h
theorem lv_b {lv w : Int} (hl : 0 ≤ lv ∧ lv ≤ 1000) (hw : 0 ≤ w ∧ w ≤ 9) : 0 ≤ lv * w ∧ lv * w ≤ 9000 := ⟨Int.mul_nonneg hl.1 hw.1, Int.mul_le_mul hl.2 hw.2 hw.1 (by omega)⟩
theorem ulL_b (hw : ∀ k, 0 ≤ ρ 6 k ∧ ρ 6 k ≤ 9) {lv : Int} (hl : 0 ≤ lv ∧ lv ≤ 1000) {k : Nat} (hd : 0 ≤ ρ 41 k) : 0 ≤ ulL ρ lv k ∧ ulL ρ lv k ≤ 9000 := by
  have := lv_b hl (hw k); unfold ulL; split <;> omega
theorem cx_unitsAt (hB : okB ρ) (hw : ∀ k, 0 ≤ ρ 6 k ∧ ρ 6 k ≤ 9) (h : RB P F S x T J V L E ρ al ln vi) {k : Nat} (hk : (k : Int) < ρ 4 0) {lv : Int} (hl : 0 ≤ lv ∧ lv ≤ 1000) {post : Int32 → Prop} (hp : post (iI (ulL ρ lv k))) : wp_X2_unitsAtLevel S (T k) (iI lv) post := by
  have m := lv_b hl (hw k); have b := hB 41 k
  unfold wp_X2_unitsAtLevel
  rw [h.Tk k hk, true_and, h.t3 k hk, h.t8 k hk, iI_mul, iI_ite (by omega) (by omega) (by omega) (by omega)]
  unfold ulL at hp
  split
  · rename_i c; rw [if_pos c] at hp; exact hp
  · rename_i c; rw [if_neg c] at hp; exact hp
theorem cx_childUnits (hB : okB ρ) (hw : ∀ k, 0 ≤ ρ 6 k ∧ ρ 6 k ≤ 9) (h4 : ρ 4 0 ≤ 10) (h : RB P F S x T J V L E ρ al ln vi) {t : Nat} (ht : (t : Int) < ρ 4 0) {lv : Int} (hl : 0 ≤ lv ∧ lv ≤ 1000) {post : Int32 → Prop} (hp : post (iI (ulS ρ (kdl ρ t) lv))) : wp_X2_childrenUnitsAtLevel S (T t) (iI lv) post := by
  obtain ⟨K, hK⟩ : ∃ K, K = kdl ρ t := ⟨_, rfl⟩
  have hKm : ∀ k ∈ K, (k : Int) < ρ 4 0 := fun k hk => by rw [hK] at hk; exact (kdl_mem.mp hk).1
  have hKl : K.length ≤ 10 := by rw [hK]; exact kdl_l h4
  rw [← hK] at hp
  have key : ∀ (d i : Nat) (acc : Int), i + d = K.length → acc + lsm (ulL ρ lv) (K.drop i) = ulS ρ K lv → wB_X2_childrenUnitsAtLevel_4 S post (T t) (iI lv) (d + 1) (iI acc) (iI i) := by
    intro d; induction d with
    | zero =>
      intro i acc hi hx
      rw [List.drop_eq_nil_of_le (by omega)] at hx
      simp only [lsm, Int.add_zero] at hx
      simp only [wB_X2_childrenUnitsAtLevel_4]
      simp (disch := omega) only [h.Tk t ht, true_and, h.tc t ht, Option.some.injEq, exists_eq_left', h.kc t ht, h.sc t ht, ← hK, iI_le]
      refine ⟨fun _ => ?_, fun c => absurd c (by omega)⟩
      rw [hx]; exact hp
    | succ d ih =>
      intro i acc hi hx
      have hd : K.drop i = K[i] :: K.drop (i + 1) := List.drop_eq_getElem_cons (by omega)
      have hgd : K.getD i 0 = K[i] := by rw [List.getD_eq_getElem?_getD, List.getElem?_eq_getElem (by omega)]; rfl
      have hkn := hKm K[i] (List.getElem_mem _)
      rw [hd] at hx
      simp only [lsm] at hx
      rw [wB_X2_childrenUnitsAtLevel_4]
      simp (disch := omega) only [h.Tk t ht, true_and, h.tc t ht, Option.some.injEq, exists_eq_left', h.kc t ht, h.sc t ht, ← hK, iI_le]
      refine ⟨fun c => absurd c (by omega), fun _ => ?_⟩
      rw [h.gc t i ht (by rw [← hK]; omega), ← hK, hgd]
      simp only [Option.some.injEq, exists_eq_left', h.Tk _ hkn, true_and]
      refine cx_unitsAt hB hw h hkn hl ?_
      simp only [iI_1, iI_add]
      rintro _ rfl _ rfl
      exact ih (i + 1) _ (by omega) (by omega)
  exact ⟨_, key K.length 0 0 (by omega) (by unfold ulS; simp)⟩
theorem ulS_b (hw : ∀ k, 0 ≤ ρ 6 k ∧ ρ 6 k ≤ 9) {lv : Int} (hl : 0 ≤ lv ∧ lv ≤ 1000) : ∀ K : List Nat, (∀ k ∈ K, 0 ≤ ρ 41 k) → 0 ≤ ulS ρ K lv ∧ ulS ρ K lv ≤ 9000 * K.length := by
  intro K; induction K with
  | nil => intro _; simp [ulS, lsm]
  | cons k K ih =>
    intro hd
    have h1 := ih (fun i hi => hd i (List.mem_cons_of_mem _ hi))
    have h2 := ulL_b hw hl (hd k List.mem_cons_self)
    unfold ulS at h1 ⊢
    simp only [lsm, List.length_cons]
    push_cast
    omega
theorem cx_level {t : Nat} (hB : okB ρ) (hw : ∀ k, 0 ≤ ρ 6 k ∧ ρ 6 k ≤ 9) (h4 : ρ 4 0 ≤ 10) (hd : ∀ k ∈ kdl ρ t, 0 ≤ ρ 41 k) (h : RB P F S x T J V L E ρ al ln vi) (ht : (t : Int) < ρ 4 0) {u : Int} (hu : -100000000 ≤ u ∧ u ≤ 100000000) {post : Int32 → Prop} (hp : post (iI (lwF ρ (kdl ρ t) u 8 0))) : wp_X2_levelWithin S (T t) (iI u) post := by
  have hKl := kdl_l (t := (t : Int)) h4
  have key : ∀ (e : Nat) (l : Int), e ≤ 8 → 0 ≤ l → l + (2 ^ e : Nat) ≤ 256 → lwF ρ (kdl ρ t) u e l = lwF ρ (kdl ρ t) u 8 0 → wB_X2_levelWithin_6 S post (T t) (iI u) (e + 1) (iI l) (iI ((2 ^ e / 2 : Nat) : Int)) := by
    intro e; induction e with
    | zero =>
      intro l _ _ _ hx
      simp only [lwF] at hx
      simp only [wB_X2_levelWithin_6]
      refine ⟨fun _ => by rw [hx]; exact hp, fun c => absurd (by decide) c⟩
    | succ e ih =>
      intro l he l0 l1 hx
      simp only [lwF] at hx
      have ep : 2 ^ (e + 1) = 2 ^ e * 2 := Nat.pow_succ 2 e
      have e1 : 1 ≤ 2 ^ e := Nat.one_le_two_pow
      have e2 : 2 ^ (e + 1) / 2 = 2 ^ e := by omega
      obtain ⟨s, hs⟩ : ∃ s, s = 2 ^ e := ⟨_, rfl⟩
      rw [e2]
      rw [ep] at l1
      rw [← hs] at hx e1 l1 ⊢
      have hb := ulS_b hw (lv := l + (s : Nat)) (by omega) (kdl ρ t) hd
      have go : ∀ l', l' = (if ulS ρ (kdl ρ t) (l + (s : Nat)) ≤ u then l + (s : Nat) else l) → wB_X2_levelWithin_25 S post (fun z0 z1 => wB_X2_levelWithin_6 S post (T t) (iI u) (e + 1) z0 z1) (T t) (iI u) (iI l') (iI (s : Nat)) := by
        intro l' hl'
        have hl'' : l' = l ∨ l' = l + s := by rw [hl']; split <;> omega
        unfold wB_X2_levelWithin_25
        rw [show (2 : Int32) = iI 2 from rfl, iI_div (by omega) (by omega) (by omega) (by omega)]
        rintro _ rfl
        have := ih l' (by omega) (by omega) (by rw [← hs]; omega) (by rw [hl']; exact hx)
        rw [← hs] at this
        exact this
      rw [wB_X2_levelWithin_6]
      simp (disch := omega) only [iI_0, iI_le, h.Tk t ht, true_and, iI_add]
      refine ⟨fun c => absurd c (by omega), fun _ => cx_childUnits hB hw h4 h ht (by omega) ?_⟩
      simp (disch := omega) only [iI_lt]
      refine ⟨fun c => go l (if_neg (by omega)).symm, fun c => ?_⟩
      rintro _ rfl
      exact go _ (if_pos (by omega)).symm
  exact ⟨_, key 8 0 (by omega) (by omega) (by decide) rfl⟩
theorem lwF_b (K : List Nat) (u : Int) : ∀ (e : Nat) (l : Int), 0 ≤ l → 0 ≤ lwF ρ K u e l ∧ lwF ρ K u e l ≤ l + (2 ^ e : Nat) - 1 := by
  intro e; induction e with
  | zero => intro l hl; simp only [lwF]; omega
  | succ e ih =>
    intro l hl
    simp only [lwF]
    have e1 : 1 ≤ 2 ^ e := Nat.one_le_two_pow
    have ep : 2 ^ (e + 1) = 2 ^ e * 2 := Nat.pow_succ 2 e
    have h1 := ih (if ulS ρ K (l + (2 ^ e : Nat)) ≤ u then l + (2 ^ e : Nat) else l) (by split <;> omega)
    refine ⟨h1.1, ?_⟩
    have h2 := h1.2
    split at h2 <;> rename_i c
    · rw [if_pos c]; omega
    · rw [if_neg c]; omega
theorem lwF_le (K : List Nat) (u : Int) : ∀ (e : Nat) (l : Int), ulS ρ K l ≤ u → ulS ρ K (lwF ρ K u e l) ≤ u := by
  intro e; induction e with
  | zero => intro l hl; exact hl
  | succ e ih =>
    intro l hl
    simp only [lwF]
    refine ih _ ?_
    split
    · assumption
    · exact hl
theorem cx_fill {t : Nat} (hB : okB ρ) (hw : ∀ k, 0 ≤ ρ 6 k ∧ ρ 6 k ≤ 9) (h4 : ρ 4 0 ≤ 10) (hd : ∀ k ∈ kdl ρ t, 0 ≤ ρ 41 k) (hu2 : ρ 43 t ≤ 99000000 ∧ -99000000 ≤ ρ 43 t) (h : RB P F S x T J V L E ρ al ln vi) (hn : rmB S E n B) (ht : (t : Int) < ρ 4 0) {post : fMS → Nat → Prop}
    (hp : ∀ S', RB P F S' x T J V L E (flS ρ t) al ln vi → rmB S' E n B → post S' n) : wp_X2_fillChildren S n (T t) post := by
  obtain ⟨K, hK⟩ : ∃ K, K = kdl ρ t := ⟨_, rfl⟩
  have hKm : ∀ k ∈ K, (k : Int) < ρ 4 0 := fun k hk => by rw [hK] at hk; exact (kdl_mem.mp hk).1
  have hKl : K.length ≤ 10 := by rw [hK]; exact kdl_l h4
  have htK : t ∉ K ∨ t ∈ K := (Classical.em _).symm
  obtain ⟨lv, hlv⟩ : ∃ lv, lv = lwS ρ t := ⟨_, rfl⟩
  have lb : 0 ≤ lv ∧ lv ≤ 255 := by
    have := lwF_b (ρ := ρ) (kdl ρ t) (ρ 43 t) 8 0 (by omega)
    rw [hlv]; unfold lwS; simp at this; omega
  obtain ⟨G, hG⟩ : ∃ G, G = flG ρ t := ⟨_, rfl⟩
  have hGB : ∀ k, -100000000 ≤ G k ∧ G k ≤ 100000000 := by
    rw [hG]
    refine gN_B hB (fun k => ?_)
    have := hB 46 k
    split
    · rename_i c
      have := ulL_b hw (lv := lv) (by omega) (hd k c)
      rw [← hlv]; omega
    · omega
  have hps : ∀ S', RB P F S' x T J V L E (sF (sF ρ 46 G) 43 (fun k => if k ∈ K then G k else ρ 43 k)) al ln vi → rmB S' E n B → post S' n := by
    intro S' h' hn'
    refine hp S' ?_ hn'
    unfold flS cpK
    rw [← hG, ← hK]
    have : (sF ρ 46 G) 43 = ρ 43 := sF_row (by decide)
    rw [this]; exact h'
  have l3 : ∀ (d i : Nat) (S : fMS), i + d = K.length → RB P F S x T J V L E (sF (sF ρ 46 G) 43 (fun k => if k ∈ K.take i then G k else ρ 43 k)) al ln vi → rmB S E n B → wB_X2_fillChildren_65 post (T t) (d + 1) S n (iI i) := by
    intro d; induction d with
    | zero =>
      intro i S hi h hn
      have eK : kdl (sF (sF ρ 46 G) 43 (fun k => if k ∈ K.take i then G k else ρ 43 k)) t = K := by rw [kdl_sF (by decide) (by decide), kdl_sF (by decide) (by decide), hK]
      have ht' : (t : Int) < sF (sF ρ 46 G) 43 (fun k => if k ∈ K.take i then G k else ρ 43 k) 4 0 := ht
      simp only [wB_X2_fillChildren_65]
      simp (disch := omega) only [h.Tk t ht', true_and, h.tc t ht', Option.some.injEq, exists_eq_left', h.kc t ht', h.sc t ht', eK, iI_le]
      refine ⟨fun _ => hps S ?_ hn, fun c => absurd c (by omega)⟩
      rw [List.take_of_length_le (by omega)] at h; exact h
    | succ d ih =>
      intro i S hi h hn
      have eK : kdl (sF (sF ρ 46 G) 43 (fun k => if k ∈ K.take i then G k else ρ 43 k)) t = K := by rw [kdl_sF (by decide) (by decide), kdl_sF (by decide) (by decide), hK]
      have ht' : (t : Int) < sF (sF ρ 46 G) 43 (fun k => if k ∈ K.take i then G k else ρ 43 k) 4 0 := ht
      have hgd : K.getD i 0 = K[i] := by rw [List.getD_eq_getElem?_getD, List.getElem?_eq_getElem (by omega)]; rfl
      have hkn := hKm K[i] (List.getElem_mem _)
      have hkn' : (K[i] : Int) < sF (sF ρ 46 G) 43 (fun k => if k ∈ K.take i then G k else ρ 43 k) 4 0 := hkn
      have hw2 := h.w10 K[i] (G K[i]) hkn'
      rw [up_sF, sF_sF, sF_at', upd_take (by omega)] at hw2
      have e46 : sF (sF ρ 46 G) 43 (fun k => if k ∈ K.take i then G k else ρ 43 k) 46 K[i] = G K[i] := by rw [sF_ne (by decide), sF_at]
      rw [wB_X2_fillChildren_65]
      simp (disch := omega) only [h.Tk t ht', true_and, h.tc t ht', Option.some.injEq, exists_eq_left', h.kc t ht', h.sc t ht', eK, iI_le]
      refine ⟨fun c => absurd c (by omega), fun _ => ?_⟩
      rw [h.gc t i ht' (by rw [eK]; omega), eK, hgd]
      simp only [Option.some.injEq, exists_eq_left', h.Tk _ hkn', true_and, h.t13 _ hkn', e46, iI_1, iI_add]
      rintro _ rfl
      exact ih (i + 1) _ (by omega) hw2 (hn.w rfl)
  -- units at the level don't look at what is given
  have uc : ∀ g, ulL (sF ρ 46 g) lv = ulL ρ lv := fun g => rfl
  have l1 : ∀ (d i : Nat) (S : fMS), i + d = K.length → RB P F S x T J V L E (sF ρ 46 (fun k => if k ∈ K.take i then ulL ρ lv k else ρ 46 k)) al ln vi → rmB S E n B → wB_X2_fillChildren_11 post (T t) (d + 1) S n (iI lv) (iI i) := by
    intro d; induction d with
    | zero =>
      intro i S hi h hn
      obtain ⟨ψ, hψ⟩ : ∃ ψ, ψ = sF ρ 46 (fun k => if k ∈ K.take i then ulL ρ lv k else ρ 46 k) := ⟨_, rfl⟩
      rw [← hψ] at h
      have ro : ∀ j, j ≠ 46 → ψ j = ρ j := fun j hj => by rw [hψ]; exact sF_row hj
      have eK : kdl ψ t = K := by rw [hψ, kdl_sF (by decide) (by decide), hK]
      have e4 : ψ 4 0 = ρ 4 0 := by rw [ro 4 (by decide)]
      have ht' : (t : Int) < ψ 4 0 := by rw [e4]; exact ht
      have e43 : ψ 43 t = ρ 43 t := by rw [ro 43 (by decide)]
      have hwψ : ∀ k, 0 ≤ ψ 6 k ∧ ψ 6 k ≤ 9 := by rw [ro 6 (by decide)]; exact hw
      have hdψ : ∀ k ∈ kdl ψ t, 0 ≤ ψ 41 k := by rw [eK, ro 41 (by decide), hK]; exact hd
      have hBψ : okB ψ := by
        rw [hψ]; refine sF_B hB (fun k => ?_)
        have := hB 46 k
        split
        · rename_i c
          have := ulL_b hw (lv := lv) (by omega) (hd k (by rw [← hK]; exact List.mem_of_mem_take c))
          omega
        · omega
      have eu : ulS ψ (kdl ψ t) lv = ulS ρ K lv := by
        rw [eK, hψ]; rfl
      have ub := ulS_b hw (lv := lv) (by omega) K (by rw [hK]; exact hd)
      simp only [wB_X2_fillChildren_11]
      simp (disch := omega) only [h.Tk t ht', true_and, h.tc t ht', Option.some.injEq, exists_eq_left', h.kc t ht', h.sc t ht', eK, iI_le]
      refine ⟨fun _ => ?_, fun c => absurd c (by omega)⟩
      refine cx_childUnits hBψ hwψ (by rw [e4]; exact h4) h ht' (by omega) ?_
      rw [eu, h.t10 t ht', e43, iI_sub]
      refine cx_giveOne (by rw [e4]; exact h4) ht' hwψ (by omega) h hn hBψ (fun S' h' hn' => ⟨_, l3 K.length 0 S' (by omega) ?_ hn'⟩)
      have e46 : ψ 46 = (fun k => if k ∈ K then ulL ρ lv k else ρ 46 k) := by rw [hψ, sF_at', List.take_of_length_le (by omega)]
      rw [eK, ro 41 (by decide), ro 6 (by decide), e46, hψ, sF_sF] at h'
      have gg : gN K (ρ 41) (ρ 6) (ρ 43 t - ulS ρ K lv).toNat (fun k => if k ∈ K then ulL ρ lv k else ρ 46 k) = G := by rw [hG, hK, hlv]; rfl
      rw [gg] at h'
      have : sF (sF ρ 46 G) 43 (fun k => if k ∈ K.take 0 then G k else ρ 43 k) = sF ρ 46 G := by
        rw [take0]
        have e : ρ 43 = (sF ρ 46 G) 43 := (sF_row (by decide)).symm
        rw [e, sF_self]
      rw [this]; exact h'
    | succ d ih =>
      intro i S hi h hn
      obtain ⟨ψ, hψ⟩ : ∃ ψ, ψ = sF ρ 46 (fun k => if k ∈ K.take i then ulL ρ lv k else ρ 46 k) := ⟨_, rfl⟩
      have hgd : K.getD i 0 = K[i] := by rw [List.getD_eq_getElem?_getD, List.getElem?_eq_getElem (by omega)]; rfl
      have hkn := hKm K[i] (List.getElem_mem _)
      rw [← hψ] at h
      have eK : kdl ψ t = K := by rw [hψ, kdl_sF (by decide) (by decide), hK]
      have ht' : (t : Int) < ψ 4 0 := by rw [hψ]; exact ht
      have hkn' : (K[i] : Int) < ψ 4 0 := by rw [hψ]; exact hkn
      have hwψ : ∀ k, 0 ≤ ψ 6 k ∧ ψ 6 k ≤ 9 := by rw [hψ]; exact hw
      have hBψ : okB ψ := by
        rw [hψ]; refine sF_B hB (fun k => ?_)
        have := hB 46 k
        split
        · rename_i c
          have := ulL_b hw (lv := lv) (by omega) (hd k (by rw [← hK]; exact List.mem_of_mem_take c))
          omega
        · omega
      have hw2 := h.w13 K[i] (ulL ρ lv K[i]) hkn'
      rw [hψ, up_sF, sF_sF, sF_at', upd_take (by omega)] at hw2
      have eul : ulL ψ lv K[i] = ulL ρ lv K[i] := by rw [hψ]; rfl
      rw [wB_X2_fillChildren_11]
      simp (disch := omega) only [h.Tk t ht', true_and, h.tc t ht', Option.some.injEq, exists_eq_left', h.kc t ht', h.sc t ht', eK, iI_le]
      refine ⟨fun c => absurd c (by omega), fun _ => ?_⟩
      rw [h.gc t i ht' (by rw [eK]; omega), eK, hgd]
      simp only [Option.some.injEq, exists_eq_left', h.Tk _ hkn', true_and]
      refine cx_unitsAt hBψ hwψ h hkn' (by omega) ?_
      rw [eul]
      simp only [iI_1, iI_add]
      rintro _ rfl
      exact ih (i + 1) _ (by omega) hw2 (hn.w rfl)
  unfold wp_X2_fillChildren
  rw [h.Tk t ht, true_and, h.t10 t ht]
  refine cx_level hB hw h4 hd h ht (by omega) ?_
  have : lwF ρ (kdl ρ t) (ρ 43 t) 8 0 = lv := by rw [hlv]; rfl
  rw [this]
  refine ⟨_, l1 K.length 0 S (by omega) ?_ hn⟩
  rw [take0, sF_self]; exact h
def shL (ρ : fG2) (t : Nat) : Int := lsm (ρ 42) (kdl ρ t)
theorem cx_sharesOf (h4 : ρ 4 0 ≤ 10) (h : RB P F S x T J V L E ρ al ln vi) {t : Nat} (ht : (t : Int) < ρ 4 0) {post : Int32 → Prop} (hp : post (iI (shL ρ t))) : wp_X2_sharesOfChildren S (T t) post := by
  obtain ⟨K, hK⟩ : ∃ K, K = kdl ρ t := ⟨_, rfl⟩
  have hKm : ∀ k ∈ K, (k : Int) < ρ 4 0 := fun k hk => by rw [hK] at hk; exact (kdl_mem.mp hk).1
  have hKl : K.length ≤ 10 := by rw [hK]; exact kdl_l h4
  unfold shL at hp
  rw [← hK] at hp
  have key : ∀ (d i : Nat) (acc : Int), i + d = K.length → acc + lsm (ρ 42) (K.drop i) = lsm (ρ 42) K → wB_X2_sharesOfChildren_4 S post (T t) (d + 1) (iI acc) (iI i) := by
    intro d; induction d with
    | zero =>
      intro i acc hi hx
      rw [List.drop_eq_nil_of_le (by omega)] at hx
      simp only [lsm, Int.add_zero] at hx
      simp only [wB_X2_sharesOfChildren_4]
      simp (disch := omega) only [h.Tk t ht, true_and, h.tc t ht, Option.some.injEq, exists_eq_left', h.kc t ht, h.sc t ht, ← hK, iI_le]
      refine ⟨fun _ => ?_, fun c => absurd c (by omega)⟩
      rw [hx]; exact hp
    | succ d ih =>
      intro i acc hi hx
      have hd : K.drop i = K[i] :: K.drop (i + 1) := List.drop_eq_getElem_cons (by omega)
      have hgd : K.getD i 0 = K[i] := by rw [List.getD_eq_getElem?_getD, List.getElem?_eq_getElem (by omega)]; rfl
      have hkn := hKm K[i] (List.getElem_mem _)
      rw [hd] at hx
      simp only [lsm] at hx
      rw [wB_X2_sharesOfChildren_4]
      simp (disch := omega) only [h.Tk t ht, true_and, h.tc t ht, Option.some.injEq, exists_eq_left', h.kc t ht, h.sc t ht, ← hK, iI_le]
      refine ⟨fun c => absurd c (by omega), fun _ => ?_⟩
      rw [h.gc t i ht (by rw [← hK]; omega), ← hK, hgd]
      simp only [Option.some.injEq, exists_eq_left', h.Tk _ hkn, true_and, h.t9 _ hkn, iI_1, iI_add]
      rintro _ rfl _ rfl
      exact ih (i + 1) _ (by omega) (by omega)
  exact ⟨_, key K.length 0 0 (by omega) (by simp)⟩
end
