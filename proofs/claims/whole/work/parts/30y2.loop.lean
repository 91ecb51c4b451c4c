-- ===== the law's loop =====
section
variable {S : fMS} {n B x m o1 o2 : Nat} {A : Nat → Nat} {θ : fG2}
theorem law_step {L : Nat} {sc : Nat → Int32} {d : Nat} {i : Int} {x5 : Int32} (hJ : JB x m o1 o2 A θ S n B) (hM : MI i θ) (hi : 0 ≤ i ∧ i < 512) (hb : B + 20 ≤ 20000) (v0 : vp_in x5 L) (v1 : vp_in (x5 + (1 : Int32)) L) (v2 : vp_in (x5 + (2 : Int32)) L) (v3 : vp_in (x5 + (3 : Int32)) L) (v4 : vp_in (x5 + (4 : Int32)) L) (hend : ¬ (Int32.ofNat L) - (5 : Int32) < x5)
    (hK : ∀ S n θ', JB x m o1 o2 A θ' S n (B + 20) → MI (i + 1) θ' → ∀ v22 : Int32, v22 = x5 + 5 → wB_L_law_28 L sc d S n (some x) (some m) (some o1) (some o2) v22) : wB_L_law_28 L sc (d + 1) S n (some x) (some m) (some o1) (some o2) x5 := by
  have ho2 := hJ.on2
  have hJ' : JB x m o1 o2 A θ S n (B + 20) := by
    obtain ⟨T, J, V, L, E, al, ln, vi, a1, a2, a3⟩ := hJ
    exact ⟨T, J, V, L, E, al, ln, vi, a1, ⟨by have := a2.1; omega, hb⟩, a3⟩
  rw [wB_L_law_28]
  refine ⟨fun c => absurd c hend, fun _ => ⟨v0, ?_⟩⟩
  refine ⟨fun _ => hK S n θ hJ' (MI_s hM), ?_, ?_, ?_, ?_, ?_, ?_, ?_, ?_, ?_, ?_, ?_, ?_, ?_, ?_, ?_, ?_, ?_, ?_, ?_, ?_, ?_, ?_, ?_, ?_, ?_, ?_, ?_, ?_, ?_, ?_, ?_⟩
  · intro _
    exact ⟨v1, v2, lo_addTeam (K := fun S n => ∀ v22 : Int32, v22 = x5 + 5 → wB_L_law_28 L sc d S n (some x) (some m) (some o1) (some o2) v22) hJ hM hi hb hK (fun v7 S8 n9 h5 hR => ⟨v1, v2, m, rfl, h5, hR⟩)⟩
  · intro _
    exact ⟨v1, v2, lo_setWeight (K := fun S n => ∀ v22 : Int32, v22 = x5 + 5 → wB_L_law_28 L sc d S n (some x) (some m) (some o1) (some o2) v22) hJ hM hi hb hK (fun v7 S8 n9 h5 hR => ⟨v1, v2, m, rfl, h5, hR⟩)⟩
  · intro _
    exact ⟨v1, v2, lo_setLimit (K := fun S n => ∀ v22 : Int32, v22 = x5 + 5 → wB_L_law_28 L sc d S n (some x) (some m) (some o1) (some o2) v22) hJ hM hi hb hK (fun v7 S8 n9 h5 hR => ⟨v1, v2, m, rfl, h5, hR⟩)⟩
  · intro _
    exact ⟨v1, lo_setCapacity (K := fun S n => ∀ v22 : Int32, v22 = x5 + 5 → wB_L_law_28 L sc d S n (some x) (some m) (some o1) (some o2) v22) hJ hM hi hb hK (fun v7 S8 n9 h5 hR => ⟨v1, m, rfl, h5, hR⟩)⟩
  · intro _
    exact ⟨v1, lo_setHalfTime (K := fun S n => ∀ v22 : Int32, v22 = x5 + 5 → wB_L_law_28 L sc d S n (some x) (some m) (some o1) (some o2) v22) hJ hM hi hb hK (fun v7 S8 n9 h5 hR => ⟨v1, m, rfl, h5, hR⟩)⟩
  · intro _
    exact (fun y => ⟨x, rfl, y.1, y.2⟩) (lo_teams (K := fun S n => ∀ v22 : Int32, v22 = x5 + 5 → wB_L_law_28 L sc d S n (some x) (some m) (some o1) (some o2) v22) hJ hM hi hb hK (fun v h5 hR => ⟨m, rfl, h5, hR⟩))
  · intro _
    exact ⟨v1, lo_parentOf (K := fun S n => ∀ v22 : Int32, v22 = x5 + 5 → wB_L_law_28 L sc d S n (some x) (some m) (some o1) (some o2) v22) hJ hM hi hb hK (fun v7 S8 n9 h5 hR => ⟨v1, m, rfl, h5, hR⟩)⟩
  · intro _
    exact ⟨v1, lo_children (K := fun S n => ∀ v22 : Int32, v22 = x5 + 5 → wB_L_law_28 L sc d S n (some x) (some m) (some o1) (some o2) v22) hJ hM hi hb hK (fun v7 S8 n9 h5 hR => ⟨v1, m, rfl, h5, hR⟩)⟩
  · intro _
    exact ⟨v1, v2, v3, lo_submit (K := fun S n => ∀ v22 : Int32, v22 = x5 + 5 → wB_L_law_28 L sc d S n (some x) (some m) (some o1) (some o2) v22) hJ hM hi hb hK (fun v7 S8 n9 h5 hR => ⟨v1, v2, v3, m, rfl, h5, hR⟩)⟩
  · intro _
    exact ⟨v1, lo_cancel (K := fun S n => ∀ v22 : Int32, v22 = x5 + 5 → wB_L_law_28 L sc d S n (some x) (some m) (some o1) (some o2) v22) hJ hM hi hb hK (fun v7 S8 n9 h5 hR => ⟨v1, m, rfl, h5, hR⟩)⟩
  · intro _
    exact ⟨v1, lo_pass (K := fun S n => ∀ v22 : Int32, v22 = x5 + 5 → wB_L_law_28 L sc d S n (some x) (some m) (some o1) (some o2) v22) hJ hM hi hb hK (fun v7 S8 n9 h5 hR => ⟨v1, m, rfl, h5, hR⟩)⟩
  · intro _
    exact (fun y => ⟨x, rfl, y.1, y.2⟩) (lo_tick (K := fun S n => ∀ v22 : Int32, v22 = x5 + 5 → wB_L_law_28 L sc d S n (some x) (some m) (some o1) (some o2) v22) hJ hM hi hb hK (fun v h5 hR => ⟨m, rfl, h5, hR⟩))
  · intro _
    exact (fun y => ⟨x, rfl, y.1, y.2⟩) (lo_jobs (K := fun S n => ∀ v22 : Int32, v22 = x5 + 5 → wB_L_law_28 L sc d S n (some x) (some m) (some o1) (some o2) v22) hJ hM hi hb hK (fun v h5 hR => ⟨m, rfl, h5, hR⟩))
  · intro _
    exact ⟨v1, lo_stateOf (K := fun S n => ∀ v22 : Int32, v22 = x5 + 5 → wB_L_law_28 L sc d S n (some x) (some m) (some o1) (some o2) v22) hJ hM hi hb hK (fun v7 S8 n9 h5 hR => ⟨v1, m, rfl, h5, hR⟩)⟩
  · intro _
    exact ⟨v1, lo_toGo (K := fun S n => ∀ v22 : Int32, v22 = x5 + 5 → wB_L_law_28 L sc d S n (some x) (some m) (some o1) (some o2) v22) hJ hM hi hb hK (fun v7 S8 n9 h5 hR => ⟨v1, m, rfl, h5, hR⟩)⟩
  · intro _
    exact ⟨v1, lo_stops (K := fun S n => ∀ v22 : Int32, v22 = x5 + 5 → wB_L_law_28 L sc d S n (some x) (some m) (some o1) (some o2) v22) hJ hM hi hb hK (fun v7 S8 n9 h5 hR => ⟨v1, m, rfl, h5, hR⟩)⟩
  · intro _
    exact ⟨v1, lo_firstOf (K := fun S n => ∀ v22 : Int32, v22 = x5 + 5 → wB_L_law_28 L sc d S n (some x) (some m) (some o1) (some o2) v22) hJ hM hi hb hK (fun v7 S8 n9 h5 hR => ⟨v1, m, rfl, h5, hR⟩)⟩
  · intro _
    exact ⟨v1, lo_inLine (K := fun S n => ∀ v22 : Int32, v22 = x5 + 5 → wB_L_law_28 L sc d S n (some x) (some m) (some o1) (some o2) v22) hJ hM hi hb hK (fun v7 S8 n9 h5 hR => ⟨v1, m, rfl, h5, hR⟩)⟩
  · intro _
    exact ⟨v1, v2, v3, v4, lo_reserve (K := fun S n => ∀ v22 : Int32, v22 = x5 + 5 → wB_L_law_28 L sc d S n (some x) (some m) (some o1) (some o2) v22) hJ hM hi hb hK (fun v7 S8 n9 h5 hR => ⟨v1, v2, v3, v4, m, rfl, h5, hR⟩)⟩
  · intro _
    exact ⟨v1, v2, v3, lo_drop (K := fun S n => ∀ v22 : Int32, v22 = x5 + 5 → wB_L_law_28 L sc d S n (some x) (some m) (some o1) (some o2) v22) hJ hM hi hb hK (fun v7 S8 n9 h5 hR => ⟨v1, v2, v3, m, rfl, h5, hR⟩)⟩
  · intro _
    exact ⟨v1, lo_reserved (K := fun S n => ∀ v22 : Int32, v22 = x5 + 5 → wB_L_law_28 L sc d S n (some x) (some m) (some o1) (some o2) v22) hJ hM hi hb hK (fun v7 S8 n9 h5 hR => ⟨v1, m, rfl, h5, hR⟩)⟩
  · intro _
    exact ⟨v1, lo_running (K := fun S n => ∀ v22 : Int32, v22 = x5 + 5 → wB_L_law_28 L sc d S n (some x) (some m) (some o1) (some o2) v22) hJ hM hi hb hK (fun v7 S8 n9 h5 hR => ⟨v1, m, rfl, h5, hR⟩)⟩
  · intro _
    exact ⟨v1, lo_demand (K := fun S n => ∀ v22 : Int32, v22 = x5 + 5 → wB_L_law_28 L sc d S n (some x) (some m) (some o1) (some o2) v22) hJ hM hi hb hK (fun v7 S8 n9 h5 hR => ⟨v1, m, rfl, h5, hR⟩)⟩
  · intro _
    exact ⟨v1, lo_share (K := fun S n => ∀ v22 : Int32, v22 = x5 + 5 → wB_L_law_28 L sc d S n (some x) (some m) (some o1) (some o2) v22) hJ hM hi hb hK (fun v7 S8 n9 h5 hR => ⟨v1, m, rfl, h5, hR⟩)⟩
  · intro _
    exact ⟨v1, lo_shareByLevels (K := fun S n => ∀ v22 : Int32, v22 = x5 + 5 → wB_L_law_28 L sc d S n (some x) (some m) (some o1) (some o2) v22) hJ hM hi hb hK (fun v7 S8 n9 h5 hR => ⟨v1, m, rfl, h5, hR⟩)⟩
  · intro _
    exact ⟨v1, lo_due (K := fun S n => ∀ v22 : Int32, v22 = x5 + 5 → wB_L_law_28 L sc d S n (some x) (some m) (some o1) (some o2) v22) hJ hM hi hb hK (fun v7 S8 n9 h5 hR => ⟨v1, m, rfl, h5, hR⟩)⟩
  · intro _
    exact ⟨v1, lo_freeFor (K := fun S n => ∀ v22 : Int32, v22 = x5 + 5 → wB_L_law_28 L sc d S n (some x) (some m) (some o1) (some o2) v22) hJ hM hi hb hK (fun v7 S8 n9 h5 hR => ⟨v1, m, rfl, h5, hR⟩)⟩
  · intro _
    exact ⟨v1, lo_use (K := fun S n => ∀ v22 : Int32, v22 = x5 + 5 → wB_L_law_28 L sc d S n (some x) (some m) (some o1) (some o2) v22) hJ hM hi hb hK (fun v7 S8 n9 h5 hR => ⟨v1, m, rfl, h5, hR⟩)⟩
  · intro _
    exact lo_usedShare (K := fun S n => ∀ v22 : Int32, v22 = x5 + 5 → wB_L_law_28 L sc d S n (some x) (some m) (some o1) (some o2) v22) hJ hM hi hb ho2 hK (fun v7 S8 n9 h5 hR => ⟨m, rfl, h5, hR⟩)
  · intro _
    exact lo_meanStops (K := fun S n => ∀ v22 : Int32, v22 = x5 + 5 → wB_L_law_28 L sc d S n (some x) (some m) (some o1) (some o2) v22) hJ hM hi hb ho2 hK (fun v7 S8 n9 h5 hR => ⟨m, rfl, h5, hR⟩)
  · intro _
    exact ⟨x, rfl, lo_isFair (K := fun S n => ∀ v22 : Int32, v22 = x5 + 5 → wB_L_law_28 L sc d S n (some x) (some m) (some o1) (some o2) v22) hJ hM hi hb hK (fun v S8 n9 h5 hR => ⟨m, rfl, h5, hR⟩)⟩
theorem law_loop {L : Nat} {sc : Nat → Int32} (hL : L ≤ 2560) : ∀ (d i : Nat) (S : fMS) (n B : Nat) (θ : fG2), L ≤ 5 * (i + d) + 4 → i ≤ 512 → B = 5200 + 20 * i → JB x m o1 o2 A θ S n B → MI i θ → wB_L_law_28 L sc (d + 1) S n (some x) (some m) (some o1) (some o2) (iI (5 * i : Int)) := by
  intro d; induction d with
  | zero =>
    intro i S n B θ hd hi hB hJ hM
    rw [wB_L_law_28]
    have e : ((Int32.ofNat L) - (5 : Int32) < iI (5 * i : Int)) = ((L : Int) - 5 < 5 * i) := by
      rw [oN, show (5 : Int32) = iI 5 from rfl, iI_sub, iI_lt (by omega) (by omega) (by omega) (by omega)]
    rw [e]
    exact ⟨fun _ => trivial, fun c => absurd (by omega) c⟩
  | succ d ih =>
    intro i S n B θ hd hi hB hJ hM
    have e : ((Int32.ofNat L) - (5 : Int32) < iI (5 * i : Int)) = ((L : Int) - 5 < 5 * i) := by
      rw [oN, show (5 : Int32) = iI 5 from rfl, iI_sub, iI_lt (by omega) (by omega) (by omega) (by omega)]
    by_cases c : (L : Int) - 5 < 5 * i
    · rw [wB_L_law_28, e]
      exact ⟨fun _ => trivial, fun z => absurd c z⟩
    · have hi' : i < 512 := by omega
      have vp : ∀ k : Int, 0 ≤ k → k ≤ 4 → vp_in (iI (5 * i + k)) L := fun k h0 h4 => (iI_in (by omega) (by omega)).mpr ⟨by omega, by omega⟩
      have ad : ∀ k : Int, iI (5 * i : Int) + iI k = iI (5 * i + k) := fun k => iI_add _ _
      refine law_step hJ hM ⟨by omega, by omega⟩ (by omega) (by have := vp 0 (by omega) (by omega); rw [Int.add_zero] at this; exact this) (by rw [show (1 : Int32) = iI 1 from rfl, ad]; exact vp 1 (by omega) (by omega)) (by rw [show (2 : Int32) = iI 2 from rfl, ad]; exact vp 2 (by omega) (by omega)) (by rw [show (3 : Int32) = iI 3 from rfl, ad]; exact vp 3 (by omega) (by omega)) (by rw [show (4 : Int32) = iI 4 from rfl, ad]; exact vp 4 (by omega) (by omega)) (by rw [e]; exact c) (fun S' n' θ' hJ' hM' => ?_)
      rintro _ rfl
      rw [show (5 : Int32) = iI 5 from rfl, ad, show (5 * i + 5 : Int) = 5 * ((i + 1 : Nat) : Int) by push_cast; omega]
      exact ih (i + 1) S' n' (B + 20) θ' (by omega) (by omega) (by omega) hJ' (by push_cast; exact hM')
theorem law_bare {L : Nat} {xs : Nat → Int32} (hL : L ≤ 2560) (S : fMS) (hS1 : sE S ∉ sL S) (hS2 : sN S (sE S) = 0) : wp_L_law S 0 L xs := by
  unfold wp_L_law
  refine ⟨by omega, fun q2 h2 h2E => ?_⟩
  have kx : isA (wN S q2 4 0) 4 q2 := isA_made
  refine x3_init (S := wN S q2 4 0) ?_ ?_ kx (by omega) (fun S5 n6 T J V L E h5 hn5 => ?_)
  · intro z
    rcases List.mem_append.mp z with y | y
    · exact hS1 y
    · exact h2E (List.mem_singleton.mp y).symm
  · exact (va_up_ne _ _ (Ne.symm h2E)).trans hS2
  have pb := h5.l.potb
  refine ⟨by omega, fun q8 h8 h8E => ?_⟩
  refine x4_init h8 h8E (by omega) (fun S11 n12 A Q f hM hn12 => ?_)
  refine ⟨by omega, fun q14 h14 h14E => ⟨by omega, fun q18 h18 h18E => ?_⟩⟩
  have hJ := jb_start (S4 := wN S11 q14 12 1) (n := n12 + (1 + 1) + (1 + 1)) (B := 5200) h5 f hM h14 h14E rfl h18 h18E (by omega) (by omega)
  exact ⟨_, law_loop hL 512 0 _ _ 5200 s0S (by omega) (by omega) rfl hJ s0_ok⟩
end
