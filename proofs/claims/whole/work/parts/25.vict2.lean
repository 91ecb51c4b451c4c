/-- τ is σ with the jobs of G stopped (17), the row of those gone holding H -/
def gon (σ τ : fG2) (G : List Nat) : Prop := eqX σ τ ∧ inv τ ∧ okB τ ∧ G.Nodup ∧ (∀ g ∈ G, (g : Int) < σ 12 0 ∧ σ 17 g = 1) ∧ ∀ i : Nat, τ 17 i = if i ∈ G then 0 else σ 17 i
def gnR (τ : fG2) (G : List Nat) : Prop := τ 32 0 = G.length ∧ G.length ≤ 40 ∧ ∀ i, i < G.length → τ 31 i = G.getD i 0
section
variable {F S : fMS} {m n : Nat} {A : Nat → Nat} {σ : fG2}
theorem sp_restores {τ : fG2} {G : List Nat} (h : RM F S m A τ) (hg : gon σ τ G) (hr : gnR τ G) {post : fMS → Nat → Prop} (hp : ∀ (S' : fMS) (τ' : fG2), RM F S' m A τ' → gon σ τ' [] → τ' 32 0 = 0 → post S' n) : wp_X4_restores S n m post := by
  have q40 := hr.2.1
  have key : ∀ (d k : Nat) (S : fMS) (τ : fG2), k + d = G.length → RM F S m A τ → gnR τ G → gon σ τ (G.drop k) → wB_X4_restores_2 post m (d + 1) S n (iI k) := by
    intro d; induction d with
    | zero =>
      intro k S τ hk h hr hg
      have e32 := hr.1
      simp only [wB_X4_restores_2]
      simp (disch := first | decide | omega) only [h.s, h.mm, iI_le, true_and, iI_0]
      refine ⟨fun _ => ?_, fun c => absurd c (by omega)⟩
      rw [List.drop_eq_nil_of_le (by omega)] at hg
      have hw := h.wS 32 0 rfl
      obtain ⟨g1, g2, g3, g4, g5, g6⟩ := hg
      have hk : eqK τ (up τ 32 0 0) := eqK.up (by omega)
      refine hp _ _ hw ⟨g1.tr (eqX.up (Or.inr rfl)), ?_, g3.w (by omega), g4, g5, fun i => by rw [up_ne (by decide)]; exact g6 i⟩ up_at
      have e : ∀ g k : Nat, g < 27 → up τ 32 0 0 g k = τ g k := fun g k hg => up_ne (by omega)
      unfold inv okT okJ okP okV tie njN rnF wtF alF
      have ch : ∀ t, chS (up τ 32 0 0) t = chS τ t := fun t => chF_cong (fun k => e 5 k (by omega)) 11 t
      simp only [ch]
      simp (disch := decide) only [e]
      exact g2
    | succ d ih =>
      intro k S τ hk h hr hg
      have e32 := hr.1
      have e31 := hr.2.2 k (by omega)
      have hd : G.drop k = G[k] :: G.drop (k + 1) := List.drop_eq_getElem_cons (by omega)
      have hgd : G.getD k 0 = G[k] := by rw [List.getD_eq_getElem?_getD, List.getElem?_eq_getElem (by omega)]; rfl
      rw [hgd] at e31
      obtain ⟨j, hj⟩ : ∃ j, j = G[k] := ⟨_, rfl⟩
      rw [← hj] at hd e31
      rw [hd] at hg
      obtain ⟨g1, g2, g3, g4, g5, g6⟩ := hg
      have hjn := g5 j List.mem_cons_self
      have hjn2 := g2.J.2.1
      have e12 : τ 12 0 = σ 12 0 := g1 12 0 (by decide) (by decide) (by decide) (by decide) (by decide)
      have s17 : τ 17 j = 0 := by rw [g6, if_pos List.mem_cons_self]
      rw [wB_X4_restores_2]
      simp (disch := first | decide | omega) only [h.s, h.mm, h.R, h.N31, h.kI, h.a31, iI_le, iI_in, iI_nat, true_and, iI_1, iI_add, Option.some.injEq, exists_eq_left', Int.toNat_natCast, e32, e31]
      refine ⟨fun c => absurd c (by omega), fun _ => ⟨by omega, sp_goesBack g2.T g2.J h (by omega) (fun S' h' => ?_)⟩⟩
      rintro _ rfl
      have hin := bkF_inv g2 (by omega) s17
      rw [bkF_g] at h' hin
      have nd := List.nodup_cons.mp g4
      refine ih (k + 1) S' _ (by omega) h' ⟨by rw [gF_ne (by decide) (by decide) (by decide)]; exact hr.1, hr.2.1, fun i hi => by rw [gF_ne (by decide) (by decide) (by decide)]; exact hr.2.2 i hi⟩ ⟨g1.tr eqX.g, hin, gF_B g3 hin (Or.inr rfl), nd.2, fun g hg => g5 g (List.mem_cons_of_mem _ hg), fun i => ?_⟩
      rw [gF_17]
      by_cases e : i = j
      · subst e; rw [if_pos rfl, if_neg nd.1, hjn.2]
      · rw [if_neg e, g6]
        by_cases c : i ∈ G.drop (k + 1)
        · rw [if_pos c, if_pos (List.mem_cons_of_mem _ c)]
        · rw [if_neg c, if_neg (fun z => (List.mem_cons.mp z).elim e c)]
  exact ⟨_, key G.length 0 S τ (by omega) h hr (by rw [List.drop_zero]; exact hg)⟩
end
