theorem oN (n : Nat) : Int32.ofNat n = iI n := rfl
theorem iI_ite {a b : Int} (h1 : -2147483648 ≤ a) (h2 : a ≤ 2147483647) (h3 : -2147483648 ≤ b) (h4 : b ≤ 2147483647) {u v : Int32} : (if iI a < iI b then u else v) = (if a < b then u else v) := by
  have e := iI_lt h1 h2 h3 h4
  by_cases c : a < b
  · rw [if_pos c, if_pos (by rw [e]; exact c)]
  · rw [if_neg c, if_neg (by rw [e]; exact c)]
theorem iI_shr {x : Nat} (h : x ≤ 100000) : iI x >>> ((1 : Int32) &&& 31) = iI (x / 2 : Nat) := by
  rw [← Int32.toInt_inj, show ((1 : Int32) &&& 31) = 1 from by decide, iI_toInt (by omega) (by omega)]
  show (BitVec.sshiftRight' (iI x).toBitVec ((1 : Int32).toBitVec.smod 32)).toInt = _
  rw [BitVec.toInt_sshiftRight']
  have e1 : ((1 : Int32).toBitVec.smod 32).toNat = 1 := by decide
  have e2 : (iI x).toBitVec.toInt = x := iI_toInt (by omega) (by omega)
  rw [e1, e2, Int.shiftRight_eq_div_pow]
  omega
section
variable {I : Nat → Prop} {S S' : fMS} {L E : Nat → Nat} {ls : Nat → List Nat}
theorem RLs.upd (h : RLs I S L E ls) {i : Nat} (hi : I i) {e' : Nat} {l' : List Nat}
    (h1 : ∀ a ∈ sL S, a ∈ sL S' ∧ sK S' a = sK S a ∧ sN S' a = sN S a) (hE : sE S' = sE S) (hE2 : sE S ∉ sL S') (hE3 : sN S' (sE S) = 0)
    (hc : ∀ b ∈ sL S, b ≠ L i → b ≠ E i → ∀ k, sI S' b k = sI S b k ∧ sJ S' b k = sJ S b k ∧ sR S' b k = sR S b k)
    (e1 : sR S' (L i) 1 = some e') (e2 : sI S' (L i) 2 = iI l'.length) (e3 : (isA S' 14 e' ∧ 10 ≤ sN S' e') ∨ e' = sE S) (e4 : l'.length ≤ sN S' e') (e5 : sN S' e' ≤ lcp i) (e6 : l'.length ≤ lmx i)
    (e7 : ∀ k, k < l'.length → sR S' e' k = some (l'.getD k 0)) (e8 : ∀ a ∈ l', isA S' 1 a ∨ isA S' 2 a ∨ isA S' 3 a) (e9 : e' = E i ∨ e' ∉ sL S) :
    RLs I S' L (fun k => if k = i then e' else E k) (fun k => if k = i then l' else ls k) := by
  have up : ∀ {k a}, isA S k a → isA S' k a := fun {k a} ha => ⟨(h1 a ha.1).1, (h1 a ha.1).2.1.trans ha.2⟩
  have nLL : ∀ j, I j → j ≠ i → L j ≠ L i := fun j hj hne e => hne (h.2.2.2.2.1 j i hj hi e)
  have nLE : ∀ j, I j → L j ≠ E i := fun j hj e => by
    have h6 := h.k hj
    rcases h.k14 hi with z | z
    · rw [e] at h6; have := h6.2.symm.trans z.2; omega
    · rw [e, z] at h6; exact h.1.1 h6.1
  have nEL : ∀ j, I j → E j ≠ L i := fun j hj e => by
    have h6 := h.k hi
    rcases h.k14 hj with z | z
    · rw [e] at z; have := h6.2.symm.trans z.2; omega
    · rw [z] at e; rw [← e] at h6; exact h.1.1 h6.1
  refine ⟨⟨by rw [hE]; exact hE2, by rw [hE]; exact hE3⟩, fun j hj => ?_, fun j hj => ?_, fun j hj a ha => ?_, h.2.2.2.2.1, fun j k hj hk => ?_⟩
  · by_cases e : j = i
    · subst e; exact absurd hi hj
    · show (if j = i then e' else E j) = _
      rw [if_neg e, hE]; exact h.2.1 j hj
  · by_cases e : j = i
    · subst e
      simp only [if_true]
      rw [hE]
      exact ⟨up (h.k hi), e1, e2, e3, e4, e5, e6, e7⟩
    · simp only [if_neg e]
      have c := hc (L j) (h.k hj).1 (nLL j hj e) (nLE j hj) 
      rw [hE, (c 1).2.2, (c 2).1]
      have hsn : sN S' (E j) = sN S (E j) := by
        rcases h.k14 hj with z | z
        · exact (h1 _ z.1).2.2
        · rw [z, hE3, h.1.2]
      rw [hsn]
      refine ⟨up (h.k hj), h.e hj, h.n hj, (h.k14p hj).imp (fun z => ⟨up z.1, z.2⟩) id, h.le hj, h.cm hj, h.mx hj, fun k hk => ?_⟩
      have h14 := h.k14' hj (by have := h.le hj; omega)
      have hne : E j ≠ E i := fun z => by
        rcases h.2.2.2.2.2 j i hj hi z with y | y
        · exact e y
        · rw [y] at h14; exact h.1.1 h14.1
      rw [(hc (E j) h14.1 (nEL j hj) hne k).2.2]
      exact h.el hj hk
  · have ha2 : a ∈ (if j = i then l' else ls j) := ha
    by_cases e : j = i
    · rw [if_pos e] at ha2; exact e8 a ha2
    · rw [if_neg e] at ha2
      exact (h.2.2.2.1 j hj a ha2).imp up (Or.imp up up)
  · show (if j = i then e' else E j) = (if k = i then e' else E k) → j = k ∨ (if j = i then e' else E j) = sE S'
    rw [hE]
    have key : ∀ j, I j → j ≠ i → E j = e' → E j = sE S := by
      intro j hj e z
      rcases e9 with y | y
      · rw [y] at z
        rcases h.2.2.2.2.2 j i hj hi z with w | w
        · exact absurd w e
        · exact w
      · rcases h.k14 hj with w | w
        · rw [← z] at y; exact absurd w.1 y
        · exact w
    by_cases e : j = i
    · by_cases e' : k = i
      · intro _; exact Or.inl (e.trans e'.symm)
      · rw [if_pos e, if_neg e']
        intro z; right
        rw [z]; exact key k hk e' z.symm
    · by_cases e' : k = i
      · rw [if_neg e, if_pos e']
        intro z; right; exact key j hj e z
      · rw [if_neg e, if_neg e']
        exact h.2.2.2.2.2 j k hj hk
theorem frL_of {i : Nat} (h : RLs I S L E ls) (hi : I i) (h1 : ∀ a ∈ sL S, a ∈ sL S' ∧ sK S' a = sK S a ∧ sN S' a = sN S a) (hE : sE S' = sE S) (hM : sM S' = sM S)
    (hc : ∀ b ∈ sL S, b ≠ L i → b ≠ E i → ∀ k, sI S' b k = sI S b k ∧ sJ S' b k = sJ S b k ∧ sR S' b k = sR S b k) : frL S S' := by
  refine ⟨h1, hE, hM, fun a ha k6 k14 k => hc a ha (fun e => k6 (e ▸ (h.k hi).2)) (fun e => ?_) k⟩
  rcases h.k14 hi with z | z
  · exact k14 (e ▸ z.2)
  · rw [e, z] at ha; exact h.1.1 ha
theorem RLs.same (h : RLs I S L E ls) {i : Nat} : RLs I S L (fun k => if k = i then E i else E k) (fun k => if k = i then ls i else ls k) := by
  have e1 : (fun k => if k = i then E i else E k) = E := by funext k; split; rename_i c; rw [c]; rfl
  have e2 : (fun k => if k = i then ls i else ls k) = ls := by funext k; split; rename_i c; rw [c]; rfl
  rw [e1, e2]; exact h
/-- its counter of changes -/
theorem RLs.mod (h : RLs I S L E ls) {i : Nat} (hi : I i) (v : Int32) : RLs I (wI S (L i) 0 v) L E ls ∧ frL S (wI S (L i) 0 v) := by
  have hc : ∀ b ∈ sL S, b ≠ L i → b ≠ E i → ∀ k, sI (wI S (L i) 0 v) b k = sI S b k ∧ sJ (wI S (L i) 0 v) b k = sJ S b k ∧ sR (wI S (L i) 0 v) b k = sR S b k := fun b _ hb _ k => ⟨if_neg (fun z => hb z.1), rfl, rfl⟩
  refine ⟨?_, frL_of h hi (fun a ha => ⟨ha, rfl, rfl⟩) rfl rfl hc⟩
  have := RLs.upd (S' := wI S (L i) 0 v) h hi (e' := E i) (l' := ls i) (fun a ha => ⟨ha, rfl, rfl⟩) rfl h.1.1 h.1.2 hc (h.e hi) ((if_neg (fun z => absurd z.2 (by decide))).trans (h.n hi)) (h.k14p hi) (h.le hi) (h.cm hi) (h.mx hi) (fun k hk => h.el hi hk) (fun a ha => h.2.2.2.1 i hi a ha) (Or.inl rfl)
  have e1 : (fun k => if k = i then E i else E k) = E := by funext k; split; rename_i c; rw [c]; rfl
  have e2 : (fun k => if k = i then ls i else ls k) = ls := by funext k; split; rename_i c; rw [c]; rfl
  rw [e1, e2] at this; exact this
theorem cm_mx {i c : Nat} (h : c + 1 ≤ lmx i) : (if c + max 1 (c / 2) < 10 then 10 else c + max 1 (c / 2)) ≤ lcp i ∧ 10 ≤ lcp i := by
  unfold lmx at h; unfold lcp; split at h <;> rename_i e
  · rw [if_pos e]; split <;> omega
  · rw [if_neg e]; split <;> omega
/-- a longer row -/
theorem RLs.grow (h : RLs I S L E ls) {i n : Nat} (hi : I i) (h20 : i < 20) (hf : (ls i).length = sN S (E i)) (hm : (ls i).length + 1 ≤ lmx i) (hn : n + 900 ≤ 30000) {K : Option Nat → fMS → Nat → Prop}
    (hp : ∀ (S' : fMS) (n' : Nat) (E' : Nat → Nat), RLs I S' L E' ls → frL S S' → (ls i).length + 1 ≤ sN S' (E' i) → n' + pot S E ≤ n + pot S' E' → K (some (E' i)) S' n') : wp_Jx4a65c_grow_d5877 S n (L i) K := by
  have b1 := h.mx hi; have b2 := mx_b i; have b4 := h.cm hi; have b5 := cm_b i
  obtain ⟨N, hN⟩ : ∃ N, N = sN S (E i) := ⟨_, rfl⟩
  rw [← hN] at hf b4
  have cmx := cm_mx (i := i) (c := N) (by omega)
  have kL := h.k hi
  -- a new row q of c' places, the old ones copied
  have fin : ∀ (q c' : Nat) (S2 : fMS), q ∉ sL S → q ≠ sE S → sL S2 = sL S ++ [q] → (∀ b, sK S2 b = if b = q then 14 else sK S b) → (∀ b, sN S2 b = if b = q then c' else sN S b) → sE S2 = sE S → sM S2 = sM S →
      (∀ b k, b ≠ q → sI S2 b k = sI S b k ∧ sJ S2 b k = sJ S b k ∧ (sR S2 b k = if b = L i ∧ k = 1 then some q else sR S b k)) → (∀ k, k < N → sR S2 q k = sR S (E i) k) → 10 ≤ c' → N + 1 ≤ c' → c' ≤ lcp i → 4 * N + c' + 1 ≤ 4 * c' → K (some q) S2 (n + (c' + 1)) := by
    intro q c' S2 hq hqE s1 s2 s3 s4 s5 s6 s7 s0 s8 s9 s10
    have hne : ∀ a ∈ sL S, a ≠ q := fun a ha e => hq (e ▸ ha)
    have h1 : ∀ a ∈ sL S, a ∈ sL S2 ∧ sK S2 a = sK S a ∧ sN S2 a = sN S a := fun a ha => ⟨by rw [s1]; exact List.mem_append_left _ ha, by rw [s2, if_neg (hne a ha)], by rw [s3, if_neg (hne a ha)]⟩
    have hc : ∀ b ∈ sL S, b ≠ L i → b ≠ E i → ∀ k, sI S2 b k = sI S b k ∧ sJ S2 b k = sJ S b k ∧ sR S2 b k = sR S b k := fun b hb hb2 _ k => by
      have := s6 b k (hne b hb)
      exact ⟨this.1, this.2.1, by rw [this.2.2, if_neg (fun z => hb2 z.1)]⟩
    have hqk : isA S2 14 q := ⟨by rw [s1]; exact List.mem_append_right _ List.mem_cons_self, by rw [s2, if_pos rfl]⟩
    have hnq : sN S2 q = c' := by rw [s3, if_pos rfl]
    have up : ∀ {k a}, isA S k a → isA S2 k a := fun {k a} ha => ⟨(h1 a ha.1).1, (h1 a ha.1).2.1.trans ha.2⟩
    have hr := RLs.upd (S' := S2) h hi (e' := q) (l' := ls i) h1 s4 (by rw [s1]; intro z; rcases List.mem_append.mp z with z | z; exact h.1.1 z; simp at z; exact hqE z.symm) (by rw [s3, if_neg (Ne.symm hqE)]; exact h.1.2) hc
      (by rw [(s6 (L i) 1 (hne _ kL.1)).2.2, if_pos ⟨rfl, rfl⟩]) (by rw [(s6 (L i) 2 (hne _ kL.1)).1]; exact h.n hi) (Or.inl ⟨hqk, by rw [hnq]; omega⟩) (by rw [hnq]; omega) (by rw [hnq]; exact s9) b1 (fun k hk => by rw [s7 k (by omega)]; exact h.el hi hk) (fun a ha => (h.2.2.2.1 i hi a ha).imp up (Or.imp up up)) (Or.inr hq)
    have e2 : (fun k => if k = i then ls i else ls k) = ls := by funext k; split; rename_i c; rw [c]; rfl
    rw [e2] at hr
    have := hp S2 (n + (c' + 1)) _ hr (frL_of h hi h1 s4 s5 hc) (by simp only [if_true]; omega) ?_
    · simpa using this
    · have pu := potF_u (S := S) (S' := S2) (E := E) (E' := fun k => if k = i then q else E k) (i := i) (c' := c') 20 h20 (fun k _ hk => by
        simp only [if_neg hk]
        rw [s3, if_neg (fun z => ?_)]
        by_cases c : I k
        · rcases h.k14 c with y | y
          · exact hq (z ▸ y.1)
          · exact hqE (z.symm.trans y)
        · exact hqE (z.symm.trans (h.2.1 k c))) (by simp only [if_true]; exact hnq)
      unfold pot; omega
  unfold wp_Jx4a65c_grow_d5877 wp_Jx4a65c_grow_92f84
  simp (disch := omega) only [eq_true kL, h.e hi, h.n hi, true_and, Option.some.injEq, exists_eq_left', oN, ← hN, iI_1, iI_add, hf]
  refine ⟨h.k14 hi, ?_⟩
  rintro _ rfl
  simp (disch := omega) only [iI_0, iI_lt]
  have big : 0 < N → wB_Jx4a65c_grow_92f84_20 (fun r2 S3 n4 => K r2 S3 n4) (L i) (iI (N + 1)) S n (iI N) := by
    intro hpos
    have k14 := h.k14' hi (by omega)
    have N10 : 10 ≤ N := by
      rcases h.k14p hi with y | y
      · rw [hN]; exact y.2
      · rw [y, h.1.2] at hN; omega
    unfold wB_Jx4a65c_grow_92f84_20 wp_J8_newLength_cabcc wB_J8_newLength_cabcc_21
    obtain ⟨c', hc'⟩ : ∃ c', c' = N + max 1 (N / 2) := ⟨_, rfl⟩
    have cb : c' ≤ lcp i := by rw [hc']; have := cmx.1; split at this <;> omega
    have en : iI (N : Int) + (if iI ((N : Int) + 1) - iI (N : Int) < iI (N : Int) >>> ((1 : Int32) &&& 31) then iI (N : Int) >>> ((1 : Int32) &&& 31) else iI ((N : Int) + 1) - iI (N : Int)) = iI (c' : Nat) := by
      rw [iI_shr (by omega), iI_sub, iI_ite (by omega) (by omega) (by omega) (by omega)]
      split <;> rw [iI_add] <;> congr 1 <;> omega
    rw [en]
    rintro _ rfl
    simp (disch := omega) only [iI_0, iI_le, iI_lt, show (2147483639 : Int32) = iI 2147483639 from rfl]
    refine ⟨fun z => absurd z (by omega), fun _ => ⟨fun z => absurd z (by omega), fun _ => ⟨kL, ?_⟩⟩⟩
    unfold wp_J7_copyOf_1904c wp_J7_copyOf_6403c
    refine ⟨E i, h.e hi, k14, fun z => absurd rfl z, fun _ => ⟨c', (oN c').symm, by omega, by omega, fun q hq hqE => ⟨E i, h.e hi, Or.inl (isA_new hq k14), isA_new hq k14, ?_, ?_⟩⟩⟩
    · have hne : E i ≠ q := fun e => hq (e ▸ k14.1)
      have hsn : sN (wN S q 14 c') (E i) = N := by rw [hN]; exact va_up_ne _ _ hne
      have hsq : sN (wN S q 14 c') q = c' := va_up_self _ _ _
      have eL : (if iI (c' : Nat) < Int32.ofNat (sN (wN S q 14 c') (E i)) then iI (c' : Nat) else Int32.ofNat (sN (wN S q 14 c') (E i))) = iI (N : Nat) := by
        rw [hsn, oN, iI_ite (by omega) (by omega) (by omega) (by omega), if_neg (by omega)]
      rw [eL, hsn, hsq]
      simp (disch := omega) only [iI_0, iI_lt, iI_nat, Int.toNat_natCast, Int.toNat_zero]
      refine ⟨by omega, by omega, by omega, by omega, by omega, fun k hk => ?_⟩
      rw [Nat.zero_add]
      have e1 : sR (wN S q 14 c') (E i) k = sR S (E i) k := if_neg hne
      rw [e1, h.el hi (by omega)]
      refine Or.inr ⟨_, rfl, ?_⟩
      have hm : (ls i).getD k 0 ∈ ls i := by
        rw [List.getD_eq_getElem?_getD, List.getElem?_eq_getElem (by omega)]; exact List.getElem_mem _
      exact (h.2.2.2.1 i hi _ hm).imp (isA_new hq) (Or.imp (isA_new hq) (isA_new hq))
    · have hne : E i ≠ q := fun e => hq (e ▸ k14.1)
      have hneL : L i ≠ q := fun e => hq (e ▸ kL.1)
      have hsn : sN (wN S q 14 c') (E i) = N := by rw [hN]; exact va_up_ne _ _ hne
      have eL : (if iI (c' : Nat) < Int32.ofNat (sN (wN S q 14 c') (E i)) then iI (c' : Nat) else Int32.ofNat (sN (wN S q 14 c') (E i))) = iI (N : Nat) := by
        rw [hsn, oN, iI_ite (by omega) (by omega) (by omega) (by omega), if_neg (by omega)]
      rw [eL]
      simp (disch := omega) only [iI_0, iI_nat, Int.toNat_natCast, Int.toNat_zero]
      refine ⟨isA_new (N := c') hq kL, ?_⟩
      refine fin q c' _ hq hqE rfl (fun b => rfl) (fun b => rfl) rfl rfl (fun b k hb => ⟨if_neg hb, if_neg hb, ?_⟩) (fun k hk => ?_) (by omega) (by omega) cb (by omega)
      · show (if b = L i ∧ k = 1 then some q else sR (wC (wN S q 14 c') (E i) 0 q 0 N) b k) = _
        split
        · rfl
        · show (if b = q ∧ _ then _ else (if b = q then none else sR S b k)) = _
          rw [if_neg (fun z => hb z.1), if_neg hb]
      · show (if q = L i ∧ k = 1 then some q else sR (wC (wN S q 14 c') (E i) 0 q 0 N) q k) = _
        rw [if_neg (fun z => hneL z.1.symm)]
        show (if q = q ∧ 0 ≤ k ∧ k < 0 + N then (if E i = q then none else sR S (E i) (0 + (k - 0))) else _) = _
        rw [if_pos ⟨rfl, by omega, by omega⟩, if_neg hne]
        rw [show 0 + (k - 0) = k by omega]
  refine ⟨fun c => big (by omega), fun c => ⟨fun z => ?_, fun z => ?_⟩⟩
  · have N0 : N = 0 := by omega
    refine ⟨10, ?_, by omega, by omega, fun q hq hqE => ?_⟩
    · rw [show (10 : Int32) = iI 10 from rfl, iI_ite (by omega) (by omega) (by omega) (by omega), if_neg (by omega)]; rfl
    · have hneL : L i ≠ q := fun e => hq (e ▸ kL.1)
      refine fin q 10 _ hq hqE rfl (fun b => rfl) (fun b => rfl) rfl rfl (fun b k hb => ⟨if_neg hb, if_neg hb, ?_⟩) (fun k hk => absurd hk (by omega)) (by omega) (by omega) cmx.2 (by omega)
      show (if b = L i ∧ k = 1 then some q else (if b = q then none else sR S b k)) = _
      rw [if_neg hb]
  · have : 0 < N := by
      rcases h.k14p hi with y | y
      · rw [hN]; have := y.2; omega
      · exact absurd y z
    exact big this
end
