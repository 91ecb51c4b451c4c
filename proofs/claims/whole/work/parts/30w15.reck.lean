-- ===== the broker's calls: what is reckoned anew =====
section
variable {P : Nat → Prop} {F S S' : fMS} {x n B out : Nat} {T J V L E E' : Nat → Nat} {ρ ρ' σ τ : fG2} {al ln vi ln' vi' : List Nat}
theorem e40_C (he : ∀ g k, g < 41 → ρ' g k = ρ g k) : eqC ρ ρ' := fun g k _ h => he g k (by omega)
theorem BB.re {n' : Nat} (h : BB P F S x T J V L E ρ al ln vi n B) (h' : RB P F S' x T J V L E' ρ' al ln' vi') (hn' : rmB S' E' n' B) (he : ∀ g k, g < 41 → ρ' g k = ρ g k) (hB' : okB ρ') : BB P F S' x T J V L E' ρ' al ln' vi' n' B := by
  refine ⟨h', hn', ?_, hB', ?_, h.2.2.2.2.2⟩
  · rw [(e40_C he).alv]; exact h.2.2.1
  · unfold h40; simp only [he 12 _ (by decide), he 17 _ (by decide), he 19 _ (by decide), he 40 _ (by decide)]; exact h.2.2.2.2.1
theorem BB.toE {k : Nat} (h : BB P F S x T J V L E ρ' al ln vi n B) (he : ∀ g k, g < 41 → ρ' g k = ρ g k) (hk : k ≤ 20) : LB P F S x ρ (n + k) (B + 20) := (h.toL hk).eq (e40_C he)
theorem cx_free2 (hi : inv ρ) (hB : okB ρ) (hZ : okZ ρ) (h44 : ∀ k : Nat, (k : Int) < ρ 4 0 → ρ 44 k = rsvS ρ k) (h : RB P F S x T J V L E ρ al ln vi) {t : Nat} (ht : (t : Int) < ρ 4 0) {post : Int32 → Prop} (hp : post (iI (freS ρ t))) : wp_X3_freeUnits S x (some (T t)) post := by
  obtain ⟨q1, q2, q3, q4⟩ := hi.B4
  have bc := hB 2 0; have b0 := hB 10 0
  have t0 : ((0 : Nat) : Int) < ρ 4 0 := by omega
  have key : ∀ d k : Nat, ∀ acc : Int, (k + d : Int) = ρ 4 0 → -200000000 + 10000 * d ≤ acc → acc ≤ 200000000 → post (iI (acc - fSum (freF ρ t) k d)) → wB_X3_freeUnits_15 S post x (some (T t)) (d + 1) (iI acc) (iI k) := by
    intro d; induction d with
    | zero =>
      intro k acc hk h0 ha hp
      simp only [wB_X3_freeUnits_15]
      simp (disch := omega) only [h.X, h.x0, Option.some.injEq, exists_eq_left', h.k0, true_and, h.s0 (by omega), iI_le]
      exact ⟨fun _ => by simpa [fSum] using hp, fun c => absurd c (by omega)⟩
    | succ d ih =>
      intro k acc hk h0 ha hp
      have kn : (k : Int) < ρ 4 0 := by omega
      have b1 := hi.U k; have b2 := rsv_b hi.P k
      have e44 := h44 k kn
      simp only [fSum] at hp
      have go : ∀ y : Int, y = freF ρ t k → wB_X3_freeUnits_15 S post x (some (T t)) (d + 1) (iI (acc - y)) (iI ((k : Int) + 1)) := by
        intro y hy
        have hyb : 0 ≤ y ∧ y ≤ 1600 := by rw [hy]; unfold freF; split <;> (try split) <;> omega
        refine ih (k + 1) (acc - y) (by omega) (by omega) (by omega) ?_
        rw [show acc - y - fSum (freF ρ t) (k + 1) d = acc - (freF ρ t k + fSum (freF ρ t) (k + 1) d) by omega]; exact hp
      rw [wB_X3_freeUnits_15]
      simp (disch := omega) only [h.X, h.x0, Option.some.injEq, exists_eq_left', h.k0, true_and, h.s0 (by omega), iI_le]
      refine ⟨fun c => absurd c (by omega), fun _ => ?_⟩
      rw [h.g0 k kn]
      simp (disch := omega) only [Option.some.injEq, exists_eq_left', h.Tk k kn, true_and, h.Te k t kn ht, h.t11 k kn, h.t6 k kn, iI_le, iI_1, iI_add, iI_sub]
      refine ⟨?_, fun c1 => ⟨?_, ?_⟩⟩
      · rintro c1 _ rfl
        have := go 0 (by unfold freF; rw [if_pos (Or.inl (by omega))])
        rw [Int.sub_zero] at this; exact this
      · rintro c2 _ rfl
        have := go 0 (by
          unfold freF
          split
          · rfl
          · rw [if_neg (by omega)])
        rw [Int.sub_zero] at this; exact this
      · rintro c2 _ rfl _ rfl
        have hz : ¬ kidsN ρ k ≠ 0 := fun z => by have := rsv_no hZ hi.P z; omega
        exact go _ (by unfold freF; rw [if_neg (by rintro (z | z)
                                                   · omega
                                                   · exact hz z), if_pos (by omega)]; omega)
  unfold wp_X3_freeUnits
  simp (disch := omega) only [h.X, h.xT, Option.some.injEq, exists_eq_left', h.Tk 0 t0, true_and, h.x7, h.t6 0 t0, iI_sub]
  rintro _ rfl
  have cc := hi.c; have u0 := hi.U 0
  obtain ⟨N, hN⟩ : ∃ N : Nat, ρ 4 0 = N := ⟨(ρ 4 0).toNat, by omega⟩
  have hp' : post (iI (ρ 2 0 - ρ 10 0 - fSum (freF ρ t) 0 N)) := by unfold freS at hp; rw [show (ρ 4 0).toNat = N by omega] at hp; exact hp
  exact ⟨_, key N 0 _ (by omega) (by omega) (by omega) hp'⟩

theorem xl_demand {p : Int} (hi : inv ρ) (hE : okE ρ) (h : BB P S S x T J V L E ρ al ln vi n B) (hO : oK P S out 12) (ht : i32 p) {post : Int32 → fMS → Nat → Prop}
    (hp : xP P S x B out ρ ρ (cdT ρ p) (Int32.toInt64 (iI (dmS ρ p.toNat))) post) : wp_L_demand S n (some x) (iI p) (some out) post := by
  have hr := h.r
  have X := hp.no h
  unfold wp_L_demand wp_X3_demand
  refine ⟨x, rfl, h.1.1.1, h.1.1.1, cx_teamAt hi.T h ht (fun c => ⟨rfl, fun _ => X 1 (by unfold cdT; rw [if_neg c]) (by decide)⟩) (fun k e hk => ?_)⟩
  subst e
  have hc : cdT ρ k = 0 := by unfold cdT; rw [if_pos (by omega)]
  have hp := hp.1 hc
  simp only [Int.toNat_natCast] at hp
  refine cx_demands hi hE h.2.2.1 h.1 h.2.1 (fun S1 h1 hn1 => ?_)
  have he : ∀ g k, g < 41 → rdS ρ g k = ρ g k := fun g k hg => rdS_ne (by omega)
  have hb := h.re h1 hn1 he (rdS_B hi h.2.2.2.1)
  refine ⟨T k, rfl, of_eq_true (h1.Tk k (by rw [he 4 0 (by decide)]; exact hk)), ?_⟩
  rw [h1.t8 k (by rw [he 4 0 (by decide)]; exact hk), rdS_41 hk]
  exact wr_end (hb.toE (k := 0) he (by omega)) hO (hp _ _ (hb.toE (k := 0) he (by omega)))
theorem xl_share {p : Int} (hi : inv ρ) (hE : okE ρ) (h : BB P S S x T J V L E ρ al ln vi n B) (hO : oK P S out 12) (ht : i32 p) {post : Int32 → fMS → Nat → Prop}
    (hp : xP P S x B out ρ ρ (cdT ρ p) (Int32.toInt64 (iI (lyS ρ 28 p.toNat))) post) : wp_L_share S n (some x) (iI p) (some out) post := by
  have hr := h.r
  have X := hp.no h
  obtain ⟨q1, q2, q3, q4⟩ := hi.B4
  unfold wp_L_share wp_X3_share
  refine ⟨x, rfl, h.1.1.1, h.1.1.1, cx_teamAt hi.T h ht (fun c => ⟨rfl, fun _ => X 1 (by unfold cdT; rw [if_neg c]) (by decide)⟩) (fun k e hk => ?_)⟩
  subst e
  have hc : cdT ρ k = 0 := by unfold cdT; rw [if_pos (by omega)]
  have hp := hp.1 hc
  simp only [Int.toNat_natCast] at hp
  refine cx_demands hi hE h.2.2.1 h.1 h.2.1 (fun S1 h1 hn1 => ⟨h1.1.1, ?_⟩)
  have e1 : ∀ g k, g ≠ 41 → rdS ρ g k = ρ g k := fun g k hg => rdS_ne hg
  refine cx_dealShares (rdS_B hi h.2.2.2.1) (fun k => by rw [e1 6 k (by decide)]; exact hi.w k) (by rw [e1 4 0 (by decide)]; exact q1) (by rw [e1 4 0 (by decide)]; exact q2) h1 hn1 (fun S2 h2 hn2 hB2 => ?_)
  have he : ∀ g k, g < 41 → dlS (rdS ρ) g k = ρ g k := fun g k hg => by rw [dlS_ne (by omega) (by omega), e1 g k (by omega)]
  have hb := h.re h2 hn2 he hB2
  have hk2 : (k : Int) < dlS (rdS ρ) 4 0 := by rw [he 4 0 (by decide)]; exact hk
  refine ⟨T k, rfl, of_eq_true (h2.Tk k hk2), ?_⟩
  rw [h2.t9 k hk2, dlS_42 hi.T (fun g k hg => rdS_ne (by omega)) (fun k hk => rdS_41 hk) hk]
  exact wr_end (hb.toE (k := 0) he (by omega)) hO (hp _ _ (hb.toE (k := 0) he (by omega)))
theorem fi_ok (hi : inv ρ) (hB : okB ρ) (hB2 : okB τ) (he : ∀ g k, g < 41 → τ g k = ρ g k) (h41 : ∀ k : Nat, (k : Int) < ρ 4 0 → τ 41 k = dmS ρ k) (h : RB P F S x T J V L E τ al ln vi) (hn : rmB S E n B) {post : fMS → Nat → Prop}
    (hp : ∀ S', RB P F S' x T J V L E (fiS τ) al ln vi → rmB S' E n B → okB (fiS τ) → post S' n) : wp_X3_fillShares S n x post := by
  obtain ⟨q1, q2, q3, q4⟩ := hi.B4
  have e4 := he 4 0 (by decide)
  refine cx_fillShares hB2 (fun k => by rw [he 6 k (by decide)]; exact hi.w k) (by rw [e4]; exact q1) (by rw [e4]; exact q2) (fun k hk => ?_) (fun k k1 hk => ?_) (by rw [he 2 0 (by decide)]; exact hi.c) h hn hp
  · rw [e4] at hk; rw [h41 k hk]; have := dm_b hi.T hi.U hi.L 11 k; exact ⟨this.1, this.2.1⟩
  · rw [e4] at hk; rw [he 5 k (by decide)]; exact hi.T.2.2.2 k k1 hk
theorem xl_shareByLevels {p : Int} (hi : inv ρ) (hE : okE ρ) (hS : okS ρ) (hW : okW1 ρ) (h : BB P S S x T J V L E ρ al ln vi n B) (hO : oK P S out 12) (ht : i32 p) {post : Int32 → fMS → Nat → Prop}
    (hp : xP P S x B out ρ ρ (cdT ρ p) (Int32.toInt64 (iI (lyS ρ 28 p.toNat))) post) : wp_L_shareByLevels S n (some x) (iI p) (some out) post := by
  have hr := h.r
  have X := hp.no h
  obtain ⟨q1, q2, q3, q4⟩ := hi.B4
  unfold wp_L_shareByLevels wp_X3_shareByLevels
  refine ⟨x, rfl, h.1.1.1, h.1.1.1, cx_teamAt hi.T h ht (fun c => ⟨rfl, fun _ => X 1 (by unfold cdT; rw [if_neg c]) (by decide)⟩) (fun k e hk => ?_)⟩
  subst e
  have hc : cdT ρ k = 0 := by unfold cdT; rw [if_pos (by omega)]
  have hp := hp.1 hc
  simp only [Int.toNat_natCast] at hp
  refine cx_demands hi hE h.2.2.1 h.1 h.2.1 (fun S1 h1 hn1 => ⟨h1.1.1, ?_⟩)
  refine fi_ok hi h.2.2.2.1 (rdS_B hi h.2.2.2.1) (fun g k hg => rdS_ne (by omega)) (fun k hk => rdS_41 hk) h1 hn1 (fun S2 h2 hn2 hB2 => ?_)
  have he : ∀ g k, g < 41 → fiS (rdS ρ) g k = ρ g k := fun g k hg => by rw [fiS_ne (by omega) (by omega), rdS_ne (by omega)]
  have hb := h.re h2 hn2 he hB2
  have hk2 : (k : Int) < fiS (rdS ρ) 4 0 := by rw [he 4 0 (by decide)]; exact hk
  refine ⟨T k, rfl, of_eq_true (h2.Tk k hk2), ?_⟩
  rw [h2.t10 k hk2, fiS_43 hi hS hW (fun g k hg => rdS_ne (by omega)) (fun k hk => rdS_41 hk) hk]
  exact wr_end (hb.toE (k := 0) he (by omega)) hO (hp _ _ (hb.toE (k := 0) he (by omega)))
theorem xl_due {p : Int} (hi : inv ρ) (hE : okE ρ) (hZ : okZ ρ) (h : BB P S S x T J V L E ρ al ln vi n B) (hO : oK P S out 12) (ht : i32 p) {post : Int32 → fMS → Nat → Prop}
    (hp : xP P S x B out ρ ρ (cdLeaf ρ p) (Int32.toInt64 (iI (dueS (lyS ρ) p.toNat))) post) : wp_L_due S n (some x) (iI p) (some out) post := by
  have hr := h.r
  have X := hp.no h
  unfold wp_L_due wp_X3_due
  refine ⟨x, rfl, h.1.1.1, h.1.1.1, cx_leafAt hi.T h ht (fun c => Or.inl ⟨rfl, fun _ => X 1 (by unfold cdLeaf; rw [if_neg c]) (by decide)⟩) (fun c d => Or.inr ⟨rfl, fun _ => X 2 (by unfold cdLeaf; rw [if_pos c, if_neg d]) (by decide)⟩) (fun k e hk hl => ?_)⟩
  subst e
  have hc : cdLeaf ρ k = 0 := by unfold cdLeaf; rw [if_pos (by omega), if_pos hl]
  have hp := hp.1 hc
  simp only [Int.toNat_natCast] at hp
  refine cx_dues hi h.2.2.2.1 hE hZ h.2.2.1 h.1 h.2.1 (fun S1 h1 hn1 hB1 => ?_)
  have he : ∀ g k, g < 41 → duS ρ g k = ρ g k := fun g k hg => duS_ne hg
  have hb := h.re h1 hn1 he hB1
  have hk2 : (k : Int) < duS ρ 4 0 := by rw [he 4 0 (by decide)]; exact hk
  refine ⟨T k, rfl, of_eq_true (h1.Tk k hk2), ?_⟩
  rw [h1.t12 k hk2, duS_45 hi.T hk]
  exact wr_end (hb.toE (k := 0) he (by omega)) hO (hp _ _ (hb.toE (k := 0) he (by omega)))
theorem xl_reserved {p : Int} (hi : inv ρ) (hZ : okZ ρ) (h : BB P S S x T J V L E ρ al ln vi n B) (hO : oK P S out 12) (ht : i32 p) {post : Int32 → fMS → Nat → Prop}
    (hp : xP P S x B out ρ ρ (cdLeaf ρ p) (Int32.toInt64 (iI (rsvS ρ p.toNat))) post) : wp_L_reserved S n (some x) (iI p) (some out) post := by
  have hr := h.r
  have X := hp.no h
  obtain ⟨q1, q2, q3, q4⟩ := hi.B4
  unfold wp_L_reserved wp_X3_reserved
  refine ⟨x, rfl, h.1.1.1, h.1.1.1, cx_leafAt hi.T h ht (fun c => Or.inl ⟨rfl, fun _ => X 1 (by unfold cdLeaf; rw [if_neg c]) (by decide)⟩) (fun c d => Or.inr ⟨rfl, fun _ => X 2 (by unfold cdLeaf; rw [if_pos c, if_neg d]) (by decide)⟩) (fun k e hk hl => ?_)⟩
  subst e
  have hc : cdLeaf ρ k = 0 := by unfold cdLeaf; rw [if_pos (by omega), if_pos hl]
  have hp := hp.1 hc
  simp only [Int.toNat_natCast] at hp
  refine cx_held hi.P h.2.2.2.1 hZ q1 q2 h.1 h.2.1 (fun S1 h1 hn1 => ?_)
  have he : ∀ g k, g < 41 → hdS ρ g k = ρ g k := fun g k hg => hdS_ne (by omega)
  have hb := h.re h1 hn1 he (hdS_B h.2.2.2.1 hi.P)
  have hk2 : (k : Int) < hdS ρ 4 0 := by rw [he 4 0 (by decide)]; exact hk
  refine ⟨T k, rfl, of_eq_true (h1.Tk k hk2), ?_⟩
  rw [h1.t11 k hk2, hdS_44 hk]
  exact wr_end (hb.toE (k := 0) he (by omega)) hO (hp _ _ (hb.toE (k := 0) he (by omega)))
theorem xl_freeFor {p : Int} (hi : inv ρ) (hZ : okZ ρ) (h : BB P S S x T J V L E ρ al ln vi n B) (hO : oK P S out 12) (ht : i32 p) {post : Int32 → fMS → Nat → Prop}
    (hp : xP P S x B out ρ ρ (cdLeaf ρ p) (Int32.toInt64 (iI (freS ρ p))) post) : wp_L_freeFor S n (some x) (iI p) (some out) post := by
  have hr := h.r
  have X := hp.no h
  obtain ⟨q1, q2, q3, q4⟩ := hi.B4
  unfold wp_L_freeFor wp_X3_freeFor
  refine ⟨x, rfl, h.1.1.1, h.1.1.1, cx_leafAt hi.T h ht (fun c => Or.inl ⟨rfl, fun _ => X 1 (by unfold cdLeaf; rw [if_neg c]) (by decide)⟩) (fun c d => Or.inr ⟨rfl, fun _ => X 2 (by unfold cdLeaf; rw [if_pos c, if_neg d]) (by decide)⟩) (fun k e hk hl => ?_)⟩
  subst e
  have hc : cdLeaf ρ k = 0 := by unfold cdLeaf; rw [if_pos (by omega), if_pos hl]
  have hp := hp.1 hc
  refine cx_held hi.P h.2.2.2.1 hZ q1 q2 h.1 h.2.1 (fun S1 h1 hn1 => ⟨h1.1.1, ?_⟩)
  have he : ∀ g k, g < 41 → hdS ρ g k = ρ g k := fun g k hg => hdS_ne (by omega)
  have hb := h.re h1 hn1 he (hdS_B h.2.2.2.1 hi.P)
  have hk2 : (k : Int) < hdS ρ 4 0 := by rw [he 4 0 (by decide)]; exact hk
  have eC := e40_C he
  refine cx_free2 (eC.I hi) hb.2.2.2.1 (eC.Z hZ) (fun k hk => ?_) h1 hk2 ?_
  · rw [he 4 0 (by decide)] at hk; rw [hdS_44 hk, eC.K.rsv]
  · rw [eC.K.fre]
    exact wr_end (hb.toE (k := 0) he (by omega)) hO (hp _ _ (hb.toE (k := 0) he (by omega)))
theorem xl_firstOf {p : Int} (hi : inv ρ) (h : BB P S S x T J V L E ρ al ln vi n B) (hO : oK P S out 12) (ht : i32 p) {post : Int32 → fMS → Nat → Prop}
    (hp : xP P S x B out ρ ρ (cdFst ρ p) (Int32.toInt64 (iI (fstS ρ p))) post) : wp_L_firstOf S n (some x) (iI p) (some out) post := by
  have hr := h.r
  have X := hp.no h
  unfold wp_L_firstOf wp_X3_firstOf
  refine ⟨x, rfl, h.1.1.1, h.1.1.1, cx_leafAt hi.T h ht (fun c => Or.inl ⟨rfl, fun _ => X 1 (by unfold cdFst cdLeaf; rw [if_neg c]; rfl) (by decide)⟩) (fun c d => Or.inr (Or.inl ⟨rfl, fun _ => X 2 (by unfold cdFst cdLeaf; rw [if_pos c, if_neg d]; rfl) (by decide)⟩)) (fun k e hk hl => ?_)⟩
  subst e
  have hc : cdLeaf ρ k = 0 := by unfold cdLeaf; rw [if_pos (by omega), if_pos hl]
  refine cx_firstJob hi h.2.2.1 h.1 hk ?_
  unfold lnJ
  by_cases c : fstS ρ k = -1
  · rw [if_pos c]
    exact ⟨fun z => absurd rfl z, fun _ => ⟨by omega, Or.inr (Or.inr ⟨rfl, fun _ => X 3 (by unfold cdFst; rw [if_pos hc, if_pos c]) (by decide)⟩)⟩⟩
  · rw [if_neg c]
    obtain ⟨j, j1, j2, j3, j4⟩ := fstS_ok hi.J k c
    have hp := hp.1 (by unfold cdFst; rw [if_pos hc, if_neg c])
    rw [j1] at hp ⊢
    rw [Int.toNat_natCast]
    refine ⟨fun _ => ⟨J j, rfl, of_eq_true (h.1.Jk j j2), ?_⟩, fun z => by cases z⟩
    rw [h.1.j0 j j2]
    exact wr_end (h.toL (k := 0) (by omega)) hO (hp S n (h.toL (k := 0) (by omega)))
end
