-- ===== the broker's calls: the simple ones =====
section
variable {P : Nat → Prop} {F S S' : fMS} {x n B out : Nat} {T J V L E E' : Nat → Nat} {ρ σ τ : fG2} {al ln vi : List Nat}
/-- how a call of the broker ends -/
def xP (P : Nat → Prop) (F : fMS) (x B out : Nat) (σ' σ : fG2) (cd : Int) (z : Int64) (post : Int32 → fMS → Nat → Prop) : Prop :=
  (cd = 0 → ∀ S' n', LB P F S' x σ' n' (B + 20) → post (iI 0) (wJ S' out 0 z) n') ∧ (cd ≠ 0 → ∀ S' n', LB P F S' x σ n' (B + 20) → post (iI cd) S' n')
theorem xP.no {σ' : fG2} {cd : Int} {z : Int64} {post : Int32 → fMS → Nat → Prop} (hp : xP P S x B out σ' ρ cd z post) (h : BB P S S x T J V L E ρ al ln vi n B) (k : Int) (e : cd = k) (hk : k ≠ 0) : post (iI k) S (n + 7) := by
  subst e; exact hp.2 hk S (n + 7) (h.toL (by omega))
theorem BB.up {f k : Nat} {v : Int} (h : BB P F S x T J V L E ρ al ln vi n B) (h' : RB P F S' x T J V L E (up ρ f k v) al ln vi) (e : sN S' = sN S) (h12 : f ≠ 12) (h17 : f ≠ 17) (h19 : f ≠ 19) (h40 : f ≠ 40) (hv : -100000000 ≤ v ∧ v ≤ 100000000) : BB P F S' x T J V L E (up ρ f k v) al ln vi n B := by
  refine ⟨h', h.2.1.w e, ?_, h.2.2.2.1.w hv, ?_, h.2.2.2.2.2⟩
  · rw [h.2.2.1]; unfold alv; simp only [up_ne (Ne.symm h12), up_ne (Ne.symm h17)]
  · unfold _root_.Jvm.Pilot.CFairquotaBrokerLaw_law_r8435_3f40a5.h40; simp only [up_ne (Ne.symm h12), up_ne (Ne.symm h17), up_ne (Ne.symm h19), up_ne (Ne.symm h40)]; exact h.2.2.2.2.1
theorem xl_setWeight {c : Int} {p w : Int} (K : cdSW ρ p w 1 9 = 0 → K0 c (up ρ 6 p.toNat w)) (hT : okT ρ) (h : BB P S S x T J V L E ρ al ln vi n B) (hO : oK P S out 12) (hi : i32 p) (hw : i32 w) {post : Int32 → fMS → Nat → Prop}
    (hp : xP P S x B out (svS (up ρ 6 p.toNat w)) ρ (cdSW ρ p w 1 9) (Int32.toInt64 (iI (ρ 6 p.toNat))) post) : wp_L_setWeight S n (some x) (iI p) (iI w) (some out) post := by
  have hr := h.r
  have X := hp.no h
  unfold wp_L_setWeight wp_X3_setWeight
  refine ⟨x, rfl, h.1.1.1, h.1.1.1, cx_below hT h hi (fun c => Or.inl ⟨rfl, fun _ => X 1 (by unfold cdSW; rw [if_neg c]) (by decide)⟩) (fun c => Or.inr (Or.inl ⟨rfl, fun _ => X 2 (by have := hT.1; unfold cdSW; rw [if_pos (by omega), if_pos c]) (by decide)⟩)) (fun k e k1 hk => ?_)⟩
  subst e
  refine cx_range (a := 1) (b := 9) hw (by unfold i32; omega) (by unfold i32; omega) (by omega) (fun c => Or.inr (Or.inr ⟨rfl, fun _ => X 3 (by unfold cdSW; rw [if_pos (by omega), if_neg (by omega), if_neg c]) (by decide)⟩)) (fun w1 w2 => ?_)
  have hc : cdSW ρ k w 1 9 = 0 := by unfold cdSW; rw [if_pos (by omega), if_neg (by omega), if_pos ⟨w1, w2⟩]
  have K := K hc
  have hp := hp.1 hc
  simp only [Int.toNat_natCast] at hp K
  refine ⟨T k, rfl, of_eq_true (h.1.Tk k hk), ?_⟩
  rw [h.1.t3 k hk]
  rintro _ rfl
  exact cx_sv K (h.up (h.1.w3 k w hk) rfl (by decide) (by decide) (by decide) (by decide) (by omega)) (fun S' n' hL => wr_end hL hO (hp S' n' hL))
theorem xl_setLimit {c : Int} {p w : Int} (K : cdSW ρ p w 0 500 = 0 → K0 c (up ρ 7 p.toNat w)) (hT : okT ρ) (h : BB P S S x T J V L E ρ al ln vi n B) (hO : oK P S out 12) (hi : i32 p) (hw : i32 w) {post : Int32 → fMS → Nat → Prop}
    (hp : xP P S x B out (svS (up ρ 7 p.toNat w)) ρ (cdSW ρ p w 0 500) (Int32.toInt64 (iI (ρ 7 p.toNat))) post) : wp_L_setLimit S n (some x) (iI p) (iI w) (some out) post := by
  have hr := h.r
  have X := hp.no h
  unfold wp_L_setLimit wp_X3_setLimit
  refine ⟨x, rfl, h.1.1.1, h.1.1.1, cx_below hT h hi (fun c => Or.inl ⟨rfl, fun _ => X 1 (by unfold cdSW; rw [if_neg c]) (by decide)⟩) (fun c => Or.inr (Or.inl ⟨rfl, fun _ => X 2 (by have := hT.1; unfold cdSW; rw [if_pos (by omega), if_pos c]) (by decide)⟩)) (fun k e k1 hk => ?_)⟩
  subst e
  refine cx_range (a := 0) (b := 500) hw (by unfold i32; omega) (by unfold i32; omega) (by omega) (fun c => Or.inr (Or.inr ⟨rfl, fun _ => X 3 (by unfold cdSW; rw [if_pos (by omega), if_neg (by omega), if_neg c]) (by decide)⟩)) (fun w1 w2 => ?_)
  have hc : cdSW ρ k w 0 500 = 0 := by unfold cdSW; rw [if_pos (by omega), if_neg (by omega), if_pos ⟨w1, w2⟩]
  have K := K hc
  have hp := hp.1 hc
  simp only [Int.toNat_natCast] at hp K
  refine ⟨T k, rfl, of_eq_true (h.1.Tk k hk), ?_⟩
  rw [h.1.t4 k hk]
  rintro _ rfl
  exact cx_sv K (h.up (h.1.w4 k w hk) rfl (by decide) (by decide) (by decide) (by decide) (by omega)) (fun S' n' hL => wr_end hL hO (hp S' n' hL))
theorem xl_setCapacity {c : Int} {w : Int} (K : cdCap ρ w = 0 → K0 c (up ρ 2 0 w)) (hT : okT ρ) (h : BB P S S x T J V L E ρ al ln vi n B) (hO : oK P S out 12) (hw : i32 w) {post : Int32 → fMS → Nat → Prop}
    (hp : xP P S x B out (svS (up ρ 2 0 w)) ρ (cdCap ρ w) (Int32.toInt64 (iI (ρ 2 0))) post) : wp_L_setCapacity S n (some x) (iI w) (some out) post := by
  have hr := h.r
  have X := hp.no h
  have hB := h.2.2.2.1
  have b10 := hB 10 0
  have nt := hT.1
  have w1 := hw.1; have w2 := hw.2
  unfold wp_L_setCapacity wp_X3_setCapacity
  refine ⟨x, rfl, h.1.1.1, cx_range (a := 0) (b := 200) hw (by unfold i32; omega) (by unfold i32; omega) (by omega) (fun c => Or.inl ⟨rfl, fun _ => X 1 (by unfold cdCap; rw [if_neg c]) (by decide)⟩) (fun w1 w2 => ⟨h.1.1.1, T 0, h.1.xT, of_eq_true (h.1.Tk 0 (by omega)), ?_⟩)⟩
  rw [h.1.t6 0 (by omega), h.1.x7]
  have ele : (iI (ρ 10 0) ≤ iI w) = (ρ 10 0 ≤ w) := iI_le (by omega) (by omega) (by omega) (by omega)
  rw [ele]
  refine ⟨fun d => ?_, fun d => ⟨by omega, Or.inr ⟨rfl, fun _ => X 2 (by unfold cdCap; rw [if_pos ⟨w1, w2⟩, if_neg d]) (by decide)⟩⟩⟩
  have hc : cdCap ρ w = 0 := by unfold cdCap; rw [if_pos ⟨w1, w2⟩, if_pos d]
  rintro _ rfl
  exact cx_sv (K hc) (h.up (h.1.wX 7 2 w (by omega)) rfl (by decide) (by decide) (by decide) (by decide) (by omega)) (fun S' n' hL => wr_end hL hO (hp.1 hc S' n' hL))
theorem xl_setHalfTime {c : Int} {w : Int} (K : cdHalf w = 0 → K0 c (up ρ 3 0 w)) (h : BB P S S x T J V L E ρ al ln vi n B) (hO : oK P S out 12) (hw : i32 w) {post : Int32 → fMS → Nat → Prop}
    (hp : xP P S x B out (svS (up ρ 3 0 w)) ρ (cdHalf w) (Int32.toInt64 (iI (ρ 3 0))) post) : wp_L_setHalfTime S n (some x) (iI w) (some out) post := by
  have hr := h.r
  have X := hp.no h
  unfold wp_L_setHalfTime wp_X3_setHalfTime
  refine ⟨x, rfl, h.1.1.1, cx_range (a := 1) (b := 100) hw (by unfold i32; omega) (by unfold i32; omega) (by omega) (fun c => ⟨rfl, fun _ => X 1 (by unfold cdHalf; rw [if_neg c]) (by decide)⟩) (fun w1 w2 => ⟨h.1.1.1, ?_⟩)⟩
  rw [h.1.x8]
  have hc : cdHalf w = 0 := by unfold cdHalf; rw [if_pos ⟨w1, w2⟩]
  rintro _ rfl
  exact cx_sv (K hc) (h.up (h.1.wX 8 3 w (by omega)) rfl (by decide) (by decide) (by decide) (by decide) (by omega)) (fun S' n' hL => wr_end hL hO (hp.1 hc S' n' hL))
theorem xl_parentOf {p : Int} (hT : okT ρ) (h : BB P S S x T J V L E ρ al ln vi n B) (hO : oK P S out 12) (hi : i32 p) {post : Int32 → fMS → Nat → Prop}
    (hp : xP P S x B out ρ ρ (cdPar ρ p) (Int32.toInt64 (iI (ρ 5 p.toNat))) post) : wp_L_parentOf S n (some x) (iI p) (some out) post := by
  have hr := h.r
  have X := hp.no h
  unfold wp_L_parentOf wp_X3_parentOf
  refine ⟨x, rfl, h.1.1.1, h.1.1.1, cx_below hT h hi (fun c => Or.inl ⟨rfl, fun _ => X 1 (by unfold cdPar; rw [if_neg c]) (by decide)⟩) (fun c => Or.inr ⟨rfl, fun _ => X 2 (by have := hT.1; unfold cdPar; rw [if_pos (by omega), if_pos c]) (by decide)⟩) (fun k e k1 hk => ?_)⟩
  subst e
  have hc : cdPar ρ k = 0 := by unfold cdPar; rw [if_pos (by omega), if_neg (by omega)]
  have hp := hp.1 hc
  simp only [Int.toNat_natCast] at hp
  refine ⟨T k, rfl, of_eq_true (h.1.Tk k hk), ?_⟩
  have b5 := hT.2.2.2 k k1 hk
  obtain ⟨q, hq⟩ : ∃ q : Nat, ρ 5 k = q := ⟨(ρ 5 k).toNat, by omega⟩
  rw [h.1.tp k hk, if_neg (by omega), hq, Int.toNat_natCast]
  rintro _ rfl
  refine ⟨fun _ => ⟨T q, rfl, of_eq_true (h.1.Tk q (by omega)), ?_⟩, fun z => by cases z⟩
  rw [h.1.t0 q (by omega)]
  rw [hq] at hp
  exact wr_end (h.toL (k := 0) (by omega)) hO (hp S n (h.toL (k := 0) (by omega)))
theorem xl_children {p : Int} (hT : okT ρ) (h : BB P S S x T J V L E ρ al ln vi n B) (hO : oK P S out 12) (hi : i32 p) {post : Int32 → fMS → Nat → Prop}
    (hp : xP P S x B out ρ ρ (cdT ρ p) (Int32.toInt64 (iI (kidsN ρ p))) post) : wp_L_children S n (some x) (iI p) (some out) post := by
  have hr := h.r
  have X := hp.no h
  unfold wp_L_children wp_X3_children
  refine ⟨x, rfl, h.1.1.1, h.1.1.1, cx_teamAt hT h hi (fun c => ⟨rfl, fun _ => X 1 (by unfold cdT; rw [if_neg c]) (by decide)⟩) (fun k e hk => ?_)⟩
  subst e
  have hc : cdT ρ k = 0 := by unfold cdT; rw [if_pos (by omega)]
  refine ⟨T k, rfl, of_eq_true (h.1.Tk k hk), L (10 + k), h.1.tc k hk, of_eq_true (h.1.kc k hk), ?_⟩
  rw [h.1.sc k hk, kdl_len hT (by omega)]
  exact wr_end (h.toL (k := 0) (by omega)) hO (hp.1 hc S n (h.toL (k := 0) (by omega)))
theorem xl_running {p : Int} (hT : okT ρ) (h : BB P S S x T J V L E ρ al ln vi n B) (hO : oK P S out 12) (hi : i32 p) {post : Int32 → fMS → Nat → Prop}
    (hp : xP P S x B out ρ ρ (cdT ρ p) (Int32.toInt64 (iI (ρ 10 p.toNat))) post) : wp_L_running S n (some x) (iI p) (some out) post := by
  have hr := h.r
  have X := hp.no h
  unfold wp_L_running wp_X3_running
  refine ⟨x, rfl, h.1.1.1, h.1.1.1, cx_teamAt hT h hi (fun c => ⟨rfl, fun _ => X 1 (by unfold cdT; rw [if_neg c]) (by decide)⟩) (fun k e hk => ?_)⟩
  subst e
  have hc : cdT ρ k = 0 := by unfold cdT; rw [if_pos (by omega)]
  have hp := hp.1 hc
  simp only [Int.toNat_natCast] at hp
  refine ⟨T k, rfl, of_eq_true (h.1.Tk k hk), ?_⟩
  rw [h.1.t6 k hk]
  exact wr_end (h.toL (k := 0) (by omega)) hO (hp S n (h.toL (k := 0) (by omega)))
theorem xl_stateOf {p : Int} (hJ : okJ ρ) (h : BB P S S x T J V L E ρ al ln vi n B) (hO : oK P S out 12) (hi : i32 p) {post : Int32 → fMS → Nat → Prop}
    (hp : xP P S x B out ρ ρ (cdJob ρ p) (Int32.toInt64 (iI (stV (ρ 17 p.toNat)))) post) : wp_L_stateOf S n (some x) (iI p) (some out) post := by
  have hr := h.r
  have X := hp.no h
  unfold wp_L_stateOf wp_X3_stateOf
  refine ⟨x, rfl, h.1.1.1, h.1.1.1, cx_jobAt hJ h hi (fun c => ⟨rfl, fun _ => X 1 (by unfold cdJob; rw [if_neg c]) (by decide)⟩) (fun k e hk => ?_)⟩
  subst e
  have hc : cdJob ρ k = 0 := by unfold cdJob; rw [if_pos (by omega)]
  have hp := hp.1 hc
  simp only [Int.toNat_natCast] at hp
  refine ⟨J k, rfl, of_eq_true (h.1.Jk k hk), ?_⟩
  rw [h.1.j4 k hk]
  refine ⟨?_, wr_end (h.toL (k := 0) (by omega)) hO (hp S n (h.toL (k := 0) (by omega)))⟩
  unfold stV
  split
  · decide
  · split
    · decide
    · split <;> decide
theorem xl_toGo {p : Int} (hJ : okJ ρ) (h : BB P S S x T J V L E ρ al ln vi n B) (hO : oK P S out 12) (hi : i32 p) {post : Int32 → fMS → Nat → Prop}
    (hp : xP P S x B out ρ ρ (cdLive ρ p) (Int32.toInt64 (iI (if ρ 17 p.toNat = 1 then ρ 16 p.toNat else ρ 15 p.toNat))) post) : wp_L_toGo S n (some x) (iI p) (some out) post := by
  have hr := h.r
  have X := hp.no h
  unfold wp_L_toGo wp_X3_toGo
  refine ⟨x, rfl, h.1.1.1, h.1.1.1, cx_liveAt hJ h hi (fun c => Or.inl ⟨rfl, fun _ => X 1 (by unfold cdLive; rw [if_neg c]) (by decide)⟩) (fun c d => Or.inr ⟨rfl, fun _ => X 2 (by unfold cdLive; rw [if_pos c, if_neg d]) (by decide)⟩) (fun k e hk hs => ?_)⟩
  subst e
  have hc : cdLive ρ k = 0 := by unfold cdLive; rw [if_pos (by omega), if_pos (by rw [Int.toNat_natCast]; exact hs)]
  have hp := hp.1 hc
  simp only [Int.toNat_natCast] at hp
  have b := stV_b (ρ 17 k)
  refine ⟨J k, rfl, of_eq_true (h.1.Jk k hk), ?_⟩
  simp (disch := omega) only [h.1.j4 k hk, h.1.j3 k hk, h.1.j5 k hk, show (114 : Int32) = iI 114 from rfl, iI_eq, stV_r]
  refine ⟨fun c => ?_, fun c => ?_⟩
  · rw [if_neg c] at hp; exact wr_end (h.toL (k := 0) (by omega)) hO (hp S n (h.toL (k := 0) (by omega)))
  · rw [if_pos c] at hp; exact wr_end (h.toL (k := 0) (by omega)) hO (hp S n (h.toL (k := 0) (by omega)))
theorem xl_stops {p : Int} (hJ : okJ ρ) (h : BB P S S x T J V L E ρ al ln vi n B) (hO : oK P S out 12) (hi : i32 p) {post : Int32 → fMS → Nat → Prop}
    (hp : xP P S x B out ρ ρ (cdJob ρ p) (Int32.toInt64 (iI (ρ 18 p.toNat))) post) : wp_L_stops S n (some x) (iI p) (some out) post := by
  have hr := h.r
  have X := hp.no h
  unfold wp_L_stops wp_X3_stops
  refine ⟨x, rfl, h.1.1.1, h.1.1.1, cx_jobAt hJ h hi (fun c => ⟨rfl, fun _ => X 1 (by unfold cdJob; rw [if_neg c]) (by decide)⟩) (fun k e hk => ?_)⟩
  subst e
  have hc : cdJob ρ k = 0 := by unfold cdJob; rw [if_pos (by omega)]
  have hp := hp.1 hc
  simp only [Int.toNat_natCast] at hp
  refine ⟨J k, rfl, of_eq_true (h.1.Jk k hk), ?_⟩
  rw [h.1.j6 k hk]
  exact wr_end (h.toL (k := 0) (by omega)) hO (hp S n (h.toL (k := 0) (by omega)))
theorem xl_use {p : Int} (hT : okT ρ) (h : BB P S S x T J V L E ρ al ln vi n B) (hO : oK P S out 12) (hi : i32 p) {post : Int32 → fMS → Nat → Prop}
    (hp : xP P S x B out ρ ρ (cdLeaf ρ p) (jJ (ρ 8 p.toNat)) post) : wp_L_use S n (some x) (iI p) (some out) post := by
  have hr := h.r
  have X := hp.no h
  unfold wp_L_use wp_X3_use
  refine ⟨x, rfl, h.1.1.1, h.1.1.1, cx_leafAt hT h hi (fun c => Or.inl ⟨rfl, fun _ => X 1 (by unfold cdLeaf; rw [if_neg c]) (by decide)⟩) (fun c d => Or.inr ⟨rfl, fun _ => X 2 (by unfold cdLeaf; rw [if_pos c, if_neg d]) (by decide)⟩) (fun k e hk hl => ?_)⟩
  subst e
  have hc : cdLeaf ρ k = 0 := by unfold cdLeaf; rw [if_pos (by omega), if_pos hl]
  have hp := hp.1 hc
  simp only [Int.toNat_natCast] at hp
  refine ⟨T k, rfl, of_eq_true (h.1.Tk k hk), ?_⟩
  rw [h.1.tu k hk]
  exact wr_end (h.toL (k := 0) (by omega)) hO (hp S n (h.toL (k := 0) (by omega)))
end
