-- ===== the broker forgets dead jobs; cancel =====
section
theorem mid_getD {a : Nat} {R : List Nat} : ∀ {A : List Nat} {m : Nat}, A.length = m → (A ++ a :: R).getD m 0 = a := by
  intro A m h; subst h; simp [List.getD_eq_getElem?_getD]
theorem mid_del {a : Nat} {R : List Nat} : ∀ {A : List Nat} {m : Nat}, A.length = m → (A ++ a :: R).eraseIdx m = A ++ R := by
  intro A; induction A with
  | nil => intro m h; subst h; rfl
  | cons b A ih =>
    intro m h; subst h
    simp only [List.length_cons, List.cons_append, List.eraseIdx_cons_succ]
    rw [ih rfl]
variable {P : Nat → Prop} {F S S' : fMS} {x n B out : Nat} {T J V L E E' : Nat → Nat} {ρ ρ' σ τ φ ψ : fG2} {al ln vi ln' vi' : List Nat}
def lvB (ρ : fG2) (j : Nat) : Bool := decide (ρ 17 j = 0 ∨ ρ 17 j = 1)
theorem cx_forget (h : RB P F S x T J V L E ρ al ln vi) (hn : rmB S E n B) (alm : ∀ j ∈ al, (j : Int) < ρ 12 0) (all : al.length ≤ 40) {post : fMS → Nat → Prop}
    (hp : ∀ S', RB P F S' x T J V L E ρ (al.filter (lvB ρ)) ln vi → rmB S' E n B → post S' n) : wp_X3_forgetDeadJobs S n x post := by
  have key : ∀ (k : Nat) (S : fMS), k ≤ al.length → RB P F S x T J V L E ρ (al.take k ++ (al.drop k).filter (lvB ρ)) ln vi → rmB S E n B → wB_X3_forgetDeadJobs_10 post x (k + 1) S n (iI ((k : Int) - 1)) := by
    intro k; induction k with
    | zero =>
      intro S hk h hn
      rw [wB_X3_forgetDeadJobs_10]
      have e : (iI (((0 : Nat) : Int) - 1) < (0 : Int32)) = (((0 : Nat) : Int) - 1 < 0) := iI_lt (b := 0) (by omega) (by omega) (by omega) (by omega)
      rw [e]
      refine ⟨fun _ => hp S ?_ hn, fun c => absurd (by omega) c⟩
      simpa using h
    | succ k ih =>
      intro S hk h hn
      have hd : al.drop k = al[k] :: al.drop (k + 1) := List.drop_eq_getElem_cons (by omega)
      obtain ⟨j, hj⟩ : ∃ j, j = al[k] := ⟨_, rfl⟩
      have jn := alm j (by rw [hj]; exact List.getElem_mem _)
      have ht : al.take (k + 1) = al.take k ++ [j] := by rw [List.take_succ, List.getElem?_eq_getElem (by omega), hj]; rfl
      have hlen : (al.take k).length = k := by rw [List.length_take]; omega
      rw [← hj] at hd
      rw [ht, List.append_assoc, List.singleton_append] at h
      have e0 : (((k + 1 : Nat) : Int) - 1) = (k : Int) := by omega
      rw [wB_X3_forgetDeadJobs_10, e0]
      have e : (iI (k : Int) < (0 : Int32)) = ((k : Int) < 0) := iI_lt (b := 0) (by omega) (by omega) (by omega) (by omega)
      rw [e]
      refine ⟨fun c => absurd c (by omega), fun _ => ⟨h.1.1, L 3, h.x3, of_eq_true h.k3, ?_⟩⟩
      rw [h.g3 k (by simp; omega), mid_getD hlen]
      refine ⟨J j, rfl, of_eq_true (h.Jk j jn), ?_⟩
      have e9 : iI (k : Int) + (-1) = iI ((k : Int) - 1) := by rw [iI_m1, iI_add, show (k : Int) + -1 = (k : Int) - 1 by omega]
      refine cx_alive h jn (fun c => ⟨fun _ => ?_, fun z => absurd z (by decide)⟩) (fun c => ⟨fun z => absurd rfl z, fun _ => ?_⟩)
      · rintro _ rfl
        rw [e9]
        refine ih S (by omega) ?_ hn
        rw [hd, List.filter_cons_of_pos (by unfold lvB; rw [decide_eq_true_eq]; exact c)]; exact h
      · refine h.del3 hn (by simp; omega) (fun S1 h1 hn1 => ?_)
        rintro _ rfl
        rw [e9]
        refine ih S1 (by omega) ?_ hn1
        rw [hd, List.filter_cons_of_neg (by unfold lvB; rw [decide_eq_true_eq]; exact c)]
        rw [mid_del hlen] at h1; exact h1
  unfold wp_X3_forgetDeadJobs
  refine ⟨h.1.1, L 3, h.x3, of_eq_true h.k3, ?_⟩
  rw [h.s3]
  rintro _ rfl
  rw [iI_1, iI_sub]
  refine ⟨_, key al.length S (Nat.le_refl _) ?_ hn⟩
  simpa using h
theorem alv_filter (h12 : τ 12 0 = ρ 12 0) (h17 : ∀ i, τ 17 i = 0 ∨ τ 17 i = 1 → ρ 17 i = 0 ∨ ρ 17 i = 1) : (alv ρ).filter (lvB τ) = alv τ := by
  unfold alv
  rw [List.filter_filter, h12]
  refine List.filter_congr (fun i _ => ?_)
  unfold lvB
  by_cases c : τ 17 i = 0 ∨ τ 17 i = 1
  · rw [decide_eq_true c, decide_eq_true (h17 i c)]; rfl
  · rw [decide_eq_false c]; rfl
theorem lvF_17x {j i : Nat} {st : Int} (h0 : st ≠ 0) (h1 : st ≠ 1) (h : lvF ρ j st 17 i = 0 ∨ lvF ρ j st 17 i = 1) : ρ 17 i = 0 ∨ ρ 17 i = 1 := by
  rw [lvF_17] at h
  split at h
  · omega
  · exact h
theorem lvF_h40 {j : Nat} {st : Int} (h1 : st ≠ 1) (h : h40 ρ) : h40 (lvF ρ j st) := by
  intro i hi hs
  rw [lvF_ne (by decide) (by decide) (by decide) (by decide)] at hi
  rw [lvF_ne (by decide) (by decide) (by decide) (by decide), lvF_ne (by decide) (by decide) (by decide) (by decide)]
  refine h i hi ?_
  rw [lvF_17] at hs
  split at hs
  · exact absurd hs h1
  · exact hs
/-- what it leaves is the same for both -/
theorem lv_ht {j : Nat} {st : Int} (hs : ρ 17 j = 1) {g k : Nat} (h11 : g ≠ 11) (h21 : g ≠ 21) : lvF ρ j st g k = up (htF ρ j) 17 j st g k := by
  unfold lvF
  rw [if_pos hs, up_ne h21]
  unfold up
  split
  · rfl
  · unfold htF rmS
    try dsimp only
    have ec : chS (up (up ρ 17 j 0) 11 (ρ 13 j).toNat (ρ 11 (ρ 13 j).toNat + ρ 14 j)) (ρ 13 j).toNat = chS ρ (ρ 13 j).toNat := chF_cong (fun k => by rw [up_ne (by decide), up_ne (by decide)]) 11 _
    rw [ec]
    unfold adL
    by_cases c : g = 10 ∧ k ∈ chS ρ (ρ 13 j).toNat
    · rw [if_pos c, if_pos c, up_ne (by omega), up_ne (by omega)]
    · rw [if_neg c, if_neg c, up_ne h11]
      rename_i c17
      exact (if_neg c17).symm
theorem lv_up {j : Nat} {st : Int} (hs : ρ 17 j ≠ 1) {g k : Nat} (h11 : g ≠ 11) (h21 : g ≠ 21) : lvF ρ j st g k = up ρ 17 j st g k := by
  unfold lvF
  rw [if_neg hs, up_ne h21]
  unfold up
  split
  · rfl
  · rename_i c; exact if_neg (fun z => h11 z.1)
theorem xl_cancel {c : Int} {p : Int} (K : cdLive ρ p = 0 → K0 c (lvF ρ p.toNat 3)) (hi : inv ρ) (h : BB P S S x T J V L E ρ al ln vi n B) (hO : oK P S out 12) (ht : i32 p) {post : Int32 → fMS → Nat → Prop}
    (hp : xP P S x B out (svS (lvF ρ p.toNat 3)) ρ (cdLive ρ p) (Int32.toInt64 (iI (if ρ 17 p.toNat = 1 then ρ 14 p.toNat else 0))) post) : wp_L_cancel S n (some x) (iI p) (some out) post := by
  have hr := h.r
  have X := hp.no h
  obtain ⟨q1, q2, q3, q4⟩ := hi.B4
  unfold wp_L_cancel wp_X3_cancel
  refine ⟨x, rfl, h.1.1.1, h.1.1.1, cx_liveAt hi.J h ht (fun c => Or.inl ⟨rfl, fun _ => X 1 (by unfold cdLive; rw [if_neg c]) (by decide)⟩) (fun c d => Or.inr ⟨rfl, fun _ => X 2 (by unfold cdLive; rw [if_pos c, if_neg d]) (by decide)⟩) (fun j e hj hs => ?_)⟩
  subst e
  have hc : cdLive ρ j = 0 := by unfold cdLive; rw [if_pos (by omega), if_pos (by rw [Int.toNat_natCast]; exact hs)]
  have hp := hp.1 hc
  have K := K hc
  simp only [Int.toNat_natCast] at hp K
  have e12 : lvF ρ j 3 12 0 = ρ 12 0 := lvF_ne (by decide) (by decide) (by decide) (by decide)
  refine ⟨J j, rfl, of_eq_true (h.1.Jk j hj), ?_⟩
  rw [h.1.j4 j hj, h.1.j2 j hj]
  have b := stV_b (ρ 17 j)
  have e1 : (iI (stV (ρ 17 j)) = (114 : Int32)) = (ρ 17 j = 1) := by
    rw [show (114 : Int32) = iI 114 from rfl, iI_eq (by omega) (by omega) (by omega) (by omega)]
    exact propext stV_r
  rw [e1]
  -- the end of both
  have fin : ∀ (S1 : fMS) (v : Int), RB P S (wI S1 (J j) 4 (iI (stV 3))) x T J V L E (lvF ρ j 3) al ln vi → rmB S1 E n B → isA S1 1 (J j) → v = (if ρ 17 j = 1 then ρ 14 j else 0) →
      wB_X3_cancel_26 (fun v4 S5 n6 => ∃ a7 : Nat, some out = some a7 ∧ isA S5 12 a7 ∧ vp_in (0 : Int32) (sN S5 a7) ∧ post (0 : Int32) (wJ S5 a7 (Int32.toNatClampNeg (0 : Int32)) (Int32.toInt64 v4)) n6) (fun X11 S12 n13 => (X11 = "java/util/NoSuchElementException" ∧ ∀ q14 : Nat, post (1 : Int32) S12 n13) ∨ (X11 = "java/lang/IllegalStateException" ∧ ∀ q14 : Nat, post (2 : Int32) S12 n13)) x (iI (j : Int)) S1 n (some (J j)) (iI v) := by
    intro S1 v h1 hn1 k1 hv
    unfold wB_X3_cancel_26
    refine ⟨J j, rfl, k1, h1.1.1, ?_⟩
    refine cx_forget h1 (hn1.w rfl) (fun i hm => ?_) ?_ (fun S2 h2 hn2 => ⟨h2.1.1, ?_⟩)
    · rw [h.2.2.1] at hm; rw [e12]; exact ((alv_mem hi.J).mp hm).1
    · rw [h.2.2.1]; exact alv_l hi
    · rw [h.2.2.1, alv_filter e12 (fun i => lvF_17x (by decide) (by decide))] at h2
      have hb : BB P S S2 x T J V L E (lvF ρ j 3) (alv (lvF ρ j 3)) ln vi n B := ⟨h2, hn2, rfl, lvF_B h.2.2.2.1 K.1.1 (by omega), lvF_h40 (by decide) h.2.2.2.2.1, h.2.2.2.2.2⟩
      refine cx_sv K hb (fun S' n' hL => ?_)
      rw [hv]
      exact wr_end hL hO (hp S' n' hL)
  refine ⟨fun c => ?_, fun c => ?_⟩
  · have hw := h.1.wSt j 3 hj
    exact fin S 0 (hw.cg (fun g k _ h11 _ h21 _ _ _ _ _ _ => lv_up c h11 h21)) h.2.1 (of_eq_true (h.1.Jk j hj)) (by rw [if_neg c])
  · rintro _ rfl
    refine cx_give hi.T hi.J h.1 h.2.1 hj (fun S1 h1 hn1 => ?_)
    have e12' : htF ρ j 12 0 = ρ 12 0 := by rw [htF_g]; exact gF_ne (by decide) (by decide) (by decide)
    have hw := h1.wSt j 3 (by rw [e12']; exact hj)
    exact fin S1 _ (hw.cg (fun g k _ h11 _ h21 _ _ _ _ _ _ => lv_ht c h11 h21)) hn1 (of_eq_true (h1.Jk j (by rw [e12']; exact hj))) (by rw [if_pos c])
end
