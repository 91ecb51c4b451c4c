-- ===== the law, of an empty memory =====
theorem law_pure {L : Nat} {xs : Nat → Int32} (hL : L ≤ 2560) (e mi : Nat) : wp_L_law (st_S e mi) 0 L xs :=
  law_bare hL (st_S e mi) List.not_mem_nil rfl
