theorem vxw_77 : ∀ w ∈ vx_atS RX3 77 "java/lang/IllegalStateException" ["java/lang/RuntimeException", "java/lang/Exception"], w ∈ fBig ∨ (w ∈ tables_1 ∧ fcd w = true) := by
  have h : ∀ w ∈ vx_atS RX3 77 "java/lang/IllegalStateException" ["java/lang/RuntimeException", "java/lang/Exception"], (w ∈ lw_tbl ∧ goodWord w = true) ∨ (w ∈ tables_1 ∧ fcd w = true) := by decide +kernel
  intro w hw
  rcases h w hw with ⟨h1, h2⟩ | h1
  · exact Or.inl (List.mem_filter.mpr ⟨h1, h2⟩)
  · exact Or.inr h1
theorem vxw_238 : ∀ w ∈ vx_atS RX3 238 "java/lang/ArithmeticException" ["java/lang/RuntimeException", "java/lang/Exception"], w ∈ fBig ∨ (w ∈ tables_1 ∧ fcd w = true) := by
  have h : ∀ w ∈ vx_atS RX3 238 "java/lang/ArithmeticException" ["java/lang/RuntimeException", "java/lang/Exception"], (w ∈ lw_tbl ∧ goodWord w = true) ∨ (w ∈ tables_1 ∧ fcd w = true) := by decide +kernel
  intro w hw
  rcases h w hw with ⟨h1, h2⟩ | h1
  · exact Or.inl (List.mem_filter.mpr ⟨h1, h2⟩)
  · exact Or.inr h1
theorem vxw_252 : ∀ w ∈ vx_atS RX3 252 "java/lang/IndexOutOfBoundsException" ["java/lang/RuntimeException", "java/lang/Exception"], w ∈ fBig ∨ (w ∈ tables_1 ∧ fcd w = true) := by
  have h : ∀ w ∈ vx_atS RX3 252 "java/lang/IndexOutOfBoundsException" ["java/lang/RuntimeException", "java/lang/Exception"], (w ∈ lw_tbl ∧ goodWord w = true) ∨ (w ∈ tables_1 ∧ fcd w = true) := by decide +kernel
  intro w hw
  rcases h w hw with ⟨h1, h2⟩ | h1
  · exact Or.inl (List.mem_filter.mpr ⟨h1, h2⟩)
  · exact Or.inr h1
theorem vxw_257 : ∀ w ∈ vx_atS RX3 257 "java/lang/UnsupportedOperationException" ["java/lang/RuntimeException", "java/lang/Exception"], w ∈ fBig ∨ (w ∈ tables_1 ∧ fcd w = true) := by
  have h : ∀ w ∈ vx_atS RX3 257 "java/lang/UnsupportedOperationException" ["java/lang/RuntimeException", "java/lang/Exception"], (w ∈ lw_tbl ∧ goodWord w = true) ∨ (w ∈ tables_1 ∧ fcd w = true) := by decide +kernel
  intro w hw
  rcases h w hw with ⟨h1, h2⟩ | h1
  · exact Or.inl (List.mem_filter.mpr ⟨h1, h2⟩)
  · exact Or.inr h1
theorem vxw_267 : ∀ w ∈ vx_atS RX3 267 "java/lang/IllegalArgumentException" ["java/lang/RuntimeException", "java/lang/Exception"], w ∈ fBig ∨ (w ∈ tables_1 ∧ fcd w = true) := by
  have h : ∀ w ∈ vx_atS RX3 267 "java/lang/IllegalArgumentException" ["java/lang/RuntimeException", "java/lang/Exception"], (w ∈ lw_tbl ∧ goodWord w = true) ∨ (w ∈ tables_1 ∧ fcd w = true) := by decide +kernel
  intro w hw
  rcases h w hw with ⟨h1, h2⟩ | h1
  · exact Or.inl (List.mem_filter.mpr ⟨h1, h2⟩)
  · exact Or.inr h1
