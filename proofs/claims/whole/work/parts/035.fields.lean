/-! rows that a program decides, of the classes' fields -/
theorem mcl_at {k : Nat} (hk : k < 11) : mcl[k]? = some (mkd k) := by
  unfold mcl
  rw [List.getElem?_map, List.getElem?_range hk]
  rfl
set_option maxRecDepth 100000 in
theorem mlays : ∀ k, k < 11 → ∀ w ∈ u_ws (mkd k).1 (mkd k).2.1 (mkd k).2.2, w ∈ mTb := by decide +kernel
set_option maxRecDepth 100000 in
theorem mtys_ok : ∀ k, k < 11 → ∀ f, f < (mkd k).2.2 → parseFieldDescriptor ((mkd k).2.1 f).2.2.1 = some (mty k f) := by decide +kernel
set_option maxRecDepth 100000 in
theorem mnames_ok : ∀ k, k < 11 → ∀ a, a < (mkd k).2.2 → ∀ b, b < (mkd k).2.2 → a ≠ b → ((mkd k).2.1 a).2.1 ≠ ((mkd k).2.1 b).2.1 := by decide +kernel
