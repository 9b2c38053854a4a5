/-! the start keeps the invariant -/
theorem mz_P7 (g : mG) (n f : Nat) : hP (mzB g) 7 n f = none := rfl
theorem mz_P8 (g : mG) (n f : Nat) : hP (mzB g) 8 n f = none := rfl
theorem mz_st (g : mG) (k f : Nat) (r : Nat × Nat) (h : mst k f = some r) : hP (mzB g) k 0 f = some r := by
  unfold mst at h
  split at h <;> first | (cases h; rfl) | cases h
theorem mz_ln (g : mG) (k n l : Nat) (h : mln k n = some l) : hL (mzB g) k n = l := by
  unfold mln at h
  split at h <;> first | (cases h; rfl) | cases h
theorem mz_S (g : mG) : mSK (mzB g) := by
  refine ⟨mz_st g, mz_ln g, fun k n f t r z p => ?_⟩
  have q : k = 7 ∨ k = 8 := by
    unfold mkn at z
    split at z <;> first | exact Or.inl rfl | exact Or.inr rfl | cases z
  rcases q with rfl | rfl
  · rw [mz_P7] at p; cases p
  · rw [mz_P8] at p; cases p
theorem mz_I (g : mG) : mI (mzB g) 0 0 0 0 (fun _ => 0) := by
  refine ⟨⟨mz_S g, ⟨by omega, by omega, by omega, by omega⟩, ⟨⟨rfl, by omega, Or.inl ⟨rfl, rfl⟩⟩, ⟨rfl, by omega, Or.inl ⟨rfl, rfl⟩⟩, ⟨rfl, by omega, Or.inl ⟨rfl, rfl⟩⟩, ⟨rfl, by omega, Or.inl ⟨rfl, rfl⟩⟩, fun l l' e e' a b p p' => ?_⟩, ⟨rfl, rfl, rfl⟩, ⟨rfl, rfl, rfl, rfl⟩, fun i hi => absurd hi (Nat.not_lt_zero _), fun i hi => absurd hi (Nat.not_lt_zero _), fun i hi => absurd hi (Nat.not_lt_zero _), fun i hi => absurd hi (Nat.not_lt_zero _), ⟨⟨0, by omega, rfl, rfl⟩, ⟨1, by omega, by omega, rfl, rfl⟩, ⟨0, by omega, by omega, rfl, rfl⟩, fun i hi => rfl⟩, ⟨fun k hk => absurd hk (Nat.not_lt_zero _), fun k q1 q2 => ?_⟩⟩, ⟨fun t ht => ⟨rfl, rfl⟩, fun j hj => ⟨rfl, rfl⟩, fun k hk => rfl, fun j hj => absurd hj (Nat.not_lt_zero _)⟩, Or.inl rfl⟩
  · have : l = 0 ∨ l = 1 ∨ l = 2 ∨ l = 3 := by omega
    rcases this with rfl | rfl | rfl | rfl
    · cases (show some (15, 0) = some (13, e) from p)
    · cases (show some (15, 0) = some (13, e) from p)
    · cases (show some (15, 0) = some (13, e) from p)
    · cases (show some (15, 0) = some (13, e) from p)
  · rw [tB_bit _ q2]
    exact tB_0 k
