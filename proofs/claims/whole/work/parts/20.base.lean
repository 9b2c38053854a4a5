/-! by hand from here: loops, filled rows, numbers -/
theorem upTo {P : Nat → Prop} {N : Nat} (he : P N) (hs : ∀ i, i < N → P (i + 1) → P i) : ∀ i, i ≤ N → P i := by
  intro i hi
  obtain ⟨k, rfl⟩ : ∃ k, N = i + k := ⟨N - i, by omega⟩
  clear hi
  induction k generalizing i with
  | zero => exact he
  | succ k ih => exact hs i (by omega) (ih (i + 1) (by rw [show i + 1 + k = i + (k + 1) by omega]; exact he) (fun j hj => hs j (by omega)))
/-- row n of kind k, filled up to m -/
def fillI (h : mH) (k n m : Nat) (F : Nat → Int32) : mH := (h.1, fun k' n' f' => if k' = k ∧ n' = n ∧ f' < m then F f' else h.2 k' n' f')
/-- field f of the cells of kind k, filled up to cell m -/
def fillF (h : mH) (k f m : Nat) (F : Nat → Int32) : mH := (h.1, fun k' n' f' => if k' = k ∧ f' = f ∧ n' < m then F n' else h.2 k' n' f')
theorem hI_fillI (h : mH) (k n m : Nat) (F : Nat → Int32) (k' n' f' : Nat) : hI (fillI h k n m F) k' n' f' = if k' = k ∧ n' = n ∧ f' < m then F f' else hI h k' n' f' := rfl
theorem hI_fillF (h : mH) (k f m : Nat) (F : Nat → Int32) (k' n' f' : Nat) : hI (fillF h k f m F) k' n' f' = if k' = k ∧ f' = f ∧ n' < m then F n' else hI h k' n' f' := rfl
theorem fillI_0 (h : mH) (k n : Nat) (F : Nat → Int32) : fillI h k n 0 F = h := by
  obtain ⟨s, i⟩ := h
  unfold fillI
  congr 1
  funext a b c
  exact if_neg (fun z => absurd z.2.2 (Nat.not_lt_zero _))
theorem fillF_0 (h : mH) (k f : Nat) (F : Nat → Int32) : fillF h k f 0 F = h := by
  obtain ⟨s, i⟩ := h
  unfold fillF
  congr 1
  funext a b c
  exact if_neg (fun z => absurd z.2.2 (Nat.not_lt_zero _))
theorem fillI_s {h : mH} {k n m : Nat} {F : Nat → Int32} {v : Int32} (hv : v = F m) : setI (fillI h k n m F) k n m v = fillI h k n (m + 1) F := by
  subst hv
  refine Prod.ext rfl ?_
  funext a b c
  show (if a = k ∧ b = n ∧ c = m then F m else if a = k ∧ b = n ∧ c < m then F c else h.2 a b c) = if a = k ∧ b = n ∧ c < m + 1 then F c else h.2 a b c
  by_cases q : a = k ∧ b = n
  · obtain ⟨rfl, rfl⟩ := q
    by_cases q2 : c = m
    · subst q2
      rw [if_pos ⟨rfl, rfl, rfl⟩, if_pos ⟨rfl, rfl, by omega⟩]
    · rw [if_neg (fun z => q2 z.2.2)]
      by_cases q3 : c < m
      · rw [if_pos ⟨rfl, rfl, q3⟩, if_pos ⟨rfl, rfl, by omega⟩]
      · rw [if_neg (fun z => q3 z.2.2), if_neg (fun z => by omega)]
  · rw [if_neg (fun z => q ⟨z.1, z.2.1⟩), if_neg (fun z => q ⟨z.1, z.2.1⟩), if_neg (fun z => q ⟨z.1, z.2.1⟩)]
theorem fillF_s {h : mH} {k f m : Nat} {F : Nat → Int32} {v : Int32} (hv : v = F m) : setI (fillF h k f m F) k m f v = fillF h k f (m + 1) F := by
  subst hv
  refine Prod.ext rfl ?_
  funext a b c
  show (if a = k ∧ b = m ∧ c = f then F m else if a = k ∧ c = f ∧ b < m then F b else h.2 a b c) = if a = k ∧ c = f ∧ b < m + 1 then F b else h.2 a b c
  by_cases q : a = k ∧ c = f
  · obtain ⟨rfl, rfl⟩ := q
    by_cases q2 : b = m
    · subst q2
      rw [if_pos ⟨rfl, rfl, rfl⟩, if_pos ⟨rfl, rfl, by omega⟩]
    · rw [if_neg (fun z => q2 z.2.1)]
      by_cases q3 : b < m
      · rw [if_pos ⟨rfl, rfl, q3⟩, if_pos ⟨rfl, rfl, by omega⟩]
      · rw [if_neg (fun z => q3 z.2.2), if_neg (fun z => by omega)]
  · rw [if_neg (fun z => q ⟨z.1, z.2.2⟩), if_neg (fun z => q ⟨z.1, z.2.1⟩), if_neg (fun z => q ⟨z.1, z.2.1⟩)]
theorem mT.hp {g : mG} {m : mMe} {d mc ms pc : Nat} {L : List (Option mV)} {st : List mV} {h h' : mH} {Q : Option mV → mH → Prop} (e : h' = h) (B : mT g m d mc ms pc L st h Q) : mT g m d mc ms pc L st h' Q := by rw [e]; exact B
/-- a number below 1000000 as an Int32: what the walks ask of it -/
theorem nc {n : Nat} (h : n ≤ 1000000) : (nI n).toNatClampNeg = n := nI_clamp (by omega)
theorem nle {a b : Nat} (h : a ≤ b) (hb : b ≤ 1000000) : nI a ≤ nI b := nI_le h (by omega)
theorem nnle {a b : Nat} (h : b < a) (ha : a ≤ 1000000) : ¬ nI a ≤ nI b := nI_ge h (by omega)
theorem nlt {a b : Nat} (h : a < b) (hb : b ≤ 1000000) : nI a < nI b := nI_lt h (by omega)
theorem nnlt {a b : Nat} (h : b ≤ a) (ha : a ≤ 1000000) : ¬ nI a < nI b := nI_nlt h (by omega)
theorem nnneg {n : Nat} (h : n ≤ 1000000) : ¬ nI n < 0 := nI_pos (by omega)
theorem nin {n N : Nat} (h : n < N) (hN : N ≤ 1000000) : vp_in (nI n) N := vp_in_nI h (by omega)
theorem nle_iff {a b : Nat} (ha : a ≤ 1000000) (hb : b ≤ 1000000) : nI a ≤ nI b ↔ a ≤ b := nI_leI (by omega) (by omega)
theorem nlt_iff {a b : Nat} (ha : a ≤ 1000000) (hb : b ≤ 1000000) : nI a < nI b ↔ a < b := nI_ltI (by omega) (by omega)
theorem neq_iff {a b : Nat} (ha : a ≤ 1000000) (hb : b ≤ 1000000) : nI a = nI b ↔ a = b := nI_eq (by omega) (by omega)
/-- any int is below 0, or a number -/
theorem i_or (x : Int32) : x < 0 ∨ ∃ n : Nat, n < 2 ^ 31 ∧ x = nI n := by
  by_cases h : x < 0
  · exact Or.inl h
  · exact Or.inr (nI_of h)
theorem zn_0 : vp_nar .boolean (0 : Int32) = 0 := rfl
theorem zn_1 : vp_nar .boolean (1 : Int32) = 1 := rfl
theorem zn {x : Int32} (h : x = 0 ∨ x = 1) : vp_nar .boolean x = x := by rcases h with rfl | rfl <;> rfl
/-- asItIs of the model: leaks, who plays, water -/
def asIs (h : mH) (nT nJ nK : Nat) : mH := fillI (fillI (fillI h 11 28 nJ (hI h 11 19)) 12 2 nK (hI h 12 1)) 11 33 nT (hI h 11 11)
theorem sp_asItIs {g : mG} {d : Nat} {h : mH} {Q : Option mV → mH → Prop} {nT nJ nK : Nat} (hsk : mSK h) (h2 : hI h 10 0 2 = nI nT) (h3 : hI h 10 0 3 = nI nJ) (h4 : hI h 10 0 4 = nI nK) (bT : nT ≤ 4) (bJ : nJ ≤ 30) (bK : nK ≤ 24) (hz : ∀ k, k < nK → hI h 12 1 k = 0 ∨ hI h 12 1 k = 1)
    (K : Q none (asIs h nT nJ nK)) : mT g me_fm_asItIs (d + 1) 0 0 0 [some (vr 10 0), none] [] h Q := by
  refine v_fm_asItIs_0 hsk ?_
  have w3 : ∀ i, i ≤ nT → mT g me_fm_asItIs (d + 1) 0 0 58 [some (vr 10 0), some (vi (nI i))] [] (fillI (fillI (fillI h 11 28 nJ (hI h 11 19)) 12 2 nK (hI h 12 1)) 11 33 i (hI h 11 11)) Q := by
    refine upTo ?_ fun i hi ih => ?_
    · exact v_fm_asItIs_58 _ (hsk.of rfl) ⟨fun _ => K, fun q => absurd (by show hI h 10 0 2 ≤ nI nT; rw [h2]; exact Int32.le_refl _) q⟩
    · refine v_fm_asItIs_58 _ (hsk.of rfl) ⟨fun q => absurd (show hI h 10 0 2 ≤ nI i from q) (by rw [h2]; exact nnle hi (by omega)), fun _ => ⟨nin (by omega) (by omega), nin (by omega) (by omega), ?_⟩⟩
      rw [nI_1, nc (by omega)]
      exact mT.hp (fillI_s rfl) ih
  have w2 : ∀ i, i ≤ nK → mT g me_fm_asItIs (d + 1) 0 0 30 [some (vr 10 0), some (vi (nI i))] [] (fillI (fillI h 11 28 nJ (hI h 11 19)) 12 2 i (hI h 12 1)) Q := by
    refine upTo ?_ fun i hi ih => ?_
    · refine v_fm_asItIs_30 _ (hsk.of rfl) ⟨fun _ => ?_, fun q => absurd (by show hI h 10 0 4 ≤ nI nK; rw [h4]; exact Int32.le_refl _) q⟩
      have := w3 0 (Nat.zero_le _)
      rw [fillI_0] at this
      exact this
    · refine v_fm_asItIs_30 _ (hsk.of rfl) ⟨fun q => absurd (show hI h 10 0 4 ≤ nI i from q) (by rw [h4]; exact nnle hi (by omega)), fun _ => ⟨nin (by omega) (by omega), nin (by omega) (by omega), ?_, ?_⟩⟩
      · rw [nc (by omega)]
        exact zn (hz i hi)
      · rw [nI_1, nc (by omega)]
        exact mT.hp (fillI_s rfl) ih
  have w1 : ∀ i, i ≤ nJ → mT g me_fm_asItIs (d + 1) 0 0 2 [some (vr 10 0), some (vi (nI i))] [] (fillI h 11 28 i (hI h 11 19)) Q := by
    refine upTo ?_ fun i hi ih => ?_
    · refine v_fm_asItIs_2 _ (hsk.of rfl) ⟨fun _ => ?_, fun q => absurd (by show hI h 10 0 3 ≤ nI nJ; rw [h3]; exact Int32.le_refl _) q⟩
      have := w2 0 (Nat.zero_le _)
      rw [fillI_0] at this
      exact this
    · refine v_fm_asItIs_2 _ (hsk.of rfl) ⟨fun q => absurd (show hI h 10 0 3 ≤ nI i from q) (by rw [h3]; exact nnle hi (by omega)), fun _ => ⟨nin (by omega) (by omega), nin (by omega) (by omega), ?_⟩⟩
      rw [nI_1, nc (by omega)]
      exact mT.hp (fillI_s rfl) ih
  have := w1 0 (Nat.zero_le _)
  rw [fillI_0] at this
  exact this
