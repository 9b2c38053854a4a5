/-! class and model side by side: what the two parts of the heap have in common -/
def mTk (h : mH) (i : Nat) : Prop :=
  hI h 6 i 0 = nI i ∧ (hI h 6 i 1 = hI h 11 7 i ∧ hI h 6 i 2 = hI h 11 8 i ∧ hI h 6 i 3 = hI h 11 9 i ∧ hI h 6 i 4 = hI h 11 10 i ∧ hI h 6 i 5 = hI h 11 11 i ∧ hI h 6 i 6 = hI h 11 12 i ∧ hI h 6 i 7 = hI h 11 13 i) ∧
  ∃ f a d s w : Nat, hI h 11 7 i = nI f ∧ f ≤ 500 ∧ hI h 11 8 i = nI a ∧ 1 ≤ a ∧ a ≤ 1000 ∧ hI h 11 9 i = nI d ∧ 1 ≤ d ∧ d ≤ 60 ∧ hI h 11 10 i = nI s ∧ s ≤ 500 ∧ hI h 11 11 i = nI w ∧ w ≤ a * d
/-- a number told in both, within bounds -/
def mNb (x y : Int32) (lo hi : Nat) : Prop := ∃ n : Nat, lo ≤ n ∧ n ≤ hi ∧ x = nI n ∧ y = nI n
def mJn (h : mH) (nT nK j : Nat) : Prop :=
  hI h 7 j 0 = nI j ∧ (∃ t, t < nT ∧ hP h 7 j 1 = some (6, t) ∧ hI h 11 15 j = nI t) ∧
  ((hP h 7 j 2 = none ∧ hI h 11 14 j = -9) ∨ ∃ a, a < j ∧ hP h 7 j 2 = some (7, a) ∧ hI h 11 14 j = nI a ∧ hI h 11 15 j = hI h 11 15 a ∧ (hI h 12 0 a = 1 → hI h 12 0 j = 1)) ∧
  mNb (hI h 7 j 3) (hI h 11 16 j) 0 500 ∧ mNb (hI h 7 j 4) (hI h 11 18 j) 1 200 ∧ mNb (hI h 7 j 5) (hI h 11 17 j) 1 9 ∧ mNb (hI h 7 j 6) (hI h 11 19 j) 0 60 ∧ True ∧
  (hI h 7 j 8 = hI h 12 0 j ∧ (hI h 12 0 j = 0 ∨ hI h 12 0 j = 1)) ∧
  ((hP h 7 j 9 = none ∧ hI h 11 20 j = -9) ∨ ∃ k, k < nK ∧ hP h 7 j 9 = some (8, k) ∧ hI h 11 20 j = nI k ∧ hI h 11 21 k = nI j)
def mBit (k : Nat) : Int32 := (1 : Int32) <<< (nI k &&& 31)
def mJe (h : mH) (nJ k : Nat) : Prop :=
  hI h 8 k 0 = nI k ∧ hI h 8 k 1 = mBit k ∧ (∃ j, j < nJ ∧ hP h 8 k 2 = some (7, j) ∧ hI h 11 21 k = nI j ∧ hI h 11 20 j = nI k ∧ hP h 7 j 9 = some (8, k)) ∧
  mNb (hI h 8 k 3) (hI h 11 22 k) 1 60 ∧ (hI h 8 k 4 = hI h 11 23 k ∧ (hI h 11 23 k = -1 ∨ ∃ r : Nat, r ≤ 500 ∧ hI h 11 23 k = nI r)) ∧ (hI h 12 1 k = 0 ∨ hI h 12 1 k = 1)
def mVw (h : mH) (nK : Nat) (vs : Nat → Nat) (v : Nat) : Prop :=
  hI h 9 (vs v) 0 = hI h 11 24 v ∧ mNb (hI h 9 (vs v) 1) (hI h 11 25 v) 0 1440 ∧ mNb (hI h 9 (vs v) 2) (hI h 11 26 v) 0 1440 ∧ mNb (hI h 9 (vs v) 3) (hI h 11 27 v) 0 500 ∧ hI h 11 25 v ≤ hI h 11 26 v ∧
  (∀ u, u < v → hI h 11 26 u < hI h 11 25 v) ∧ vs v < hC h 9 ∧ 0 < hI h 11 24 v ∧ (∃ b : Nat, b ≤ nK ∧ hI h 11 24 v < mBit b)
/-- the lists' rows are apart -/
def mDj (h : mH) : Prop := ∀ l l' e e', l < 4 → l' < 4 → hP h 2 l 0 = some (13, e) → hP h 2 l' 0 = some (13, e') → l ≠ l' → e ≠ e'
def mSc (h : mH) : Prop := (∃ n : Nat, n ≤ 1440 ∧ hI h 1 0 4 = nI n ∧ hI h 10 0 1 = nI n) ∧ mNb (hI h 0 0 6) (hI h 10 0 6) 0 30 ∧ mNb (hI h 5 0 1) (hI h 10 0 7) 0 50 ∧ (∀ i, i < 7 → hI h 11 5 i = hI h 11 6 i)
def mPl (h : mH) (nK : Nat) : Prop := (∀ k, k < nK → (hI h 1 0 3 &&& mBit k = 0 ↔ hI h 12 1 k = 0)) ∧ ∀ k, nK ≤ k → k < 32 → hI h 1 0 3 &&& mBit k = 0
def mCore (h : mH) (nT nJ nK nV : Nat) (vs : Nat → Nat) : Prop :=
  mSK h ∧ (nT ≤ 4 ∧ nJ ≤ 30 ∧ nK ≤ 24 ∧ nV ≤ 12) ∧ (mCl h 0 6 nT id ∧ mCl h 1 7 nJ id ∧ mCl h 2 8 nK id ∧ mCl h 3 9 nV vs ∧ mDj h) ∧ (hC h 6 = nT ∧ hC h 7 = nJ ∧ hC h 8 = nK) ∧
  (hI h 10 0 2 = nI nT ∧ hI h 10 0 3 = nI nJ ∧ hI h 10 0 4 = nI nK ∧ hI h 10 0 5 = nI nV) ∧ (∀ i, i < nT → mTk h i) ∧ (∀ j, j < nJ → mJn h nT nK j) ∧ (∀ k, k < nK → mJe h nJ k) ∧ (∀ v, v < nV → mVw h nK vs v) ∧ mSc h ∧ mPl h nK
section CORE
variable {h : mH} {nT nJ nK nV : Nat} {vs : Nat → Nat}
theorem mCore.js (C : mCore h nT nJ nK nV vs) : mJs h nT nJ nK := by
  intro j hj
  obtain ⟨_, ⟨t, ht, hp, _⟩, ha, _, _, _, _, _, _, hk⟩ := C.2.2.2.2.2.2.1 j hj
  refine ⟨⟨t, ht, hp⟩, ?_, ?_⟩
  · rcases ha with ⟨q, _⟩ | ⟨a, la, q, _⟩
    · exact Or.inl q
    · exact Or.inr ⟨a, la, q⟩
  · rcases hk with ⟨q, _⟩ | ⟨k, lk, q, _⟩
    · exact Or.inl q
    · exact Or.inr ⟨k, lk, q⟩
theorem mCore.ms (C : mCore h nT nJ nK nV vs) : mMs h nT nJ nK := by
  intro j hj
  obtain ⟨_, ⟨t, ht, _, hp⟩, ha, _, _, _, _, _, ⟨_, he⟩, hk⟩ := C.2.2.2.2.2.2.1 j hj
  refine ⟨⟨t, ht, hp⟩, ?_, ?_, he⟩
  · rcases ha with ⟨_, q⟩ | ⟨a, la, _, q, _⟩
    · exact Or.inl q
    · exact Or.inr ⟨a, la, q⟩
  · rcases hk with ⟨_, q⟩ | ⟨k, lk, _, q, _⟩
    · exact Or.inl q
    · exact Or.inr ⟨k, lk, q⟩
theorem mCore.emp (C : mCore h nT nJ nK nV vs) {j : Nat} (hj : j < nJ) : cEmp h j = nEm h j := by
  obtain ⟨_, _, _, _, _, _, _, _, ⟨e, _⟩, _⟩ := C.2.2.2.2.2.2.1 j hj
  unfold cEmp nEm
  rw [e]
theorem mCore.ah (C : mCore h nT nJ nK nV vs) {j : Nat} (hj : j < nJ) : jA h j = nA h j := by
  have bJ := C.2.1.2.1
  obtain ⟨_, _, ha, _⟩ := C.2.2.2.2.2.2.1 j hj
  unfold jA nA
  rcases ha with ⟨q, q2⟩ | ⟨a, la, q, q2, _⟩
  · rw [q, q2]; rfl
  · rw [q, q2, if_neg (nnneg (by omega)), nc (by omega)]; rfl
theorem mCore.fd (C : mCore h nT nJ nK nV vs) {j : Nat} (hj : j < nJ) : jF h j = nF h j := by
  have bT := C.2.1.1
  obtain ⟨_, ⟨t, ht, q, q2⟩, _⟩ := C.2.2.2.2.2.2.1 j hj
  unfold jF nF
  rw [q, q2, nc (by omega)]
  rfl
theorem mCore.lt (C : mCore h nT nJ nK nV vs) {j a : Nat} (hj : j < nJ) (ha : nA h j = some a) : a < j := by
  have bJ := C.2.1.2.1
  obtain ⟨_, _, hA, _⟩ := C.2.2.2.2.2.2.1 j hj
  unfold nA at ha
  rcases hA with ⟨q, q2⟩ | ⟨b, lb, q, q2, _⟩
  · rw [q2, if_pos (by decide)] at ha; cases ha
  · rw [q2, if_neg (nnneg (by omega)), nc (by omega)] at ha
    cases ha
    exact lb
theorem mCore.up (C : mCore h nT nJ nK nV vs) : ∀ j a, j < nJ → nA h j = some a → nEm h a = true → nEm h j = true := by
  intro j a hj ha he
  have bJ := C.2.1.2.1
  have la := C.lt hj ha
  obtain ⟨_, _, hA, _⟩ := C.2.2.2.2.2.2.1 j hj
  obtain ⟨_, _, _, _, _, _, _, _, ⟨_, hea⟩, _⟩ := C.2.2.2.2.2.2.1 a (by omega)
  unfold nA at ha
  rcases hA with ⟨q, q2⟩ | ⟨b, lb, q, q2, _, q4⟩
  · rw [q2, if_pos (by decide)] at ha; cases ha
  · rw [q2, if_neg (nnneg (by omega)), nc (by omega)] at ha
    cases ha
    have e1 : hI h 12 0 a = 1 := by
      rcases hea with z | z
      · exact absurd z (of_decide_eq_true he)
      · exact z
    unfold nEm
    rw [q4 e1]
    decide
theorem mCore.sz (C : mCore h nT nJ nK nV vs) : (∀ j, j < nJ → ∃ s, 1 ≤ s ∧ s ≤ 9 ∧ hI h 7 j 5 = nI s) ∧ ∀ j, j < nJ → ∃ s, 1 ≤ s ∧ s ≤ 9 ∧ hI h 11 17 j = nI s := by
  constructor
  · intro j hj
    obtain ⟨_, _, _, _, _, ⟨n, a, b, c, d⟩, _⟩ := C.2.2.2.2.2.2.1 j hj
    exact ⟨n, a, b, c⟩
  · intro j hj
    obtain ⟨_, _, _, _, _, ⟨n, a, b, c, d⟩, _⟩ := C.2.2.2.2.2.2.1 j hj
    exact ⟨n, a, b, d⟩
theorem mCore.ar (C : mCore h nT nJ nK nV vs) : ∀ t, t < nT → ¬ hI h 11 8 t = 0 := by
  intro t ht
  obtain ⟨_, _, f, a, d, s, w, _, _, ea, a1, a2, _⟩ := C.2.2.2.2.2.1 t ht
  rw [ea]
  exact nI_ne0 (by omega) (by omega)
end CORE
