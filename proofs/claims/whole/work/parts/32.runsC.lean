/-! runs and reckon on a core heap -/
theorem w_exists {n : Nat} {P : Nat → Nat → Prop} (h : ∀ j, j < n → ∃ w, P j w) : ∃ w : Nat → Nat, ∀ j, j < n → P j (w j) := by
  refine ⟨fun j => if q : j < n then (h j q).choose else 0, fun j hj => ?_⟩
  dsimp only
  rw [dif_pos hj]
  exact (h j hj).choose_spec
section CORE
variable {h : mH} {nT nJ nK nV : Nat} {vs : Nat → Nat}
theorem mCore.own (C : mCore h nT nJ nK nV vs) (hlk : ∀ j, j < nJ → ∃ l : Nat, l ≤ 60 ∧ hI h 11 28 j = nI l) : ∀ j, j < nJ → ∃ w : Nat, nOw h j = nI w ∧ w ≤ 120 := by
  intro j hj
  have bK := C.2.1.2.2.1
  obtain ⟨l, l1, l2⟩ := hlk j hj
  obtain ⟨_, _, hk, _⟩ := C.ms j hj
  unfold nOw
  rw [l2]
  rcases hk with hk | ⟨k, kk, hk⟩
  · rw [hk, if_pos (by decide)]
    exact ⟨l + 0, nI_add l 0, by omega⟩
  · rw [hk, if_neg (nnneg (by omega)), nc (by omega)]
    by_cases q : hI h 12 2 k = 0
    · rw [if_pos q]
      exact ⟨l + 0, nI_add l 0, by omega⟩
    · rw [if_neg q]
      obtain ⟨_, _, _, ⟨n, a, b, c, d⟩, _⟩ := C.2.2.2.2.2.2.2.1 k kk
      rw [d]
      exact ⟨l + n, nI_add l n, by omega⟩
theorem sumTo_0 : ∀ n, sumTo (fun _ => 0) n = 0
  | 0 => rfl
  | n + 1 => by unfold sumTo; rw [sumTo_0 n]
theorem mCore.flow (C : mCore h nT nJ nK nV vs) (hlk : ∀ j, j < nJ → ∃ l : Nat, l ≤ 60 ∧ hI h 11 28 j = nI l) : ∃ f o : Nat → Nat, mFlw h nJ = (fun j => nI (f j), fun t => nI (o t)) ∧ (∀ j, j < nJ → f j ≤ 3600) ∧ (∀ t, t < nT → o t ≤ 3600) := by
  obtain ⟨w, hw⟩ := w_exists (C.own hlk)
  have bJ := C.2.1.2.1
  have bT := C.2.1.1
  refine fl_bound (w := w) bJ hw (fun j a hj ha => C.lt hj ha) (fun j hj => ?_) nJ (Nat.le_refl _) (fun _ => 0) (fun _ => 0) (by rw [sumTo_0, sumTo_0]; omega) (fun j h1 h2 => by omega)
  obtain ⟨⟨t, ht, ef⟩, _⟩ := C.ms j hj
  unfold nF
  rw [ef, nc (by omega)]
  exact ht
def mLs (h : mH) (fl : Nat → Int32) (nJ : Nat) : Nat → Int32 := bld (fun X j => nLo h fl X j) nJ
theorem mCore.ls (C : mCore h nT nJ nK nV vs) (fl : Nat → Int32) : ∀ j, j < nJ → mLs h fl nJ j = nLo h fl (mLs h fl nJ) j := by
  refine bld_spec fun X Y j hj hXY => ?_
  unfold nLo
  by_cases q : nEm h j = true
  · rw [if_pos q, if_pos q]
  · rw [if_neg q, if_neg q]
    cases hA : nA h j with
    | none => rfl
    | some a => show _ + X a = _ + Y a; rw [hXY a (C.lt hj hA)]
theorem mCore.lsn (C : mCore h nT nJ nK nV vs) {fl : Nat → Int32} {f : Nat → Nat} (hf : ∀ j, j < nJ → fl j = nI (f j) ∧ f j ≤ 3600) : ∀ j, j < nJ → ¬ nEm h j = true → ∃ n : Nat, mLs h fl nJ j = nI n ∧ n ≤ (j + 1) * 25920000 := by
  intro j
  induction j using Nat.strongRecOn with
  | _ j ih =>
    intro hj he
    rw [C.ls fl j hj]
    unfold nLo
    rw [if_neg he]
    obtain ⟨_, _, _, _, ⟨l, l1, l2, _, l4⟩, ⟨s, s1, s2, _, s4⟩, _⟩ := C.2.2.2.2.2.2.1 j hj
    obtain ⟨f1, f2⟩ := hf j hj
    have hlo : nLs h fl j = nI (f j * f j * l / (100 * s * s)) ∧ f j * f j * l / (100 * s * s) ≤ 25920000 := by
      unfold nLs
      rw [f1, l4, s4]
      exact loss_n f2 l2 s1 s2
    rw [hlo.1]
    cases hA : nA h j with
    | none => exact ⟨_, nI_add _ 0, by omega⟩
    | some a =>
      have la := C.lt hj hA
      obtain ⟨n, n1, n2⟩ := ih a la (by omega) (fun z => he (C.up j a hj hA z))
      refine ⟨f j * f j * l / (100 * s * s) + n, ?_, ?_⟩
      · show nI _ + mLs h fl nJ a = _
        rw [n1, nI_add]
      · have : (a + 1) * 25920000 ≤ j * 25920000 := Nat.mul_le_mul_right _ la
        have e : (j + 1) * 25920000 = j * 25920000 + 25920000 := by rw [Nat.add_mul]
        omega
theorem mCore.lspos (C : mCore h nT nJ nK nV vs) {fl : Nat → Int32} {f : Nat → Nat} (hf : ∀ j, j < nJ → fl j = nI (f j) ∧ f j ≤ 3600) : ∀ j, j < nJ → ¬ nEm h j = true → 0 ≤ mLs h fl nJ j := by
  intro j hj he
  have bJ := C.2.1.2.1
  obtain ⟨n, n1, n2⟩ := C.lsn hf j hj he
  rw [n1]
  have : (j + 1) * 25920000 ≤ 30 * 25920000 := Nat.mul_le_mul_right _ (by omega)
  exact nI_pos' (by omega)
/-- runs, on a core heap -/
theorem sp_runsC {g : mG} {d : Nat} {Q : Option mV → mH → Prop} (C : mCore h nT nJ nK nV vs) (hon : ∀ k, k < nK → hI h 12 2 k = 0 ∨ hI h 12 2 k = 1) (hlk : ∀ j, j < nJ → ∃ l : Nat, l ≤ 60 ∧ hI h 11 28 j = nI l)
    (K : Q none (rnH h nT nJ (mFlw h nJ) (mLs h (mFlw h nJ).1 nJ))) : mT g me_fm_runs (d + 1) 0 0 0 [some (vr 10 0), none, none, none] [] h Q := by
  obtain ⟨f, o, e, hf, ho⟩ := C.flow hlk
  refine sp_runs C.1 C.2.2.2.2.1.1 C.2.2.2.2.1.2.1 C.2.1.1 C.2.1.2.1 C.2.1.2.2.1 C.ms hon C.up C.sz.2 C.ar (mFlw h nJ) rfl (L := mLs h (mFlw h nJ).1 nJ) (C.ls _) (C.lspos (f := f) fun j hj => ?_) K
  rw [e]
  exact ⟨rfl, hf j hj⟩
/-- reckon, on a core heap -/
theorem sp_reckonC {g : mG} {d : Nat} {js tr : Int32} {Q : Option mV → mH → Prop} (C : mCore h nT nJ nK nV vs) (K : Q none (rkH h nT nJ js tr)) : mT g me_ga_reckon (d + 5) 0 0 0 [some (vr 1 0), some (vi js), some (vi tr), none, none] [] h Q :=
  sp_reckon C.1 C.2.2.1.1 C.2.2.1.2.1 C.js C.sz.1 K
/-- both reckon the same flows -/
theorem mCore.same (C : mCore h nT nJ nK nV vs) {hm : mH} (R : sameR h hm) {js tr : Int32} (ho : ∀ j, j < nJ → cOwn h js tr j = nOw hm j) : rkS h nJ js tr = mFlw hm nJ := by
  have C' := C.of R
  unfold rkS mFlw
  refine flR_congr nJ _ fun j hj => ⟨?_, ?_, ?_, ho j hj⟩
  · rw [C.emp hj]; unfold nEm; rw [R.2 12 0 j rfl]
  · rw [C.ah hj]; unfold nA; rw [R.2 11 14 j rfl]
  · rw [C.fd hj]; unfold nF; rw [R.2 11 15 j rfl]
theorem rkL_spec (C : mCore h nT nJ nK nV vs) (fl : Nat → Int32) : ∀ j, j < nJ → rkL h fl nJ j = lsF (jA h) (fun j => lossO (fl j) (hI h 7 j 4) (hI h 7 j 5)) (rkL h fl nJ) j := by
  refine bld_spec fun X Y j hj hXY => ?_
  unfold lsF
  rw [C.ah hj]
  cases hA : nA h j with
  | none => rfl
  | some a => show _ + X a = _ + Y a; rw [hXY a (C.lt hj hA)]
theorem mCore.sameL (C : mCore h nT nJ nK nV vs) {hm : mH} (R : sameR h hm) (fl : Nat → Int32) : ∀ j, j < nJ → ¬ nEm h j = true → rkL h fl nJ j = mLs hm fl nJ j := by
  have C' := C.of R
  intro j
  induction j using Nat.strongRecOn with
  | _ j ih =>
    intro hj he
    have he' : ¬ nEm hm j = true := by unfold nEm; rw [R.2 12 0 j rfl]; exact he
    rw [rkL_spec C fl j hj, C'.ls fl j hj]
    unfold nLo lsF
    rw [if_neg he', C.ah hj]
    have eA : nA hm j = nA h j := by unfold nA; rw [R.2 11 14 j rfl]
    rw [eA]
    obtain ⟨_, _, _, _, ⟨l, _, _, l3, l4⟩, ⟨s, _, _, s3, s4⟩, _⟩ := C.2.2.2.2.2.2.1 j hj
    have e1 : lossO (fl j) (hI h 7 j 4) (hI h 7 j 5) = nLs hm fl j := by
      unfold nLs
      rw [l3, s3, R.2 11 18 j rfl, R.2 11 17 j rfl, l4, s4]
    show lossO (fl j) (hI h 7 j 4) (hI h 7 j 5) + _ = _
    rw [e1]
    cases hA : nA h j with
    | none => rfl
    | some a =>
      have la := C.lt hj hA
      show _ + rkL h fl nJ a = _ + mLs hm fl nJ a
      rw [ih a la (by omega) (fun z => he (C.up j a hj hA z))]
end CORE
