/-! the class's search for leaks -/
def rN (h : mH) (nT nJ nK : Nat) (X : Nat → Nat) (k : Nat) : Nat := (nRs (rnC (exH h nT nJ nK X) nT nJ) k).toNatClampNeg
def gN (h : mH) (k : Nat) : Nat := (hI h 11 23 k).toNatClampNeg
def tN (h : mH) : Nat := (hI h 10 0 7).toNatClampNeg
/-- of the first n jets one is too high; too low -/
def hiX (h : mH) (nT nJ nK : Nat) (X : Nat → Nat) (n : Nat) : Bool := decide (∃ k, k < n ∧ (¬ hI h 11 23 k < 0 ∧ gN h k + tN h < rN h nT nJ nK X k))
def loX (h : mH) (nT nJ nK : Nat) (X : Nat → Nat) (n : Nat) : Bool := decide (∃ k, k < n ∧ (¬ hI h 11 23 k < 0 ∧ rN h nT nJ nK X k + tN h < gN h k))
theorem ex_s {P : Nat → Prop} {n : Nat} : (∃ k, k < n + 1 ∧ P k) ↔ (∃ k, k < n ∧ P k) ∨ P n := by
  refine ⟨fun ⟨k, a, b⟩ => ?_, fun z => ?_⟩
  · by_cases q : k = n
    · exact Or.inr (q ▸ b)
    · exact Or.inl ⟨k, by omega, b⟩
  · rcases z with ⟨k, a, b⟩ | b
    · exact ⟨k, by omega, b⟩
    · exact ⟨n, by omega, b⟩
theorem hiX_s {h : mH} {nT nJ nK : Nat} {X : Nat → Nat} {n : Nat} : hiX h nT nJ nK X (n + 1) = (hiX h nT nJ nK X n || decide (¬ hI h 11 23 n < 0 ∧ gN h n + tN h < rN h nT nJ nK X n)) := by
  unfold hiX
  rw [Bool.eq_iff_iff, Bool.or_eq_true, decide_eq_true_iff, decide_eq_true_iff, decide_eq_true_iff]
  exact ex_s
theorem loX_s {h : mH} {nT nJ nK : Nat} {X : Nat → Nat} {n : Nat} : loX h nT nJ nK X (n + 1) = (loX h nT nJ nK X n || decide (¬ hI h 11 23 n < 0 ∧ rN h nT nJ nK X n + tN h < gN h n)) := by
  unfold loX
  rw [Bool.eq_iff_iff, Bool.or_eq_true, decide_eq_true_iff, decide_eq_true_iff, decide_eq_true_iff]
  exact ex_s
def mv (hi lo : Bool) : Int32 := (if hi = true then 2 else 0) ||| (if lo = true then 1 else 0)
section CORE
variable {h h' hm : mH} {nT nJ nK nV nT' nJ' nK' : Nat} {vs : Nat → Nat}
theorem mCore.gt (C : mCore h nT nJ nK nV vs) : hI h 10 0 7 = nI (tN h) ∧ tN h ≤ 50 ∧ hI h 5 0 1 = nI (tN h) := by
  obtain ⟨_, _, ⟨t, _, t1, t2, t3⟩, _⟩ := C.sc
  have e : tN h = t := by unfold tN; rw [t3, nc (by omega)]
  rw [e]
  exact ⟨t3, t1, t2⟩
theorem mCore.gg (C : mCore h nT nJ nK nV vs) {k : Nat} (hk : k < nK) (hr : ¬ hI h 11 23 k < 0) : hI h 11 23 k = nI (gN h k) ∧ gN h k ≤ 500 := by
  rcases (C.je hk).b4.2 with z | ⟨r, r1, r2⟩
  · rw [z] at hr; exact absurd (by decide) hr
  · have e : gN h k = r := by unfold gN; rw [r2, nc (by omega)]
    rw [e]
    exact ⟨r2, r1⟩
theorem mCore.rr (C : mCore h nT nJ nK nV vs) {X : Nat → Nat} (hX : ∀ j, j < nJ → X j ≤ 60) {k : Nat} (hk : k < nK) : nRs (rnC (exH h nT nJ nK X) nT nJ) k = nI (rN h nT nJ nK X k) ∧ rN h nT nJ nK X k ≤ 1000 := by
  obtain ⟨a, b, e, _, _, h1⟩ := riseX C (X := X) (Y := X) (fun _ _ => Nat.le_refl _) hX hk
  have e2 : rN h nT nJ nK X k = a := by unfold rN; rw [e, nc (by omega)]
  rw [e2]
  exact ⟨e, h1⟩
theorem rN_mono (C : mCore h nT nJ nK nV vs) {X Y : Nat → Nat} (hXY : ∀ j, j < nJ → X j ≤ Y j) (hY : ∀ j, j < nJ → Y j ≤ 60) {k : Nat} (hk : k < nK) : rN h nT nJ nK Y k ≤ rN h nT nJ nK X k := by
  obtain ⟨a, b, e1, e2, h1, h2⟩ := riseX C hXY hY hk
  unfold rN
  rw [e1, e2, nc (by omega), nc (by omega)]
  exact h1
theorem lkE_hl (C : mCore h nT nJ nK nV vs) {X : Nat → Nat} (hX : ∀ j, j < nJ → X j ≤ 60) : lkE h nT nJ nK X = (!hiX h nT nJ nK X nK && !loX h nT nJ nK X nK) := by
  obtain ⟨t1, t2, _⟩ := C.gt
  rw [Bool.eq_iff_iff, Bool.and_eq_true, Bool.not_eq_true', Bool.not_eq_true']
  unfold lkE hiX loX
  rw [decide_eq_true_iff, decide_eq_false_iff_not, decide_eq_false_iff_not]
  have key : ∀ k, k < nK → ¬ hI h 11 23 k < 0 → (¬ hI h 10 0 7 < iAb (nRs (rnC (exH h nT nJ nK X) nT nJ) k - hI h 11 23 k) ↔ (¬ gN h k + tN h < rN h nT nJ nK X k ∧ ¬ rN h nT nJ nK X k + tN h < gN h k)) := by
    intro k hk hr
    obtain ⟨g1, g2⟩ := C.gg hk hr
    obtain ⟨r1, r2⟩ := C.rr hX hk
    rw [g1, r1, t1]
    unfold iAb
    rw [abs_n (by omega) (by omega), nlt_iff (by omega) (by unfold dst; omega)]
    unfold dst
    omega
  refine ⟨fun z => ⟨fun ⟨k, k1, k2, k3⟩ => ?_, fun ⟨k, k1, k2, k3⟩ => ?_⟩, fun ⟨z1, z2⟩ k k1 => ?_⟩
  · rcases z k k1 with y | y
    · exact k2 y
    · exact ((key k k1 k2).mp y).1 k3
  · rcases z k k1 with y | y
    · exact k2 y
    · exact ((key k k1 k2).mp y).2 k3
  · by_cases q : hI h 11 23 k < 0
    · exact Or.inl q
    · exact Or.inr ((key k k1 q).mpr ⟨fun y => z1 ⟨k, k1, q, y⟩, fun y => z2 ⟨k, k1, q, y⟩⟩)
theorem hi_down (C : mCore h nT nJ nK nV vs) {X Y : Nat → Nat} (hXY : ∀ j, j < nJ → X j ≤ Y j) (hY : ∀ j, j < nJ → Y j ≤ 60) (e : hiX h nT nJ nK Y nK = true) : hiX h nT nJ nK X nK = true := by
  unfold hiX at e ⊢
  obtain ⟨k, k1, k2, k3⟩ := of_decide_eq_true e
  have := rN_mono C hXY hY k1
  exact decide_eq_true ⟨k, k1, k2, by omega⟩
theorem lo_up (C : mCore h nT nJ nK nV vs) {X Y : Nat → Nat} (hXY : ∀ j, j < nJ → X j ≤ Y j) (hY : ∀ j, j < nJ → Y j ≤ 60) (e : loX h nT nJ nK X nK = true) : loX h nT nJ nK Y nK = true := by
  unfold loX at e ⊢
  obtain ⟨k, k1, k2, k3⟩ := of_decide_eq_true e
  have := rN_mono C hXY hY k1
  exact decide_eq_true ⟨k, k1, k2, by omega⟩
/-- the class while it tries -/
def cX (h h' : mH) (nJ : Nat) (X : Nat → Nat) : Prop := h'.1 = h.1 ∧ (∀ k n f, relA k n f = true → ¬ (k = 7 ∧ f = 7) → hI h' k n f = hI h k n f) ∧ (∀ j, j < nJ → hI h' 7 j 7 = nI (X j)) ∧ ∀ j, nJ ≤ j → hI h' 7 j 7 = hI h 7 j 7
theorem cX.R {X : Nat → Nat} (T : cX h h' nJ X) : sameR h h' := ⟨T.1, fun k n f r => T.2.1 k n f (by unfold relA; rw [r]; rfl) (fun z => by rw [z.1, z.2] at r; exact absurd (show false = true from r) (by decide))⟩
theorem cX.set {X Y : Nat → Nat} {j : Nat} {x : Int32} (T : cX h h' nJ X) (hj : j < nJ) (hx : x = nI (Y j)) (hY : ∀ i, i < nJ → i ≠ j → Y i = X i) : cX h (setI h' 7 j 7 x) nJ Y := by
  refine ⟨T.1, fun k n f r z => (hI_no (fun y => z ⟨y.1, y.2.2⟩)).trans (T.2.1 k n f r z), fun i hi => ?_, fun i hi => ?_⟩
  · rw [hI_n2]
    by_cases q : i = j
    · rw [if_pos q, q, hx]
    · rw [if_neg q, hY i hi q]; exact T.2.2.1 i hi
  · rw [hI_n2, if_neg (by omega)]
    exact T.2.2.2 i hi
theorem cX.cg {X Y : Nat → Nat} (T : cX h h' nJ X) (e : ∀ j, j < nJ → X j = Y j) : cX h h' nJ Y := ⟨T.1, T.2.1, fun j hj => by rw [← e j hj]; exact T.2.2.1 j hj, T.2.2.2⟩
theorem cX.rk {X : Nat → Nat} (T : cX h h' nJ X) (js : Int32) : cX h (rkH h' nT nJ js 1) nJ X := by
  have R := sameA.rk h' nT nJ js 1
  exact ⟨R.1.trans T.1, fun k n f r z => (R.2 k n f r).trans (T.2.1 k n f r z), fun j hj => T.2.2.1 j hj, fun j hj => T.2.2.2 j hj⟩
theorem cX.A {X : Nat → Nat} (F : mFr h nT nJ nK) (T : cX h h' nJ X) (z : ∀ j, j < nJ → X j = 0) : sameA h h' := by
  refine ⟨T.1, fun k n f r => ?_⟩
  by_cases q : k = 7 ∧ f = 7
  · obtain ⟨rfl, rfl⟩ := q
    by_cases q2 : n < nJ
    · rw [T.2.2.1 n q2, z n q2, F.2.2.2 n q2]
      rfl
    · exact T.2.2.2 n (by omega)
  · exact T.2.1 k n f r q
theorem cX.of (F : mFr h nT nJ nK) (R : sameA h h') : cX h h' nJ (fun _ => 0) := ⟨R.1, fun k n f r _ => R.2 k n f r, fun j hj => (R.2 7 j 7 rfl).trans (F.2.2.2 j hj), fun j _ => R.2 7 j 7 rfl⟩
theorem sameR.sym {a b : mH} (R : sameR a b) : sameR b a := ⟨R.1.symm, fun k n f r => (R.2 k n f r).symm⟩
theorem sp_misses {g : mG} {d : Nat} {X : Nat → Nat} {Q : Option mV → mH → Prop} (C : mCore h nT nJ nK nV vs) (T : cX h h' nJ X) (hX : ∀ j, j < nJ → X j ≤ 60) (K : Q (some (vi (mv (hiX h nT nJ nK X nK) (loX h nT nJ nK X nK)))) (rkH h' nT nJ (hI h 1 0 3) 1)) : mT g me_lk_misses (d + 6) 0 0 0 [some (vr 5 0), none, none, none, none] [] h' Q := by
  have bK := C.2.1.2.2.1
  have C' := C.of T.R
  have epl : hI h' 1 0 3 = hI h 1 0 3 := T.R.2 1 0 3 rfl
  refine v_lk_misses_0 C'.1 ?_
  rw [epl]
  refine sp_reckonC C' ⟨rfl, C'.1.of (sameR.rk h' nT nJ (hI h 1 0 3) 1).1, ?_⟩
  have T2 := T.rk (nT := nT) (hI h 1 0 3)
  have R2 := T2.R
  have C2 := C.of R2
  have lst : mCl (rkH h' nT nJ (hI h 1 0 3) 1) 2 8 nK id := C2.2.2.1.2.2.1
  obtain ⟨t1, t2, t3⟩ := C.gt
  -- rises, of class and model
  have A : mAg h' (exH h nT nJ nK X) nJ nK (hI h 1 0 3) 1 := by
    refine ⟨fun k hk => ?_, fun j hj => ?_⟩
    · rw [exH_on hk]; exact C.pp.1 k hk
    · rw [exH_28 hj, if_neg (by decide)]; exact (T.2.2.1 j hj).symm
  have RX : sameR h' (exH h nT nJ nK X) := T.R.sym.tr (sameA.ex h nT nJ nK X).R
  have ers : ∀ k, k < nK → cRs (rkH h' nT nJ (hI h 1 0 3) 1) (hI h 1 0 3) k (hI h 6 (nF h (nP h k)) 5) = nI (rN h nT nJ nK X k) := by
    intro k hk
    rw [← (C.rr hX hk).1]
    have ep : nF h' (nP h' k) = nF h (nP h k) := by
      unfold nF nP
      rw [T.R.2 11 21 k rfl, T.R.2 11 15 _ rfl]
    have f1 := (C.nF_lt (C.nP_lt hk).1).1
    refine C'.rsE RX A hk ?_
    rw [ep, exH_33 f1]
    exact (C.wat f1).symm
  have w : ∀ i, i ≤ nK → ∀ o3 o4, mT g me_lk_misses (d + 6) 0 0 19 [some (vr 5 0), some (vi (mv (hiX h nT nJ nK X i) (loX h nT nJ nK X i))), some (vi (nI i)), o3, o4] [] (rkH h' nT nJ (hI h 1 0 3) 1) Q := by
    refine upTo ?_ fun i hi ih => ?_
    · intro o3 o4
      exact v_lk_misses_19 _ _ _ _ C2.1 ⟨fun _ => K, fun q => absurd (by rw [lst.1]; exact Int32.le_refl _) q⟩
    · intro o3 o4
      obtain ⟨p1, p2, p3, p4⟩ := C2.nP_lt hi
      obtain ⟨f1, f2, f3, f4⟩ := C2.nF_lt p1
      have ep : nP (rkH h' nT nJ (hI h 1 0 3) 1) i = nP h i := by unfold nP; rw [R2.2 11 21 i rfl]
      have ef : nF (rkH h' nT nJ (hI h 1 0 3) 1) (nP h i) = nF h (nP h i) := by unfold nF; rw [R2.2 11 15 _ rfl]
      rw [ep] at p4 p1 f4 f1
      rw [ef] at f4 f1
      have e4 : hI (rkH h' nT nJ (hI h 1 0 3) 1) 8 i 4 = hI h 11 23 i := (R2.2 8 i 4 rfl).trans (C.je hi).b4.1
      have ew : hI (rkH h' nT nJ (hI h 1 0 3) 1) 6 (nF h (nP h i)) 5 = hI h 6 (nF h (nP h i)) 5 := R2.2 6 _ 5 rfl
      have epl2 : hI (rkH h' nT nJ (hI h 1 0 3) 1) 1 0 3 = hI h 1 0 3 := R2.2 1 0 3 rfl
      have et : hI (rkH h' nT nJ (hI h 1 0 3) 1) 5 0 1 = nI (tN h) := (R2.2 5 0 1 rfl).trans t3
      refine v_lk_misses_19 _ _ _ _ C2.1 ⟨fun q => absurd q (by rw [lst.1]; exact nnle hi (by omega)), fun _ => ⟨i, lst.get hi, ?_⟩⟩
      rw [e4, nI_1]
      refine ⟨fun q => ?_, fun q => ⟨_, p4, _, f4, ?_⟩⟩
      · have := ih (some (vr 8 i)) o4
        rw [hiX_s, loX_s, decide_eq_false (fun z => z.1 q), decide_eq_false (fun z => z.1 q), Bool.or_false, Bool.or_false] at this
        exact this
      · obtain ⟨g1, g2⟩ := C.gg hi q
        obtain ⟨r1, r2⟩ := C.rr hX hi
        rw [ew, epl2]
        refine sp_rise (d := d + 2) C2 hi ⟨_, rfl, C2.1, ?_⟩
        rw [ers i hi, e4, g1, et]
        have c1 : nI (rN h nT nJ nK X i) - nI (gN h i) ≤ nI (tN h) ↔ rN h nT nJ nK X i ≤ gN h i + tN h := by
          rw [ile, pk_sub_toInt (by omega) (by omega), nI_toInt (by omega)]
          omega
        have c2 : -nI (tN h) ≤ nI (rN h nT nJ nK X i) - nI (gN h i) ↔ gN h i ≤ rN h nT nJ nK X i + tN h := by
          rw [← Int32.zero_sub, ile, pk_sub_toInt (by omega) (by omega), show (0 : Int32) = nI 0 from rfl, pk_sub_toInt (by omega) (by omega)]
          omega
        have ih2 := ih (some (vr 8 i)) (some (vi (nI (rN h nT nJ nK X i) - nI (gN h i))))
        rw [hiX_s, loX_s] at ih2
        rw [c1, c2]
        refine ⟨fun z => ⟨fun z2 => ?_, fun z2 => ?_⟩, fun z => ?_⟩
        · rw [decide_eq_false (fun y => by omega), decide_eq_false (fun y => by omega), Bool.or_false, Bool.or_false] at ih2
          rw [Int32.or_zero]
          exact ih2
        · rw [decide_eq_false (fun y => by omega), decide_eq_true ⟨q, by omega⟩, Bool.or_false, Bool.or_true] at ih2
          have e : mv (hiX h nT nJ nK X i) (loX h nT nJ nK X i) ||| 1 = mv (hiX h nT nJ nK X i) true := by
            cases hiX h nT nJ nK X i <;> cases loX h nT nJ nK X i <;> decide
          rw [e]
          exact ih2
        · rw [decide_eq_true ⟨q, by omega⟩, decide_eq_false (fun y => by omega), Bool.or_false, Bool.or_true] at ih2
          have e : mv (hiX h nT nJ nK X i) (loX h nT nJ nK X i) ||| 2 = mv true (loX h nT nJ nK X i) := by
            cases hiX h nT nJ nK X i <;> cases loX h nT nJ nK X i <;> decide
          rw [e]
          exact ih2
  have := w 0 (Nat.zero_le _) none none
  have e0 : mv (hiX h nT nJ nK X 0) (loX h nT nJ nK X 0) = 0 := by
    have h1 : hiX h nT nJ nK X 0 = false := decide_eq_false fun ⟨k, a, _⟩ => absurd a (Nat.not_lt_zero _)
    have h2 : loX h nT nJ nK X 0 = false := decide_eq_false fun ⟨k, a, _⟩ => absurd a (Nat.not_lt_zero _)
    rw [h1, h2]
    rfl
  rw [e0] at this
  exact this
/-- what the class has found -/
def r4 (h' : mH) : Int32 × Int32 × Int32 × Int32 := (hI h' 5 0 2, hI h' 5 0 3, hI h' 5 0 4, hI h' 5 0 5)
theorem sp_alone {g : mG} {d j : Nat} {Q : Option mV → mH → Prop} (C : mCore h nT nJ nK nV vs) (hj : j < nJ) (T : cX h h' nJ (fun _ => 0)) (K0 : alV (lkE h nT nJ nK) j = none → ∀ h2, cX h h2 nJ (fun _ => 0) → r4 h2 = r4 h' → Q (some (vi 0)) h2) (K1 : ∀ v, alV (lkE h nT nJ nK) j = some v → ∀ h2, cX h h2 nJ (fun _ => 0) → r4 h2 = (nI j, nI v, (r4 h').2.2) → Q (some (vi 1)) h2) : mT g me_lk_explainsAlone (d + 7) 0 0 0 [some (vr 5 0), some (vr 7 j), none, none, none, none] [] h' Q := by
  have hb : ∀ v, v ≤ 60 → ∀ i, i < nJ → oneX j v i ≤ 60 := fun v hv i _ => by unfold oneX; split <;> omega
  -- the end without
  have fin0 : alV (lkE h nT nJ nK) j = none → ∀ h2 v, cX h h2 nJ (oneX j v) → r4 h2 = r4 h' → Q (some (vi 0)) (setI h2 7 j 7 0) := by
    intro e h2 v T2 r2
    refine K0 e _ (T2.set hj rfl fun i _ hi => ?_) r2
    unfold oneX
    rw [if_neg hi]
  have fin1 : ∀ v, alV (lkE h nT nJ nK) j = some v → ∀ h2, cX h h2 nJ (oneX j v) → r4 h2 = r4 h' → Q (some (vi 1)) (setI (setI (setI h2 5 0 2 (hI h2 7 j 0)) 5 0 3 (hI h2 7 j 7)) 7 j 7 0) := by
    intro v e h2 T2 r2
    have T3 : cX h (setI (setI h2 5 0 2 (hI h2 7 j 0)) 5 0 3 (hI h2 7 j 7)) nJ (oneX j v) := ⟨T2.1, fun k n f r z => (hI_no (fun y => by rw [y.1, y.2.2] at r; exact absurd (show false = true from r) (by decide))).trans ((hI_no (fun y => by rw [y.1, y.2.2] at r; exact absurd (show false = true from r) (by decide))).trans (T2.2.1 k n f r z)), fun i hi => T2.2.2.1 i hi, fun i hi => T2.2.2.2 i hi⟩
    refine K1 v e _ (T3.set hj rfl fun i _ hi => ?_) ?_
    · unfold oneX
      rw [if_neg hi]
    · have e0 : hI h2 7 j 0 = nI j := (T2.R.2 7 j 0 rfl).trans (C.jn hj).1
      have e7 : hI h2 7 j 7 = nI v := (T2.2.2.1 j hj).trans (by unfold oneX; rw [if_pos rfl])
      rw [← r2, e0, e7]
      rfl
  have w : ∀ n v, v + n = 61 → 1 ≤ v → fsN (fun v => lkE h nT nJ nK (oneX j v)) v n = alV (lkE h nT nJ nK) j → ∀ h2 o5, cX h h2 nJ (oneX j (v - 1)) → r4 h2 = r4 h' → mT g me_lk_explainsAlone (d + 7) 0 0 7 [some (vr 5 0), some (vr 7 j), some (vi 0), some (vi 0), some (vi (nI v)), o5] [] h2 Q := by
    intro n
    induction n with
    | zero =>
      intro v hv hv1 e h2 o5 T2 r2
      have e' : alV (lkE h nT nJ nK) j = none := e.symm
      exact v_lk_explainsAlone_7 _ _ _ _ _ (C.1.of T2.1) ⟨fun _ => ⟨fun _ => ⟨zn_0, fin0 e' h2 _ T2 r2⟩, fun q => absurd rfl q⟩, fun q => absurd (nlt (a := 60) (by omega) (by omega)) q⟩
    | succ n ih =>
      intro v hv hv1 e h2 o5 T2 r2
      refine v_lk_explainsAlone_7 _ _ _ _ _ (C.1.of T2.1) ⟨fun q => absurd q (nnlt (a := 60) (by omega) (by omega)), fun _ => ⟨fun q => absurd rfl q, fun _ => ⟨fun q => absurd rfl q, fun _ => ?_⟩⟩⟩
      have T3 : cX h (setI h2 7 j 7 (nI v)) nJ (oneX j v) := T2.set hj (by unfold oneX; rw [if_pos rfl]) fun i _ hi => by unfold oneX; rw [if_neg hi, if_neg hi]
      refine sp_misses (d := d) C T3 (hb v (by omega)) ⟨_, rfl, (C.1.of T3.1).of (sameR.rk _ nT nJ _ 1).1, ?_⟩
      have T4 := T3.rk (nT := nT) (hI h 1 0 3)
      have r5 : r4 (rkH (setI h2 7 j 7 (nI v)) nT nJ (hI h 1 0 3) 1) = r4 h' := r2
      have eE := lkE_hl C (hb v (by omega))
      have ef : fsN (fun v => lkE h nT nJ nK (oneX j v)) v (n + 1) = if lkE h nT nJ nK (oneX j v) = true then some v else fsN (fun v => lkE h nT nJ nK (oneX j v)) (v + 1) n := rfl
      rw [ef] at e
      rw [nI_1]
      cases eh : hiX h nT nJ nK (oneX j v) nK with
      | false =>
        cases el : loX h nT nJ nK (oneX j v) nK with
        | false =>
          rw [eh, el] at eE
          rw [if_pos (show lkE h nT nJ nK (oneX j v) = true from eE)] at e
          have f1 := fin1 v e.symm _ T4 r5
          refine ⟨fun _ => ⟨fun q => absurd rfl q, fun _ => ?_⟩, fun q => absurd (by decide) q⟩
          refine v_lk_explainsAlone_7 _ _ _ _ _ (C.1.of T4.1) ⟨fun _ => ⟨fun q => absurd q (by decide), fun _ => ⟨zn_1, f1⟩⟩, fun _ => ⟨fun _ => ⟨fun q => absurd q (by decide), fun _ => ⟨zn_1, f1⟩⟩, fun q => absurd q (by decide)⟩⟩
        | true =>
          rw [eh, el] at eE
          rw [if_neg (by rw [eE]; decide)] at e
          have en : fsN (fun v => lkE h nT nJ nK (oneX j v)) (v + 1) n = none := by
            refine (fsN_none n (v + 1)).mpr fun u u1 u2 => ?_
            have hm := lo_up C (X := oneX j v) (Y := oneX j u) (fun i _ => by unfold oneX; split <;> omega) (hb u (by omega)) el
            have := lkE_hl C (hb u (by omega))
            rw [hm] at this
            simpa using this
          rw [en] at e
          have f0 := fin0 e.symm _ v T4 r5
          refine ⟨fun q => absurd q (by decide), fun _ => ⟨fun _ => ?_, fun q => absurd q (by decide)⟩⟩
          refine v_lk_explainsAlone_7 _ _ _ _ _ (C.1.of T4.1) ⟨fun _ => ⟨fun _ => ⟨zn_0, f0⟩, fun q => absurd rfl q⟩, fun _ => ⟨fun q => absurd rfl q, fun _ => ⟨fun _ => ⟨fun _ => ⟨zn_0, f0⟩, fun q => absurd rfl q⟩, fun q => absurd q (by decide)⟩⟩⟩
      | true =>
        have eE2 : lkE h nT nJ nK (oneX j v) = false := by rw [eE, eh]; rfl
        rw [if_neg (by rw [eE2]; decide)] at e
        cases el : loX h nT nJ nK (oneX j v) nK with
        | false =>
          refine ⟨fun _ => ⟨fun _ => ?_, fun q => absurd q (by decide)⟩, fun q => absurd (by decide) q⟩
          exact ih (v + 1) (by omega) (by omega) e _ _ (by rw [Nat.add_sub_cancel]; exact T4) r5
        | true =>
          have en : fsN (fun v => lkE h nT nJ nK (oneX j v)) (v + 1) n = none := by
            refine (fsN_none n (v + 1)).mpr fun u u1 u2 => ?_
            have hm := lo_up C (X := oneX j v) (Y := oneX j u) (fun i _ => by unfold oneX; split <;> omega) (hb u (by omega)) el
            have := lkE_hl C (hb u (by omega))
            rw [hm] at this
            simpa using this
          rw [en] at e
          have f0 := fin0 e.symm _ v T4 r5
          refine ⟨fun q => absurd q (by decide), fun _ => ⟨fun _ => ?_, fun q => absurd q (by decide)⟩⟩
          refine v_lk_explainsAlone_7 _ _ _ _ _ (C.1.of T4.1) ⟨fun _ => ⟨fun _ => ⟨zn_0, f0⟩, fun q => absurd rfl q⟩, fun _ => ⟨fun q => absurd rfl q, fun _ => ⟨fun _ => ⟨fun _ => ⟨zn_0, f0⟩, fun q => absurd rfl q⟩, fun q => absurd q (by decide)⟩⟩⟩
  refine v_lk_explainsAlone_0 _ (C.1.of T.1) ?_
  exact w 60 1 (by omega) (by omega) rfl h' none (T.cg fun i _ => by unfold oneX; split <;> rfl) rfl
end CORE
