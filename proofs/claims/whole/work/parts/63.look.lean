/-! the model's look; explain, explained, rivals -/
theorem fsN_snoc {p : Nat → Bool} (n : Nat) : fsN p 0 (n + 1) = match fsN p 0 n with
    | some a => some a
    | none => if p n = true then some n else none := by
  cases e : fsN p 0 n with
  | some a =>
    obtain ⟨a1, a2, a3, a4⟩ := fsN_some n 0 a e
    exact fsN_is (by omega) (by omega) a3 a4
  | none =>
    have h := (fsN_none n 0).mp e
    dsimp only
    by_cases q : p n = true
    · rw [if_pos q]
      exact fsN_is (by omega) (by omega) q fun u u1 u2 => h u u1 (by omega)
    · rw [if_neg q]
      refine (fsN_none (n + 1) 0).mpr fun u u1 u2 => ?_
      by_cases z : u = n
      · rw [z]
        cases w : p n with
        | false => rfl
        | true => exact absurd w q
      · exact h u u1 (by omega)
section CORE
variable {h h' hm : mH} {nT nJ nK nV nT' nJ' nK' : Nat} {vs : Nat → Nat}
/-- the model while it looks -/
def mE (h h2 : mH) (nT nJ nK : Nat) (X : Nat → Nat) : Prop := h2.1 = h.1 ∧ (∀ k n f, relA k n f = true → ¬ (k = 10 ∧ 55 ≤ f ∧ f ≤ 61) → hI h2 k n f = hI h k n f) ∧ (∀ j, j < nJ → hI h2 11 28 j = nI (X j)) ∧ (∀ k, k < nK → hI h2 12 2 k = hI h 12 1 k) ∧ ∀ t, t < nT → hI h2 11 33 t = hI h 11 11 t
theorem mE.R {X : Nat → Nat} {h2 : mH} (T : mE h h2 nT nJ nK X) : sameR h h2 := ⟨T.1, fun k n f r => T.2.1 k n f (by unfold relA; rw [r]; rfl) (fun z => by rw [z.1] at r; have r' : Nat.blt f 8 = true := r; rw [Nat.blt_eq] at r'; omega)⟩
theorem mE.set {X Y : Nat → Nat} {h2 : mH} {j : Nat} {x : Int32} (T : mE h h2 nT nJ nK X) (hx : x = nI (Y j)) (hY : ∀ i, i < nJ → i ≠ j → Y i = X i) : mE h (setI h2 11 28 j x) nT nJ nK Y := by
  refine ⟨T.1, fun k n f r z => (hI_no (fun y => by rw [y.1, y.2.1] at r; exact absurd (show false = true from r) (by decide))).trans (T.2.1 k n f r z), fun i hi => ?_, T.2.2.2.1, fun t ht => T.2.2.2.2 t ht⟩
  rw [hI_setI2]
  by_cases q : i = j
  · rw [if_pos q, q, hx]
  · rw [if_neg q, hY i hi q]; exact T.2.2.1 i hi
theorem mE.s10 {X : Nat → Nat} {h2 : mH} {f : Nat} {x : Int32} (T : mE h h2 nT nJ nK X) (h1 : 55 ≤ f) (h3 : f ≤ 61) : mE h (setI h2 10 0 f x) nT nJ nK X := ⟨T.1, fun k n f' r z => (hI_no (fun y => z ⟨y.1, by omega⟩)).trans (T.2.1 k n f' r z), fun i hi => T.2.2.1 i hi, T.2.2.2.1, fun t ht => T.2.2.2.2 t ht⟩
theorem mE.cg {X Y : Nat → Nat} {h2 : mH} (T : mE h h2 nT nJ nK X) (e : ∀ j, j < nJ → X j = Y j) : mE h h2 nT nJ nK Y := ⟨T.1, T.2.1, fun j hj => by rw [← e j hj]; exact T.2.2.1 j hj, T.2.2.2⟩
theorem mE.rn {X : Nat → Nat} {h2 : mH} (T : mE h h2 nT nJ nK X) : mE h (rnC h2 nT nJ) nT nJ nK X := by
  have R := sameA.rn h2 nT nJ (mFlw h2 nJ) (mLs h2 (mFlw h2 nJ).1 nJ)
  exact ⟨R.1.trans T.1, fun k n f r z => (R.2 k n f r).trans (T.2.1 k n f r z), fun j hj => T.2.2.1 j hj, fun k hk => T.2.2.2.1 k hk, fun t ht => T.2.2.2.2 t ht⟩
theorem sp_explains {g : mG} {d : Nat} {X : Nat → Nat} {h2 : mH} {Q : Option mV → mH → Prop} (C : mCore h nT nJ nK nV vs) (T : mE h h2 nT nJ nK X) (hX : ∀ j, j < nJ → X j ≤ 60) (K : Q (some (vi (bI (lkE h nT nJ nK X)))) (rnC h2 nT nJ)) : mT g me_fm_explains (d + 2) 0 0 0 [some (vr 10 0), none, none] [] h2 Q := by
  have bK := C.2.1.2.2.1
  have C2 := C.of T.R
  refine v_fm_explains_0 C2.1 (sp_runsC (d := d) C2 (fun k hk => by rw [T.2.2.2.1 k hk]; exact C.pl hk) (fun j hj => ⟨X j, hX j hj, T.2.2.1 j hj⟩) ⟨rfl, C2.1.of (sameA.rn h2 nT nJ _ _).1, ?_⟩)
  have T3 := T.rn
  have C3 := C.of T3.R
  have E : mEq h2 (exH h nT nJ nK X) nJ := by
    intro j hj
    have f1 := (C.nF_lt hj).1
    have f2 : nF (exH h nT nJ nK X) j = nF h j := rfl
    refine ⟨⟨T.R.2 12 0 j rfl, T.R.2 11 14 j rfl, T.R.2 11 15 j rfl, T.R.2 11 16 j rfl, T.R.2 11 17 j rfl, T.R.2 11 18 j rfl⟩, ?_, ?_, ?_, ?_⟩
    · unfold nOw
      rw [T.2.2.1 j hj, exH_28 hj, T.R.2 11 20 j rfl, show hI (exH h nT nJ nK X) 11 20 j = hI h 11 20 j from rfl]
      obtain ⟨_, _, q, _⟩ := C.ms j hj
      rcases q with q | ⟨k, kl, q⟩
      · rw [q, if_pos (by decide), if_pos (by decide)]
      · rw [q, if_neg (nnneg (by omega)), if_neg (nnneg (by omega)), nc (by omega), T.2.2.2.1 k kl, exH_on kl, T.R.2 11 22 k rfl]
        rfl
    · rw [f2, T.2.2.2.2 _ f1, exH_33 f1]
    · rw [f2]; exact T.R.2 11 7 _ rfl
    · rw [f2]; exact T.R.2 11 8 _ rfl
  have ers : ∀ k, k < nK → nRs (rnC h2 nT nJ) k = nRs (rnC (exH h nT nJ nK X) nT nJ) k := fun k hk => E.rs (by rw [T.2.2.2.1 k hk, exH_on hk]) (T.R.2 11 21 k rfl) (C.nP_lt hk).1
  have w : ∀ i, i ≤ nK → (∀ k, k < i → hI h 11 23 k < 0 ∨ ¬ hI h 10 0 7 < iAb (nRs (rnC (exH h nT nJ nK X) nT nJ) k - hI h 11 23 k)) → mT g me_fm_explains (d + 2) 0 0 8 [some (vr 10 0), some (vi 1), some (vi (nI i))] [] (rnC h2 nT nJ) Q := by
    refine upTo ?_ fun i hi ih => ?_
    · intro z
      have e : lkE h nT nJ nK X = true := decide_eq_true z
      rw [e] at K
      exact v_fm_explains_8 _ _ C3.1 ⟨fun _ => ⟨zn_1, K⟩, fun q => absurd (by rw [C3.k4]; exact Int32.le_refl _) q⟩
    · intro z
      have nx : (hI h 11 23 i < 0 ∨ ¬ hI h 10 0 7 < iAb (nRs (rnC (exH h nT nJ nK X) nT nJ) i - hI h 11 23 i)) → mT g me_fm_explains (d + 2) 0 0 8 [some (vr 10 0), some (vi 1), some (vi (nI i + 1))] [] (rnC h2 nT nJ) Q := fun y => by
        rw [nI_1]
        refine ih fun k hk => ?_
        by_cases q : k = i
        · rw [q]; exact y
        · exact z k (by omega)
      refine v_fm_explains_8 _ _ C3.1 ⟨fun q => absurd q (by rw [C3.k4]; exact nnle hi (by omega)), fun _ => ⟨fun q => absurd q (by decide), fun _ => ⟨nin (by omega) (by omega), ?_⟩⟩⟩
      rw [nc (by omega : i ≤ 1000000), T3.R.2 11 23 i rfl]
      refine ⟨fun q => nx (Or.inl q), fun q => sp_riseOf (d := d) C3 hi ⟨_, rfl, C3.1, nin (by omega) (by omega), ?_⟩⟩
      rw [T3.R.2 11 23 i rfl, T3.R.2 10 0 7 rfl, ers i hi]
      refine ⟨fun q2 => ?_, fun q2 => nx (Or.inr q2)⟩
      have e : lkE h nT nJ nK X = false := decide_eq_false fun y => by
        rcases y i hi with y | y
        · exact q y
        · exact y q2
      rw [e] at K
      exact v_fm_explains_8 _ _ C3.1 ⟨fun _ => ⟨zn_0, K⟩, fun _ => ⟨fun _ => ⟨zn_0, K⟩, fun q => absurd rfl q⟩⟩
  exact w 0 (Nat.zero_le _) fun k hk => absurd hk (Nat.not_lt_zero _)
def m5 (h2 : mH) : L5 := (hI h2 10 0 56, hI h2 10 0 57, hI h2 10 0 58, hI h2 10 0 59, hI h2 10 0 60)
/-- behind a look -/
def lkP (h h2 : mH) (nT nJ nK : Nat) : Prop := h2.1 = h.1 ∧ (∀ k n f, relA k n f = true → ¬ (k = 10 ∧ 55 ≤ f ∧ f ≤ 61) → hI h2 k n f = hI h k n f) ∧ ¬ hI h2 10 0 55 = 0 ∧ (m5 h2, hI h2 10 0 61) = lkF (lkE h nT nJ nK) nJ (lkN h nK)
/-- two pipes, in the model -/
theorem sp_two {g : mG} {d i j : Nat} {h2 : mH} {Q : Option mV → mH → Prop} (C : mCore h nT nJ nK nV vs) (hi : i < nJ) (hj : j < nJ) (hij : i ≠ j) (T : mE h h2 nT nJ nK (fun _ => 0)) (h56 : hI h2 10 0 56 = 3)
    (K0 : tw2 (lkE h nT nJ nK) i j = none → ∀ h3, mE h h3 nT nJ nK (fun _ => 0) → m5 h3 = m5 h2 → hI h3 10 0 61 = hI h2 10 0 61 → hI h3 10 0 55 = hI h2 10 0 55 → Q none h3)
    (K1 : ∀ v w, tw2 (lkE h nT nJ nK) i j = some v → twV (lkE h nT nJ nK) i j v = some w → ∀ h3, mE h h3 nT nJ nK (fun _ => 0) → m5 h3 = (2, nI i, nI v, nI j, nI w) → hI h3 10 0 61 = hI h2 10 0 61 → hI h3 10 0 55 = hI h2 10 0 55 → Q none h3) : mT g me_fm_two (d + 3) 0 0 0 [some (vr 10 0), some (vi (nI i)), some (vi (nI j)), none, none] [] h2 Q := by
  have bJ := C.2.1.2.1
  have ii : vp_in (nI i) 30 := nin (by omega) (by omega)
  have jj : vp_in (nI j) 30 := nin (by omega) (by omega)
  have ci : (nI i).toNatClampNeg = i := nc (by omega)
  have cj : (nI j).toNatClampNeg = j := nc (by omega)
  have s1 : ∀ {v w x : Nat} {h3 : mH}, mE h h3 nT nJ nK (twoX i j v w) → mE h (setI h3 11 28 i (nI x)) nT nJ nK (twoX i j x w) := fun T2 => T2.set (by unfold twoX; rw [if_pos rfl]) fun a _ ha => by unfold twoX; rw [if_neg ha, if_neg ha]
  have s2 : ∀ {v w x : Nat} {h3 : mH}, mE h h3 nT nJ nK (twoX i j v w) → mE h (setI h3 11 28 j (nI x)) nT nJ nK (twoX i j v x) := fun T2 => T2.set (by unfold twoX; rw [if_neg (fun z => hij z.symm), if_pos rfl]) fun a _ ha => by
    unfold twoX
    by_cases q : a = i
    · rw [if_pos q, if_pos q]
    · rw [if_neg q, if_neg q, if_neg ha, if_neg ha]
  have T0 : mE h h2 nT nJ nK (twoX i j 0 0) := T.cg fun a _ => by unfold twoX; split <;> simp
  have z0 : ∀ {h3 : mH}, mE h h3 nT nJ nK (twoX i j 0 0) → mE h h3 nT nJ nK (fun _ => 0) := fun T2 => T2.cg fun a _ => by unfold twoX; split <;> simp
  have hb : ∀ v w, v ≤ 60 → w ≤ 60 → ∀ a, a < nJ → twoX i j v w a ≤ 60 := fun v w hv hw a _ => twoX_le hv hw
  have fin0 : tw2 (lkE h nT nJ nK) i j = none → ∀ h3 v w, mE h h3 nT nJ nK (twoX i j v w) → m5 h3 = m5 h2 → hI h3 10 0 61 = hI h2 10 0 61 → hI h3 10 0 55 = hI h2 10 0 55 → Q none (setI (setI h3 11 28 i 0) 11 28 j 0) := fun e h3 v w T3 a b c => K0 e _ (z0 (s2 (x := 0) (s1 (x := 0) T3))) a b c
  have fin1 : ∀ v w, tw2 (lkE h nT nJ nK) i j = some v → twV (lkE h nT nJ nK) i j v = some w → ∀ h3, mE h h3 nT nJ nK (twoX i j v w) → m5 h3 = (2, nI i, nI v, nI j, nI w) → hI h3 10 0 61 = hI h2 10 0 61 → hI h3 10 0 55 = hI h2 10 0 55 → Q none (setI (setI h3 11 28 i 0) 11 28 j 0) := fun v w e1 e2 h3 T3 a b c => K1 v w e1 e2 _ (z0 (s2 (x := 0) (s1 (x := 0) T3))) a b c
  have inner : ∀ v, v ≤ 12 → 1 ≤ v → ∀ n w, w + n = 13 → 1 ≤ w → fsN (fun w => lkE h nT nJ nK (twoX i j v w)) w n = twV (lkE h nT nJ nK) i j v → ∀ h3 u x, mE h h3 nT nJ nK (twoX i j x u) → m5 h3 = m5 h2 → hI h3 10 0 61 = hI h2 10 0 61 → hI h3 10 0 55 = hI h2 10 0 55 →
      (twV (lkE h nT nJ nK) i j v = none → ∀ h4 u x o4, mE h h4 nT nJ nK (twoX i j x u) → m5 h4 = m5 h2 → hI h4 10 0 61 = hI h2 10 0 61 → hI h4 10 0 55 = hI h2 10 0 55 → mT g me_fm_two (d + 3) 0 0 2 [some (vr 10 0), some (vi (nI i)), some (vi (nI j)), some (vi (nI (v + 1))), o4] [] h4 Q) →
      (∀ w, twV (lkE h nT nJ nK) i j v = some w → ∀ h4 o4, mE h h4 nT nJ nK (twoX i j v w) → m5 h4 = (2, nI i, nI v, nI j, nI w) → hI h4 10 0 61 = hI h2 10 0 61 → hI h4 10 0 55 = hI h2 10 0 55 → mT g me_fm_two (d + 3) 0 0 2 [some (vr 10 0), some (vi (nI i)), some (vi (nI j)), some (vi (nI (v + 1))), o4] [] h4 Q) →
      mT g me_fm_two (d + 3) 0 0 19 [some (vr 10 0), some (vi (nI i)), some (vi (nI j)), some (vi (nI v)), some (vi (nI w))] [] h3 Q := by
    intro v hv hv1 n
    induction n with
    | zero =>
      intro w hw hw1 e h3 u x T3 a b c KN KS
      refine v_fm_two_19 _ _ _ _ (C.1.of T3.1) ⟨fun _ => ?_, fun q => absurd (nlt (a := 12) (by omega) (by omega)) q⟩
      rw [nI_1]
      exact KN e.symm h3 u x _ T3 a b c
    | succ n ih =>
      intro w hw hw1 e h3 u x T3 a b c KN KS
      have e56 : hI h3 10 0 56 = 3 := by
        have := congrArg (fun z : L5 => z.1) a
        exact this.trans h56
      refine v_fm_two_19 _ _ _ _ (C.1.of T3.1) ⟨fun q => absurd q (nnlt (a := 12) (by omega) (by omega)), fun _ => ⟨fun q => absurd e56 q, fun _ => ⟨ii, jj, ?_⟩⟩⟩
      rw [ci, cj]
      have T4 := s2 (x := w) (s1 (x := v) T3)
      refine sp_explains (d := d) C T4 (hb v w (by omega) (by omega)) ⟨_, rfl, (C.1.of T4.1).of (sameA.rn _ nT nJ _ _).1, ?_⟩
      have T5 := T4.rn
      have ef : fsN (fun w => lkE h nT nJ nK (twoX i j v w)) w (n + 1) = if lkE h nT nJ nK (twoX i j v w) = true then some w else fsN (fun w => lkE h nT nJ nK (twoX i j v w)) (w + 1) n := rfl
      rw [ef] at e
      cases eE : lkE h nT nJ nK (twoX i j v w) with
      | false =>
        rw [if_neg (by rw [eE]; decide)] at e
        refine ⟨fun q => absurd rfl q, fun _ => ?_⟩
        rw [nI_1]
        exact ih (w + 1) (by omega) (by omega) e _ w v T5 a b c KN KS
      | true =>
        rw [if_pos eE] at e
        refine ⟨fun _ => ?_, fun q => absurd q (by decide)⟩
        rw [nI_1]
        have T6 := ((((T5.s10 (f := 56) (x := 2) (by omega) (by omega)).s10 (f := 57) (x := nI i) (by omega) (by omega)).s10 (f := 58) (x := nI v) (by omega) (by omega)).s10 (f := 59) (x := nI j) (by omega) (by omega)).s10 (f := 60) (x := nI w) (by omega) (by omega)
        have k := KS w e.symm _ (some (vi (nI (w + 1)))) T6 rfl b c
        refine v_fm_two_19 _ _ _ _ (C.1.of T6.1) ⟨fun _ => ?_, fun _ => ⟨fun _ => ?_, fun q => absurd (show (2 : Int32) = 3 from q) (by decide)⟩⟩
        · rw [nI_1]; exact k
        · rw [nI_1]; exact k
  have outer : ∀ n v, v + n = 13 → 1 ≤ v → fsN (fun v => (twV (lkE h nT nJ nK) i j v).isSome) v n = tw2 (lkE h nT nJ nK) i j → ∀ h3 u x o4, mE h h3 nT nJ nK (twoX i j x u) → m5 h3 = m5 h2 → hI h3 10 0 61 = hI h2 10 0 61 → hI h3 10 0 55 = hI h2 10 0 55 → mT g me_fm_two (d + 3) 0 0 2 [some (vr 10 0), some (vi (nI i)), some (vi (nI j)), some (vi (nI v)), o4] [] h3 Q := by
    intro n
    induction n with
    | zero =>
      intro v hv hv1 e h3 u x o4 T3 a b c
      refine v_fm_two_2 _ _ _ _ (C.1.of T3.1) ⟨fun _ => ⟨ii, jj, ?_⟩, fun q => absurd (nlt (a := 12) (by omega) (by omega)) q⟩
      rw [ci, cj]
      exact fin0 e.symm h3 x u T3 a b c
    | succ n ih =>
      intro v hv hv1 e h3 u x o4 T3 a b c
      have e56 : hI h3 10 0 56 = 3 := by
        have := congrArg (fun z : L5 => z.1) a
        exact this.trans h56
      have ef : fsN (fun v => (twV (lkE h nT nJ nK) i j v).isSome) v (n + 1) = if (twV (lkE h nT nJ nK) i j v).isSome = true then some v else fsN (fun v => (twV (lkE h nT nJ nK) i j v).isSome) (v + 1) n := rfl
      rw [ef] at e
      refine v_fm_two_2 _ _ _ _ (C.1.of T3.1) ⟨fun q => absurd q (nnlt (a := 12) (by omega) (by omega)), fun _ => ⟨fun q => absurd e56 q, fun _ => ?_⟩⟩
      refine inner v (by omega) hv1 12 1 (by omega) (by omega) rfl h3 u x T3 a b c (fun en h4 u x o4 T4 a4 b4 c4 => ?_) (fun w es h4 o4 T4 a4 b4 c4 => ?_)
      · rw [en] at e
        exact ih (v + 1) (by omega) (by omega) e h4 u x o4 T4 a4 b4 c4
      · rw [es, if_pos Option.isSome_some] at e
        have f1 := fin1 v w e.symm es h4 T4 a4 b4 c4
        have e56 : hI h4 10 0 56 = 2 := congrArg (fun z : L5 => z.1) a4
        refine v_fm_two_2 _ _ _ _ (C.1.of T4.1) ⟨fun _ => ⟨ii, jj, ?_⟩, fun _ => ⟨fun _ => ⟨ii, jj, ?_⟩, fun q => absurd (e56.symm.trans q) (by decide)⟩⟩
        · rw [ci, cj]; exact f1
        · rw [ci, cj]; exact f1
  exact v_fm_two_0 _ _ (C.1.of T.1) (outer 12 1 (by omega) (by omega) rfl h2 0 0 none T0 rfl rfl rfl)
/-- what stands there when the pipes below j have been looked at -/
def l5 (E : (Nat → Nat) → Bool) (j : Nat) : L5 := if E (fun _ => 0) = true then (0, -9, -9, -9, -9) else match fsN (fun j => (alV E j).isSome) 0 j with
  | some a => (1, nI a, nI ((alV E a).getD 0), -9, -9)
  | none => (3, -9, -9, -9, -9)
theorem sp_look {g : mG} {d : Nat} {Q : Option mV → mH → Prop} (I : mI h nT nJ nK nV vs) (K : ∀ h2, lkP h h2 nT nJ nK → Q none h2) : mT g me_fm_look (d + 4) 0 0 0 [some (vr 10 0), none, none, none, none] [] h Q := by
  have C := I.1
  have bJ := C.2.1.2.1
  have bK := C.2.1.2.2.1
  rcases I.2.2 with h55 | ⟨h55, hc⟩
  case inr => exact v_fm_look_0 C.1 ⟨fun q => absurd q h55, fun _ => K h ⟨rfl, fun _ _ _ _ _ => rfl, h55, hc⟩⟩
  refine v_fm_look_0 C.1 ⟨fun _ => ?_, fun q => absurd h55 q⟩
  have P0 : ∀ k n f, relA k n f = true → ¬ (k = 10 ∧ 55 ≤ f ∧ f ≤ 61) → hI (setI (setI (setI (setI (setI (setI (setI h 10 0 55 1) 10 0 56 4) 10 0 57 (-9)) 10 0 58 (-9)) 10 0 59 (-9)) 10 0 60 (-9)) 10 0 61 0) k n f = hI h k n f := fun k n f r z => (hI_no (fun y => z ⟨y.1, by omega⟩)).trans ((hI_no (fun y => z ⟨y.1, by omega⟩)).trans ((hI_no (fun y => z ⟨y.1, by omega⟩)).trans ((hI_no (fun y => z ⟨y.1, by omega⟩)).trans ((hI_no (fun y => z ⟨y.1, by omega⟩)).trans ((hI_no (fun y => z ⟨y.1, by omega⟩)).trans (hI_no (fun y => z ⟨y.1, by omega⟩)))))))
  have v55 : hI (setI (setI (setI (setI (setI (setI (setI h 10 0 55 1) 10 0 56 4) 10 0 57 (-9)) 10 0 58 (-9)) 10 0 59 (-9)) 10 0 60 (-9)) 10 0 61 0) 10 0 55 = 1 := rfl
  have v5 : m5 (setI (setI (setI (setI (setI (setI (setI h 10 0 55 1) 10 0 56 4) 10 0 57 (-9)) 10 0 58 (-9)) 10 0 59 (-9)) 10 0 60 (-9)) 10 0 61 0) = (4, -9, -9, -9, -9) := rfl
  have v61 : hI (setI (setI (setI (setI (setI (setI (setI h 10 0 55 1) 10 0 56 4) 10 0 57 (-9)) 10 0 58 (-9)) 10 0 59 (-9)) 10 0 60 (-9)) 10 0 61 0) 10 0 61 = 0 := rfl
  have e1 : (setI (setI (setI (setI (setI (setI (setI h 10 0 55 1) 10 0 56 4) 10 0 57 (-9)) 10 0 58 (-9)) 10 0 59 (-9)) 10 0 60 (-9)) 10 0 61 0).1 = h.1 := rfl
  generalize setI (setI (setI (setI (setI (setI (setI h 10 0 55 1) 10 0 56 4) 10 0 57 (-9)) 10 0 58 (-9)) 10 0 59 (-9)) 10 0 60 (-9)) 10 0 61 0 = h0 at P0 v55 v5 v61 e1
  have R0 : sameR h h0 := ⟨e1, fun k n f r => P0 k n f (by unfold relA; rw [r]; rfl) (fun z => by rw [z.1] at r; have r' : Nat.blt f 8 = true := r; rw [Nat.blt_eq] at r'; omega)⟩
  have C0 := C.of R0
  -- behind: the leaks at hand are none
  have body : lkN h nK = true → ∀ x1 o3 o4, mT g me_fm_look (d + 4) 0 0 95 [some (vr 10 0), some (vi x1), some (vi 0), o3, o4] [] (asIs h0 nT nJ nK) Q := by
    intro hN x1 o3 o4
    have eF : lkF (lkE h nT nJ nK) nJ true = (lk5 (lkE h nT nJ nK) nJ, nI (cnt (fun j => (alV (lkE h nT nJ nK) j).isSome) nJ)) := rfl
    have e5 : lk5 (lkE h nT nJ nK) nJ = if lkE h nT nJ nK (fun _ => 0) = true then ((0, -9, -9, -9, -9) : L5) else match al1 (lkE h nT nJ nK) nJ with
      | some j => (1, nI j, nI ((alV (lkE h nT nJ nK) j).getD 0), -9, -9)
      | none => match pr1 (lkE h nT nJ nK) nJ with
        | some i => (2, nI i, nI ((tw2 (lkE h nT nJ nK) i ((pr2 (lkE h nT nJ nK) nJ i).getD 0)).getD 0), nI ((pr2 (lkE h nT nJ nK) nJ i).getD 0), nI ((twV (lkE h nT nJ nK) i ((pr2 (lkE h nT nJ nK) nJ i).getD 0) ((tw2 (lkE h nT nJ nK) i ((pr2 (lkE h nT nJ nK) nJ i).getD 0)).getD 0)).getD 0))
        | none => (3, -9, -9, -9, -9) := rfl
    -- it is done
    have done : ∀ h2, mE h h2 nT nJ nK (fun _ => 0) → hI h2 10 0 55 = 1 → m5 h2 = lk5 (lkE h nT nJ nK) nJ → hI h2 10 0 61 = nI (cnt (fun j => (alV (lkE h nT nJ nK) j).isSome) nJ) → Q none h2 := by
      intro h2 T2 a b c
      refine K h2 ⟨T2.1, T2.2.1, by rw [a]; decide, ?_⟩
      rw [hN, eF, b, c]
    -- pairs
    have pairs : ∀ h2 o3 o4, mE h h2 nT nJ nK (fun _ => 0) → hI h2 10 0 55 = 1 → m5 h2 = l5 (lkE h nT nJ nK) nJ → hI h2 10 0 61 = nI (cnt (fun j => (alV (lkE h nT nJ nK) j).isSome) nJ) → mT g me_fm_look (d + 4) 0 0 238 [some (vr 10 0), some (vi x1), some (vi 0), o3, o4] [] h2 Q := by
      intro h2 o3 o4 T2 a b c
      have stop : ¬ hI h2 10 0 56 = 3 → m5 h2 = lk5 (lkE h nT nJ nK) nJ := by
        intro q
        have hb : hI h2 10 0 56 = (l5 (lkE h nT nJ nK) nJ).1 := congrArg (fun z : L5 => z.1) b
        rw [b, e5]
        unfold l5 at hb ⊢
        by_cases z : lkE h nT nJ nK (fun _ => 0) = true
        · rw [if_pos z, if_pos z]
        · rw [if_neg z] at hb ⊢
          rw [if_neg z]
          have ea : fsN (fun j => (alV (lkE h nT nJ nK) j).isSome) 0 nJ = al1 (lkE h nT nJ nK) nJ := rfl
          rw [ea] at hb ⊢
          cases e : al1 (lkE h nT nJ nK) nJ with
          | some j => rfl
          | none => rw [e] at hb; exact absurd hb q
      by_cases q3 : hI h2 10 0 56 = 3
      case neg =>
        exact v_fm_look_238 _ _ _ _ (C.1.of T2.1) ⟨fun _ => done h2 T2 a (stop q3) c, fun _ => ⟨fun _ => done h2 T2 a (stop q3) c, fun q => absurd q q3⟩⟩
      have hE0 : ¬ lkE h nT nJ nK (fun _ => 0) = true := fun z => by
        have hb : hI h2 10 0 56 = (l5 (lkE h nT nJ nK) nJ).1 := congrArg (fun z : L5 => z.1) b
        unfold l5 at hb
        rw [if_pos z, q3] at hb
        exact absurd hb (by decide)
      have hal : al1 (lkE h nT nJ nK) nJ = none := by
        have hb : hI h2 10 0 56 = (l5 (lkE h nT nJ nK) nJ).1 := congrArg (fun z : L5 => z.1) b
        unfold l5 at hb
        rw [if_neg hE0] at hb
        have ea : fsN (fun j => (alV (lkE h nT nJ nK) j).isSome) 0 nJ = al1 (lkE h nT nJ nK) nJ := rfl
        rw [ea] at hb
        cases e : al1 (lkE h nT nJ nK) nJ with
        | some j => rw [e, q3] at hb; exact absurd (show (3 : Int32) = 1 from hb) (by decide)
        | none => rfl
      have b3 : m5 h2 = (3, -9, -9, -9, -9) := by
        rw [b]
        unfold l5
        rw [if_neg hE0]
        have ea : fsN (fun j => (alV (lkE h nT nJ nK) j).isSome) 0 nJ = al1 (lkE h nT nJ nK) nJ := rfl
        rw [ea, hal]
      rw [if_neg hE0, hal] at e5
      dsimp only at e5
      have rows : ∀ n i, i + n = nJ → fsN (fun i => (pr2 (lkE h nT nJ nK) nJ i).isSome) i n = pr1 (lkE h nT nJ nK) nJ → ∀ h3 o3 o4, mE h h3 nT nJ nK (fun _ => 0) → hI h3 10 0 55 = 1 → m5 h3 = (3, -9, -9, -9, -9) → hI h3 10 0 61 = nI (cnt (fun j => (alV (lkE h nT nJ nK) j).isSome) nJ) → mT g me_fm_look (d + 4) 0 0 238 [some (vr 10 0), some (vi x1), some (vi (nI i)), o3, o4] [] h3 Q := by
        intro n
        induction n with
        | zero =>
          intro i hi e h3 o3 o4 T3 a3 b3 c3
          have en : pr1 (lkE h nT nJ nK) nJ = none := e.symm
          have c3' : hI h3 10 0 3 = nI nJ := (T3.R.2 10 0 3 rfl).trans C.k3
          rw [en] at e5
          refine v_fm_look_238 _ _ _ _ (C.1.of T3.1) ⟨fun _ => done h3 T3 a3 (by rw [b3, e5]) c3, fun q => absurd (by rw [c3']; exact nle (by omega) (by omega)) q⟩
        | succ n ihn =>
          intro i hi e h3 o3 o4 T3 a3 b3 c3
          have c3' : hI h3 10 0 3 = nI nJ := (T3.R.2 10 0 3 rfl).trans C.k3
          have e56 : hI h3 10 0 56 = 3 := congrArg (fun z : L5 => z.1) b3
          have ef : fsN (fun i => (pr2 (lkE h nT nJ nK) nJ i).isSome) i (n + 1) = if (pr2 (lkE h nT nJ nK) nJ i).isSome = true then some i else fsN (fun i => (pr2 (lkE h nT nJ nK) nJ i).isSome) (i + 1) n := rfl
          rw [ef] at e
          refine v_fm_look_238 _ _ _ _ (C.1.of T3.1) ⟨fun q => absurd q (by rw [c3']; exact nnle (by omega) (by omega)), fun _ => ⟨fun q => absurd e56 q, fun _ => ?_⟩⟩
          rw [nI_1]
          have w : ∀ m j, j + m = nJ → i < j → fsN (fun j => (tw2 (lkE h nT nJ nK) i j).isSome) j m = pr2 (lkE h nT nJ nK) nJ i → ∀ h4 o4, mE h h4 nT nJ nK (fun _ => 0) → hI h4 10 0 55 = 1 → m5 h4 = (3, -9, -9, -9, -9) → hI h4 10 0 61 = nI (cnt (fun j => (alV (lkE h nT nJ nK) j).isSome) nJ) → mT g me_fm_look (d + 4) 0 0 258 [some (vr 10 0), some (vi x1), some (vi (nI i)), some (vi (nI j)), o4] [] h4 Q := by
            intro m
            induction m with
            | zero =>
              intro j hj hij e2 h4 o4 T4 a4 b4 c4
              have en : pr2 (lkE h nT nJ nK) nJ i = none := e2.symm
              have c4' : hI h4 10 0 3 = nI nJ := (T4.R.2 10 0 3 rfl).trans C.k3
              rw [en] at e
              refine v_fm_look_258 _ _ _ _ (C.1.of T4.1) ⟨fun _ => ?_, fun q => absurd (by rw [c4']; exact nle (by omega) (by omega)) q⟩
              rw [nI_1]
              exact ihn (i + 1) (by omega) e h4 _ _ T4 a4 b4 c4
            | succ m ihm =>
              intro j hj hij e2 h4 o4 T4 a4 b4 c4
              have c4' : hI h4 10 0 3 = nI nJ := (T4.R.2 10 0 3 rfl).trans C.k3
              have e56 : hI h4 10 0 56 = 3 := congrArg (fun z : L5 => z.1) b4
              have ef2 : fsN (fun j => (tw2 (lkE h nT nJ nK) i j).isSome) j (m + 1) = if (tw2 (lkE h nT nJ nK) i j).isSome = true then some j else fsN (fun j => (tw2 (lkE h nT nJ nK) i j).isSome) (j + 1) m := rfl
              rw [ef2] at e2
              refine v_fm_look_258 _ _ _ _ (C.1.of T4.1) ⟨fun q => absurd q (by rw [c4']; exact nnle (by omega) (by omega)), fun _ => ⟨fun q => absurd e56 q, fun _ => ?_⟩⟩
              refine sp_two (d := d) C (by omega) (by omega) (by omega) T4 e56 (fun en h5 T5 a5 b5 c5 => ⟨rfl, C.1.of T5.1, ?_⟩) (fun v x ev ewx h5 T5 a5 b5 c5 => ⟨rfl, C.1.of T5.1, ?_⟩)
              · rw [nI_1]
                rw [en] at e2
                exact ihm (j + 1) (by omega) (by omega) e2 h5 o4 T5 (c5.trans a4) (a5.trans b4) (b5.trans c4)
              · rw [nI_1]
                rw [ev, if_pos Option.isSome_some] at e2
                rw [← e2, if_pos Option.isSome_some] at e
                rw [← e] at e5
                dsimp only at e5
                rw [← e2] at e5
                dsimp only [Option.getD_some] at e5
                rw [ev] at e5
                dsimp only [Option.getD_some] at e5
                rw [ewx] at e5
                have k := done h5 T5 (c5.trans a4) (a5.trans e5.symm) (b5.trans c4)
                have e562 : hI h5 10 0 56 = 2 := congrArg (fun z : L5 => z.1) a5
                have nn : ¬ hI h5 10 0 56 = 3 := by rw [e562]; decide
                have c5' : hI h5 10 0 3 = nI nJ := (T5.R.2 10 0 3 rfl).trans C.k3
                have stop2 : ∀ i' o3 o4, mT g me_fm_look (d + 4) 0 0 238 [some (vr 10 0), some (vi x1), some (vi i'), o3, o4] [] h5 Q := fun i' o3 o4 => v_fm_look_238 _ _ _ _ (C.1.of T5.1) ⟨fun _ => k, fun _ => ⟨fun _ => k, fun q => absurd q nn⟩⟩
                exact v_fm_look_258 _ _ _ _ (C.1.of T5.1) ⟨fun _ => stop2 _ _ _, fun _ => ⟨fun _ => stop2 _ _ _, fun q => absurd q nn⟩⟩
          exact w (nJ - (i + 1)) (i + 1) (by omega) (by omega) rfl h3 o4 T3 a3 b3 c3
      exact rows nJ 0 (by omega) rfl h2 o3 o4 T2 a b3 c
    -- single pipes
    have ones : ∀ j, j ≤ nJ → ∀ h2 o3 o4, mE h h2 nT nJ nK (fun _ => 0) → hI h2 10 0 55 = 1 → m5 h2 = l5 (lkE h nT nJ nK) j → hI h2 10 0 61 = nI (cnt (fun j => (alV (lkE h nT nJ nK) j).isSome) j) → mT g me_fm_look (d + 4) 0 0 134 [some (vr 10 0), some (vi x1), some (vi (nI j)), o3, o4] [] h2 Q := by
      refine upTo ?_ fun j hj ih => ?_
      · intro h2 o3 o4 T2 a b c
        have c3' : hI h2 10 0 3 = nI nJ := (T2.R.2 10 0 3 rfl).trans C.k3
        exact v_fm_look_134 _ _ _ _ (C.1.of T2.1) ⟨fun _ => pairs h2 _ _ T2 a b c, fun q => absurd (by rw [c3']; exact Int32.le_refl _) q⟩
      · intro h2 o3 o4 T2 a b c
        have c3' : hI h2 10 0 3 = nI nJ := (T2.R.2 10 0 3 rfl).trans C.k3
        have hin : vp_in (nI j) 30 := nin (by omega) (by omega)
        have cj : (nI j).toNatClampNeg = j := nc (by omega)
        have hb : ∀ v, v ≤ 60 → ∀ i, i < nJ → oneX j v i ≤ 60 := fun v hv i _ => by unfold oneX; split <;> omega
        have z1 : ∀ {v : Nat} {h3 : mH}, mE h h3 nT nJ nK (oneX j v) → mE h (setI h3 11 28 j 0) nT nJ nK (fun _ => 0) := fun T3 => T3.set rfl fun i _ hi => by unfold oneX; rw [if_neg hi]
        have sn := fsN_snoc (p := fun j => (alV (lkE h nT nJ nK) j).isSome) j
        refine v_fm_look_134 _ _ _ _ (C.1.of T2.1) ⟨fun q => absurd q (by rw [c3']; exact nnle hj (by omega)), fun _ => ?_⟩
        -- none alone
        have end0 : alV (lkE h nT nJ nK) j = none → ∀ h3 v x4, mE h h3 nT nJ nK (oneX j v) → hI h3 10 0 55 = 1 → m5 h3 = m5 h2 → hI h3 10 0 61 = hI h2 10 0 61 → mT g me_fm_look (d + 4) 0 0 134 [some (vr 10 0), some (vi x1), some (vi (nI j + 1)), some (vi 0), some (vi x4)] [] (setI h3 11 28 j 0) Q := by
          intro en h3 v x4 T3 a3 b3 c3
          rw [nI_1]
          refine ih _ _ _ (z1 T3) a3 (b3.trans (b.trans ?_)) (c3.trans (c.trans ?_))
          · unfold l5
            rw [sn, en]
            cases fsN (fun j => (alV (lkE h nT nJ nK) j).isSome) 0 j with
            | some a => rfl
            | none => rfl
          · rw [cnt_s, en]
            rfl
        -- one alone
        have end1 : ∀ v, alV (lkE h nT nJ nK) j = some v → ∀ h3 x4, mE h h3 nT nJ nK (oneX j v) → hI h3 10 0 55 = 1 → m5 h3 = m5 h2 → hI h3 10 0 61 = hI h2 10 0 61 →
            ((¬ hI h3 10 0 56 = 3 → mT g me_fm_look (d + 4) 0 0 134 [some (vr 10 0), some (vi x1), some (vi (nI j + 1)), some (vi 1), some (vi x4)] [] (setI (setI h3 10 0 61 (hI h3 10 0 61 + 1)) 11 28 j 0) Q) ∧
             (hI h3 10 0 56 = 3 → mT g me_fm_look (d + 4) 0 0 134 [some (vr 10 0), some (vi x1), some (vi (nI j + 1)), some (vi 1), some (vi x4)] [] (setI (setI (setI (setI (setI h3 10 0 61 (hI h3 10 0 61 + 1)) 10 0 56 1) 10 0 57 (nI j)) 10 0 58 (hI h3 11 28 j)) 11 28 j 0) Q)) := by
          intro v ev h3 x4 T3 a3 b3 c3
          have T4 := T3.s10 (f := 61) (x := hI h3 10 0 61 + 1) (by omega) (by omega)
          have cn : hI h3 10 0 61 + 1 = nI (cnt (fun j => (alV (lkE h nT nJ nK) j).isSome) (j + 1)) := by
            rw [c3, c, cnt_s, ev, nI_1]
            rfl
          have hb5 : hI h3 10 0 56 = (l5 (lkE h nT nJ nK) j).1 := congrArg (fun z : L5 => z.1) (b3.trans b)
          rw [nI_1]
          refine ⟨fun q => ?_, fun q => ?_⟩
          · refine ih _ _ _ (z1 T4) ((hI_nk (by decide)).trans ((hI_nf (by decide)).trans a3)) ((show m5 (setI (setI h3 10 0 61 (hI h3 10 0 61 + 1)) 11 28 j 0) = m5 h3 from rfl).trans (b3.trans (b.trans ?_))) ((hI_nk (by decide)).trans (hI_eq.trans cn))
            unfold l5 at hb5 ⊢
            by_cases z : lkE h nT nJ nK (fun _ => 0) = true
            · rw [if_pos z, if_pos z]
            · rw [if_neg z] at hb5
              rw [if_neg z, if_neg z, sn]
              cases e : fsN (fun j => (alV (lkE h nT nJ nK) j).isSome) 0 j with
              | some a => rfl
              | none => rw [e] at hb5; exact absurd hb5 q
          · have T5 := ((T4.s10 (f := 56) (x := 1) (by omega) (by omega)).s10 (f := 57) (x := nI j) (by omega) (by omega)).s10 (f := 58) (x := hI h3 11 28 j) (by omega) (by omega)
            have e28 : hI h3 11 28 j = nI v := (T3.2.2.1 j hj).trans (by unfold oneX; rw [if_pos rfl])
            have e59 : hI h3 10 0 59 = (m5 h3).2.2.2.1 := rfl
            have e60 : hI h3 10 0 60 = (m5 h3).2.2.2.2 := rfl
            refine ih _ _ _ (z1 T5) ?_ ?_ ?_
            · exact (hI_nk (by decide)).trans ((hI_nf (by decide)).trans ((hI_nf (by decide)).trans ((hI_nf (by decide)).trans ((hI_nf (by decide)).trans a3))))
            · show ((1 : Int32), nI j, hI h3 11 28 j, hI h3 10 0 59, hI h3 10 0 60) = _
              rw [e28, e59, e60, b3, b]
              unfold l5 at hb5 ⊢
              by_cases z : lkE h nT nJ nK (fun _ => 0) = true
              · rw [if_pos z, q] at hb5
                exact absurd hb5 (by decide)
              · rw [if_neg z] at hb5
                rw [if_neg z, if_neg z, sn]
                cases e : fsN (fun j => (alV (lkE h nT nJ nK) j).isSome) 0 j with
                | some a => rw [e, q] at hb5; exact absurd (show (3 : Int32) = 1 from hb5) (by decide)
                | none =>
                  rw [ev]
                  dsimp only [Option.isSome_some, if_true]
                  rw [if_pos rfl]
                  dsimp only
                  rw [ev]
                  rfl
            · exact (hI_nk (by decide)).trans ((hI_nf (by decide)).trans ((hI_nf (by decide)).trans ((hI_nf (by decide)).trans (hI_eq.trans cn))))
        have w : ∀ n v, v + n = 61 → 1 ≤ v → fsN (fun v => lkE h nT nJ nK (oneX j v)) v n = alV (lkE h nT nJ nK) j → ∀ h3, mE h h3 nT nJ nK (oneX j (v - 1)) → hI h3 10 0 55 = 1 → m5 h3 = m5 h2 → hI h3 10 0 61 = hI h2 10 0 61 → mT g me_fm_look (d + 4) 0 0 147 [some (vr 10 0), some (vi x1), some (vi (nI j)), some (vi 0), some (vi (nI v))] [] h3 Q := by
          intro n
          induction n with
          | zero =>
            intro v hv hv1 e h3 T3 a3 b3 c3
            have k := end0 e.symm h3 _ (nI v) T3 a3 b3 c3
            refine v_fm_look_147 _ _ _ _ (C.1.of T3.1) ⟨fun _ => ⟨fun _ => ⟨fun _ => ⟨hin, ?_⟩, fun q => absurd rfl q⟩, fun q => absurd rfl q⟩, fun q => absurd (nlt (a := 60) (by omega) (by omega)) q⟩
            rw [cj]
            exact k
          | succ n ihn =>
            intro v hv hv1 e h3 T3 a3 b3 c3
            refine v_fm_look_147 _ _ _ _ (C.1.of T3.1) ⟨fun q => absurd q (nnlt (a := 60) (by omega) (by omega)), fun _ => ⟨fun q => absurd rfl q, fun _ => ⟨hin, ?_⟩⟩⟩
            rw [cj]
            have T4 : mE h (setI h3 11 28 j (nI v)) nT nJ nK (oneX j v) := T3.set (by unfold oneX; rw [if_pos rfl]) fun i _ hi => by unfold oneX; rw [if_neg hi, if_neg hi]
            refine sp_explains (d := d + 1) C T4 (hb v (by omega)) ⟨_, rfl, (C.1.of T4.1).of (sameA.rn _ nT nJ _ _).1, ?_⟩
            have T5 := T4.rn
            have ef : fsN (fun v => lkE h nT nJ nK (oneX j v)) v (n + 1) = if lkE h nT nJ nK (oneX j v) = true then some v else fsN (fun v => lkE h nT nJ nK (oneX j v)) (v + 1) n := rfl
            rw [ef] at e
            rw [nI_1]
            cases eE : lkE h nT nJ nK (oneX j v) with
            | false =>
              rw [if_neg (by rw [eE]; decide)] at e
              exact ihn (v + 1) (by omega) (by omega) e _ (by rw [Nat.add_sub_cancel]; exact T5) a3 b3 c3
            | true =>
              rw [if_pos eE] at e
              have k := end1 v e.symm _ (nI (v + 1)) T5 a3 b3 c3
              refine v_fm_look_147 _ _ _ _ (C.1.of T5.1) ⟨fun _ => ⟨fun q => absurd q (by decide), fun _ => ⟨fun q => absurd q (by decide), fun _ => ⟨fun q => ⟨hin, ?_⟩, fun q => ⟨hin, hin, ?_⟩⟩⟩⟩, fun _ => ⟨fun _ => ⟨fun q => absurd q (by decide), fun _ => ⟨fun q => absurd q (by decide), fun _ => ⟨fun q => ⟨hin, ?_⟩, fun q => ⟨hin, hin, ?_⟩⟩⟩⟩, fun q => absurd q (by decide)⟩⟩
              · rw [cj]; exact k.1 q
              · rw [cj]; exact k.2 q
              · rw [cj]; exact k.1 q
              · rw [cj]; exact k.2 q
        exact w 60 1 (by omega) (by omega) rfl h2 (T2.cg fun i _ => by unfold oneX; split <;> rfl) a rfl rfl
    -- the leaks are laid to 0
    have R1 := sameA.as h0 nT nJ nK
    have z : ∀ j, j ≤ nJ → ∀ h2, h2.1 = (asIs h0 nT nJ nK).1 → (∀ k n f, ¬ (k = 11 ∧ n = 28) → hI h2 k n f = hI (asIs h0 nT nJ nK) k n f) → (∀ i, i < j → hI h2 11 28 i = 0) → mT g me_fm_look (d + 4) 0 0 95 [some (vr 10 0), some (vi x1), some (vi (nI j)), o3, o4] [] h2 Q := by
      refine upTo ?_ fun j hj ih => ?_
      · intro h2 e R2 F
        have T2 : mE h h2 nT nJ nK (fun _ => 0) := by
          refine ⟨e.trans (R1.1.trans e1), fun k n f r z => ?_, F, fun k hk => ?_, fun t ht => ?_⟩
          · exact (R2 k n f (fun y => by rw [y.1, y.2] at r; exact absurd (show false = true from r) (by decide))).trans ((R1.2 k n f r).trans (P0 k n f r z))
          · rw [R2 12 2 k (by omega), asIs_on hk]; exact P0 12 1 k rfl (by omega)
          · rw [R2 11 33 t (by omega), asIs_33 ht]; exact P0 11 11 t rfl (by omega)
        have c3' : hI h2 10 0 3 = nI nJ := (T2.R.2 10 0 3 rfl).trans C.k3
        have w55 : hI h2 10 0 55 = 1 := (R2 10 0 55 (by omega)).trans v55
        have w61 : hI h2 10 0 61 = 0 := (R2 10 0 61 (by omega)).trans v61
        have q57 : hI h2 10 0 57 = -9 := (R2 10 0 57 (by omega)).trans (congrArg (fun z : L5 => z.2.1) v5)
        have q58 : hI h2 10 0 58 = -9 := (R2 10 0 58 (by omega)).trans (congrArg (fun z : L5 => z.2.2.1) v5)
        have q59 : hI h2 10 0 59 = -9 := (R2 10 0 59 (by omega)).trans (congrArg (fun z : L5 => z.2.2.2.1) v5)
        have q60 : hI h2 10 0 60 = -9 := (R2 10 0 60 (by omega)).trans (congrArg (fun z : L5 => z.2.2.2.2) v5)
        refine v_fm_look_95 _ _ _ _ (C.1.of T2.1) ⟨fun _ => ?_, fun q => absurd (by rw [c3']; exact Int32.le_refl _) q⟩
        refine sp_explains (d := d + 1) C T2 (fun _ _ => Nat.zero_le _) ⟨_, rfl, (C.1.of T2.1).of (sameA.rn _ nT nJ _ _).1, ?_⟩
        have T3 := T2.rn
        have go : ∀ x : Int32, (x, (-9 : Int32), (-9 : Int32), (-9 : Int32), (-9 : Int32)) = l5 (lkE h nT nJ nK) 0 → mT g me_fm_look (d + 4) 0 0 134 [some (vr 10 0), some (vi x1), some (vi 0), o3, o4] [] (setI (rnC h2 nT nJ) 10 0 56 x) Q := by
          intro x hx
          refine ones 0 (Nat.zero_le _) _ o3 o4 (T3.s10 (by omega) (by omega)) ((hI_nf (by decide)).trans w55) ?_ ((hI_nf (by decide)).trans w61)
          rw [← hx]
          show (x, hI h2 10 0 57, hI h2 10 0 58, hI h2 10 0 59, hI h2 10 0 60) = _
          rw [q57, q58, q59, q60]
        refine ⟨fun q => go 3 ?_, fun q => go 0 ?_⟩
        · unfold l5
          rw [if_neg (by rw [bI_0.mp q]; decide)]
          rfl
        · unfold l5
          have : lkE h nT nJ nK (fun _ => 0) = true := by
            cases y : lkE h nT nJ nK (fun _ => 0) with
            | true => rfl
            | false => rw [y] at q; exact absurd rfl q
          rw [if_pos this]
      · intro h2 e R2 F
        have c3' : hI h2 10 0 3 = nI nJ := (R2 10 0 3 (by omega)).trans ((R1.2 10 0 3 rfl).trans C0.k3)
        refine v_fm_look_95 _ _ _ _ (C.1.of (e.trans (R1.1.trans e1))) ⟨fun q => absurd q (by rw [c3']; exact nnle hj (by omega)), fun _ => ⟨nin (by omega) (by omega), ?_⟩⟩
        rw [nc (by omega : j ≤ 1000000), nI_1]
        refine ih _ e (fun k n f z => (hI_no (fun y => z ⟨y.1, y.2.1⟩)).trans (R2 k n f z)) fun i hi => ?_
        rw [hI_setI2]
        by_cases q : i = j
        · rw [if_pos q]
        · rw [if_neg q]; exact F i (by omega)
    exact z 0 (Nat.zero_le _) _ rfl (fun _ _ _ _ => rfl) (fun i hi => absurd hi (Nat.not_lt_zero _))
  -- is any read
  have any1 : lkN h nK = true → ∀ i, i ≤ nK → ∀ o3 o4, mT g me_fm_look (d + 4) 0 0 51 [some (vr 10 0), some (vi 1), some (vi (nI i)), o3, o4] [] h0 Q := by
    intro hN
    refine upTo ?_ fun i hi ih => ?_
    · intro o3 o4
      refine v_fm_look_51 _ _ _ _ C0.1 ⟨fun _ => ⟨fun _ => ?_, fun q => absurd q (by decide)⟩, fun q => absurd (by rw [C0.k4]; exact Int32.le_refl _) q⟩
      exact sp_asItIs C0.1 C0.k2 C0.k3 C0.k4 C.2.1.1 C.2.1.2.1 C.2.1.2.2.1 (fun k hk => C0.pl hk) ⟨rfl, C0.1.of (sameA.as h0 nT nJ nK).1, body hN 1 o3 o4⟩
    · intro o3 o4
      refine v_fm_look_51 _ _ _ _ C0.1 ⟨fun q => absurd q (by rw [C0.k4]; exact nnle hi (by omega)), fun _ => ⟨fun _ => ?_, fun q => absurd q (by decide)⟩⟩
      rw [nI_1]
      exact ih o3 o4
  have any0 : ∀ i, i ≤ nK → ∀ o3 o4, (∀ k, k < i → hI h 11 23 k < 0) → mT g me_fm_look (d + 4) 0 0 51 [some (vr 10 0), some (vi 0), some (vi (nI i)), o3, o4] [] h0 Q := by
    refine upTo ?_ fun i hi ih => ?_
    · intro o3 o4 z
      have hN : lkN h nK = false := decide_eq_false fun ⟨k, k1, k2⟩ => k2 (z k k1)
      refine v_fm_look_51 _ _ _ _ C0.1 ⟨fun _ => ⟨fun q => absurd rfl q, fun _ => ?_⟩, fun q => absurd (by rw [C0.k4]; exact Int32.le_refl _) q⟩
      refine K h0 ⟨e1, P0, by rw [v55]; decide, ?_⟩
      rw [hN, v5, v61]
      rfl
    · intro o3 o4 z
      refine v_fm_look_51 _ _ _ _ C0.1 ⟨fun q => absurd q (by rw [C0.k4]; exact nnle hi (by omega)), fun _ => ⟨fun q => absurd rfl q, fun _ => ⟨nin (by omega) (by omega), ?_⟩⟩⟩
      rw [nc (by omega : i ≤ 1000000), R0.2 11 23 i rfl, nI_1]
      refine ⟨fun q => ih o3 o4 fun k hk => ?_, fun q => any1 (decide_eq_true ⟨i, hi, q⟩) (i + 1) (by omega) o3 o4⟩
      by_cases y : k = i
      · rw [y]; exact q
      · exact z k (by omega)
  exact any0 0 (Nat.zero_le _) none none fun k hk => absurd hk (Nat.not_lt_zero _)
end CORE
