/-! two leaks together; seek, howManyAlone -/
section CORE
variable {h h' hm : mH} {nT nJ nK nV nT' nJ' nK' : Nat} {vs : Nat → Nat}
theorem twoX_le {i j v w a : Nat} (hv : v ≤ 60) (hw : w ≤ 60) : twoX i j v w a ≤ 60 := by
  unfold twoX
  split
  · exact hv
  · split
    · exact hw
    · omega
theorem twoX_mono {i j v w v' w' a : Nat} (hv : v ≤ v') (hw : w ≤ w') : twoX i j v w a ≤ twoX i j v' w' a := by
  unfold twoX
  split
  · exact hv
  · split
    · exact hw
    · omega
theorem sp_together {g : mG} {d i j : Nat} {Q : Option mV → mH → Prop} (C : mCore h nT nJ nK nV vs) (hi : i < nJ) (hj : j < nJ) (hij : i ≠ j) (T : cX h h' nJ (fun _ => 0)) (K0 : tw2 (lkE h nT nJ nK) i j = none → ∀ h2, cX h h2 nJ (fun _ => 0) → r4 h2 = r4 h' → Q (some (vi 0)) h2)
    (K1 : ∀ v w, tw2 (lkE h nT nJ nK) i j = some v → twV (lkE h nT nJ nK) i j v = some w → ∀ h2, cX h h2 nJ (fun _ => 0) → r4 h2 = (nI i, nI v, nI j, nI w) → Q (some (vi 1)) h2) : mT g me_lk_explainTogether (d + 7) 0 0 0 [some (vr 5 0), some (vr 7 i), some (vr 7 j), none, none, none, none, none, none] [] h' Q := by
  have s1 : ∀ {v w x : Nat} {h2 : mH}, cX h h2 nJ (twoX i j v w) → cX h (setI h2 7 i 7 (nI x)) nJ (twoX i j x w) := fun T2 => T2.set hi (by unfold twoX; rw [if_pos rfl]) fun a _ ha => by unfold twoX; rw [if_neg ha, if_neg ha]
  have s2 : ∀ {v w x : Nat} {h2 : mH}, cX h h2 nJ (twoX i j v w) → cX h (setI h2 7 j 7 (nI x)) nJ (twoX i j v x) := fun T2 => T2.set hj (by unfold twoX; rw [if_neg (fun z => hij z.symm), if_pos rfl]) fun a _ ha => by
    unfold twoX
    by_cases q : a = i
    · rw [if_pos q, if_pos q]
    · rw [if_neg q, if_neg q, if_neg ha, if_neg ha]
  have T0 : cX h h' nJ (twoX i j 0 0) := T.cg fun a _ => by unfold twoX; split <;> simp
  have z0 : ∀ {h2 : mH}, cX h h2 nJ (twoX i j 0 0) → cX h h2 nJ (fun _ => 0) := fun T2 => T2.cg fun a _ => by unfold twoX; split <;> simp
  have hb : ∀ v w, v ≤ 60 → w ≤ 60 → ∀ a, a < nJ → twoX i j v w a ≤ 60 := fun v w hv hw a _ => twoX_le hv hw
  -- the two ends
  have fin0 : tw2 (lkE h nT nJ nK) i j = none → ∀ h2 v w, cX h h2 nJ (twoX i j v w) → r4 h2 = r4 h' → Q (some (vi 0)) (setI (setI h2 7 i 7 0) 7 j 7 0) := by
    intro e h2 v w T2 r2
    exact K0 e _ (z0 (s2 (x := 0) (s1 (x := 0) T2))) r2
  have fin1 : ∀ v w, tw2 (lkE h nT nJ nK) i j = some v → twV (lkE h nT nJ nK) i j v = some w → ∀ h2, cX h h2 nJ (twoX i j v w) → Q (some (vi 1)) (setI (setI (setI (setI (setI (setI h2 5 0 2 (hI h2 7 i 0)) 5 0 3 (hI h2 7 i 7)) 5 0 4 (hI h2 7 j 0)) 5 0 5 (hI h2 7 j 7)) 7 i 7 0) 7 j 7 0) := by
    intro v w e1 e2 h2 T2
    have T3 : cX h (setI (setI (setI (setI h2 5 0 2 (hI h2 7 i 0)) 5 0 3 (hI h2 7 i 7)) 5 0 4 (hI h2 7 j 0)) 5 0 5 (hI h2 7 j 7)) nJ (twoX i j v w) := ⟨T2.1, fun k n f r z => (hI_no (fun y => by rw [y.1, y.2.2] at r; exact absurd (show false = true from r) (by decide))).trans ((hI_no (fun y => by rw [y.1, y.2.2] at r; exact absurd (show false = true from r) (by decide))).trans ((hI_no (fun y => by rw [y.1, y.2.2] at r; exact absurd (show false = true from r) (by decide))).trans ((hI_no (fun y => by rw [y.1, y.2.2] at r; exact absurd (show false = true from r) (by decide))).trans (T2.2.1 k n f r z)))), fun a ha => T2.2.2.1 a ha, fun a ha => T2.2.2.2 a ha⟩
    refine K1 v w e1 e2 _ (z0 (s2 (x := 0) (s1 (x := 0) T3))) ?_
    have a0 : hI h2 7 i 0 = nI i := (T2.R.2 7 i 0 rfl).trans (C.jn hi).1
    have b0 : hI h2 7 j 0 = nI j := (T2.R.2 7 j 0 rfl).trans (C.jn hj).1
    have a7 : hI h2 7 i 7 = nI v := (T2.2.2.1 i hi).trans (by unfold twoX; rw [if_pos rfl])
    have b7 : hI h2 7 j 7 = nI w := (T2.2.2.1 j hj).trans (by unfold twoX; rw [if_neg (fun z => hij z.symm), if_pos rfl])
    rw [a0, b0, a7, b7]
    rfl
  -- the leaks of the second pipe
  have inner : ∀ v, v ≤ 12 → 1 ≤ v → ∀ n w, w + n = 13 → 1 ≤ w → fsN (fun w => lkE h nT nJ nK (twoX i j v w)) w n = twV (lkE h nT nJ nK) i j v → ∀ h2 u o8, u ≤ 12 → cX h h2 nJ (twoX i j v u) → r4 h2 = r4 h' →
      (twV (lkE h nT nJ nK) i j v = none → ∀ h3 o6 o7 o8 u, u ≤ 12 → cX h h3 nJ (twoX i j v u) → r4 h3 = r4 h' → mT g me_lk_explainTogether (d + 7) 0 0 33 [some (vr 5 0), some (vr 7 i), some (vr 7 j), some (vi 0), some (vi 0), some (vi (nI (v + 1))), o6, o7, o8] [] h3 Q) →
      (∀ w, twV (lkE h nT nJ nK) i j v = some w → ∀ h3 o6 o7 o8, cX h h3 nJ (twoX i j v w) → mT g me_lk_explainTogether (d + 7) 0 0 33 [some (vr 5 0), some (vr 7 i), some (vr 7 j), some (vi 0), some (vi 1), some (vi (nI (v + 1))), o6, o7, o8] [] h3 Q) →
      mT g me_lk_explainTogether (d + 7) 0 0 61 [some (vr 5 0), some (vr 7 i), some (vr 7 j), some (vi 0), some (vi 0), some (vi (nI v)), some (vi 0), some (vi (nI w)), o8] [] h2 Q := by
    intro v hv hv1 n
    induction n with
    | zero =>
      intro w hw hw1 e h2 u o8 hu T2 r2 KN KS
      refine v_lk_explainTogether_61 _ _ _ _ _ _ _ _ (C.1.of T2.1) ⟨fun _ => ?_, fun q => absurd (nlt (a := 12) (by omega) (by omega)) q⟩
      rw [nI_1]
      exact KN e.symm h2 _ _ _ u hu T2 r2
    | succ n ih =>
      intro w hw hw1 e h2 u o8 hu T2 r2 KN KS
      refine v_lk_explainTogether_61 _ _ _ _ _ _ _ _ (C.1.of T2.1) ⟨fun q => absurd q (nnlt (a := 12) (by omega) (by omega)), fun _ => ⟨fun q => absurd rfl q, fun _ => ⟨fun q => absurd rfl q, fun _ => ?_⟩⟩⟩
      have T3 := s2 (x := w) T2
      have bvw := hb v w (by omega) (by omega)
      refine sp_misses (d := d) C T3 bvw ⟨_, rfl, (C.1.of T3.1).of (sameR.rk _ nT nJ _ 1).1, ?_⟩
      have T4 := T3.rk (nT := nT) (hI h 1 0 3)
      have r5 : r4 (rkH (setI h2 7 j 7 (nI w)) nT nJ (hI h 1 0 3) 1) = r4 h' := r2
      have eE := lkE_hl C bvw
      have ef : fsN (fun w => lkE h nT nJ nK (twoX i j v w)) w (n + 1) = if lkE h nT nJ nK (twoX i j v w) = true then some w else fsN (fun w => lkE h nT nJ nK (twoX i j v w)) (w + 1) n := rfl
      rw [ef] at e
      rw [nI_1]
      -- too low: no more for this leak of the first
      have low : loX h nT nJ nK (twoX i j v w) nK = true → twV (lkE h nT nJ nK) i j v = none → ∀ x7 o8, mT g me_lk_explainTogether (d + 7) 0 0 61 [some (vr 5 0), some (vr 7 i), some (vr 7 j), some (vi 0), some (vi 0), some (vi (nI v)), some (vi 1), some (vi x7), o8] [] (rkH (setI h2 7 j 7 (nI w)) nT nJ (hI h 1 0 3) 1) Q := by
        intro _ en x7 o8
        have k := KN en _ (some (vi 1)) (some (vi x7)) o8 w (by omega) T4 r5
        refine v_lk_explainTogether_61 _ _ _ _ _ _ _ _ (C.1.of T4.1) ⟨fun _ => ?_, fun _ => ⟨fun q => absurd rfl q, fun _ => ⟨fun _ => ?_, fun q => absurd q (by decide)⟩⟩⟩
        · rw [nI_1]; exact k
        · rw [nI_1]; exact k
      have none_up : loX h nT nJ nK (twoX i j v w) nK = true → fsN (fun w => lkE h nT nJ nK (twoX i j v w)) (w + 1) n = none := by
        intro el
        refine (fsN_none n (w + 1)).mpr fun x x1 x2 => ?_
        have hm := lo_up C (X := twoX i j v w) (Y := twoX i j v x) (fun a _ => twoX_mono (Nat.le_refl _) (by omega)) (hb v x (by omega) (by omega)) el
        have := lkE_hl C (hb v x (by omega) (by omega))
        rw [hm] at this
        simpa using this
      cases eh : hiX h nT nJ nK (twoX i j v w) nK with
      | false =>
        cases el : loX h nT nJ nK (twoX i j v w) nK with
        | false =>
          rw [eh, el] at eE
          rw [if_pos (show lkE h nT nJ nK (twoX i j v w) = true from eE)] at e
          refine ⟨fun _ => ⟨fun q => absurd rfl q, fun _ => ?_⟩, fun q => absurd (by decide) q⟩
          have k := KS w e.symm _ (some (vi 0)) (some (vi (nI (w + 1)))) (some (vi (mv false false))) T4
          refine v_lk_explainTogether_61 _ _ _ _ _ _ _ _ (C.1.of T4.1) ⟨fun _ => ?_, fun _ => ⟨fun _ => ?_, fun q => absurd q (by decide)⟩⟩
          · rw [nI_1]; exact k
          · rw [nI_1]; exact k
        | true =>
          rw [eh, el] at eE
          rw [if_neg (by rw [eE]; decide), none_up el] at e
          exact ⟨fun q => absurd q (by decide), fun _ => ⟨fun _ => low el e.symm _ _, fun q => absurd q (by decide)⟩⟩
      | true =>
        have eE2 : lkE h nT nJ nK (twoX i j v w) = false := by rw [eE, eh]; rfl
        rw [if_neg (by rw [eE2]; decide)] at e
        cases el : loX h nT nJ nK (twoX i j v w) nK with
        | false =>
          exact ⟨fun _ => ⟨fun _ => ih (w + 1) (by omega) (by omega) e _ w _ (by omega) T4 r5 KN KS, fun q => absurd q (by decide)⟩, fun q => absurd (by decide) q⟩
        | true =>
          rw [none_up el] at e
          exact ⟨fun q => absurd q (by decide), fun _ => ⟨fun _ => low el e.symm _ _, fun q => absurd q (by decide)⟩⟩
  -- the leaks of the first pipe
  have outer : ∀ n v, v + n = 13 → 1 ≤ v → fsN (fun v => (twV (lkE h nT nJ nK) i j v).isSome) v n = tw2 (lkE h nT nJ nK) i j → ∀ h2 u x o6 o7 o8, u ≤ 12 → x ≤ 12 → cX h h2 nJ (twoX i j x u) → r4 h2 = r4 h' → mT g me_lk_explainTogether (d + 7) 0 0 33 [some (vr 5 0), some (vr 7 i), some (vr 7 j), some (vi 0), some (vi 0), some (vi (nI v)), o6, o7, o8] [] h2 Q := by
    intro n
    induction n with
    | zero =>
      intro v hv hv1 e h2 u x o6 o7 o8 hu hx T2 r2
      exact v_lk_explainTogether_33 _ _ _ _ _ _ _ _ (C.1.of T2.1) ⟨fun _ => ⟨fun _ => ⟨zn_0, fin0 e.symm h2 x u T2 r2⟩, fun q => absurd rfl q⟩, fun q => absurd (nlt (a := 12) (by omega) (by omega)) q⟩
    | succ n ih =>
      intro v hv hv1 e h2 u x o6 o7 o8 hu hx T2 r2
      have ef : fsN (fun v => (twV (lkE h nT nJ nK) i j v).isSome) v (n + 1) = if (twV (lkE h nT nJ nK) i j v).isSome = true then some v else fsN (fun v => (twV (lkE h nT nJ nK) i j v).isSome) (v + 1) n := rfl
      rw [ef] at e
      refine v_lk_explainTogether_33 _ _ _ _ _ _ _ _ (C.1.of T2.1) ⟨fun q => absurd q (nnlt (a := 12) (by omega) (by omega)), fun _ => ⟨fun q => absurd rfl q, fun _ => ⟨fun q => absurd rfl q, fun _ => ?_⟩⟩⟩
      refine inner v (by omega) hv1 12 1 (by omega) (by omega) rfl _ u o8 hu (s1 (x := v) T2) r2 (fun en h3 o6 o7 o8 u hu T3 r3 => ?_) (fun w es h3 o6 o7 o8 T3 => ?_)
      · rw [en] at e
        exact ih (v + 1) (by omega) (by omega) e h3 u v o6 o7 o8 hu (by omega) T3 r3
      · rw [es, if_pos Option.isSome_some] at e
        have f1 := fin1 v w e.symm es h3 T3
        exact v_lk_explainTogether_33 _ _ _ _ _ _ _ _ (C.1.of T3.1) ⟨fun _ => ⟨fun q => absurd q (by decide), fun _ => ⟨zn_1, f1⟩⟩, fun _ => ⟨fun _ => ⟨fun q => absurd q (by decide), fun _ => ⟨zn_1, f1⟩⟩, fun q => absurd q (by decide)⟩⟩
  have T12 := s2 (x := 12) (s1 (x := 12) T0)
  have b12 := hb 12 12 (by omega) (by omega)
  refine v_lk_explainTogether_0 _ _ (C.1.of T.1) (sp_misses (d := d) C T12 b12 ⟨_, rfl, (C.1.of T12.1).of (sameR.rk _ nT nJ _ 1).1, ?_⟩)
  have T4 := T12.rk (nT := nT) (hI h 1 0 3)
  have r5 : r4 (rkH (setI (setI h' 7 i 7 (nI 12)) 7 j 7 (nI 12)) nT nJ (hI h 1 0 3) 1) = r4 h' := rfl
  cases eh : hiX h nT nJ nK (twoX i j 12 12) nK with
  | false =>
    refine ⟨fun _ => outer 12 1 (by omega) (by omega) rfl _ 12 12 none none none (by omega) (by omega) T4 r5, fun q => absurd ?_ q⟩
    cases loX h nT nJ nK (twoX i j 12 12) nK <;> decide
  | true =>
    have en : tw2 (lkE h nT nJ nK) i j = none := by
      refine (fsN_none 12 1).mpr fun v v1 v2 => ?_
      have : twV (lkE h nT nJ nK) i j v = none := by
        refine (fsN_none 12 1).mpr fun w w1 w2 => ?_
        have hm := hi_down C (X := twoX i j v w) (Y := twoX i j 12 12) (fun a _ => twoX_mono (by omega) (by omega)) b12 eh
        have := lkE_hl C (hb v w (by omega) (by omega))
        rw [hm] at this
        simpa using this
      rw [this]
      rfl
    refine ⟨fun q => absurd q ?_, fun _ => ?_⟩
    · cases loX h nT nJ nK (twoX i j 12 12) nK <;> decide
    · have f0 := fin0 en _ 12 12 T4 r5
      exact v_lk_explainTogether_33 _ _ _ _ _ _ _ _ (C.1.of T4.1) ⟨fun q => absurd q (by decide), fun _ => ⟨fun q => absurd rfl q, fun _ => ⟨fun _ => ⟨fun _ => ⟨zn_0, f0⟩, fun q => absurd rfl q⟩, fun q => absurd q (by decide)⟩⟩⟩
theorem sp_anyRead {g : mG} {d : Nat} {Q : Option mV → mH → Prop} (C : mCore h nT nJ nK nV vs) (R : sameA h h') (K0 : lkN h nK = false → Q (some (vi 0)) h') (K1 : lkN h nK = true → Q (some (vi 1)) h') : mT g me_lk_isAnyRead (d + 4) 0 0 0 [some (vr 5 0), none] [] h' Q := by
  have bK := C.2.1.2.2.1
  have lst : mCl h' 2 8 nK id := C.2.2.1.2.2.1.of R.1 (R.2 2 2 1 rfl)
  have w : ∀ i, i ≤ nK → (∀ k, k < i → hI h 11 23 k < 0) → mT g me_lk_isAnyRead (d + 4) 0 0 2 [some (vr 5 0), some (vi (nI i))] [] h' Q := by
    refine upTo ?_ fun i hi ih => ?_
    · intro z
      exact v_lk_isAnyRead_2 _ (C.1.of R.1) ⟨fun _ => K0 (decide_eq_false fun ⟨k, k1, k2⟩ => k2 (z k k1)), fun q => absurd (by rw [lst.1]; exact Int32.le_refl _) q⟩
    · intro z
      refine v_lk_isAnyRead_2 _ (C.1.of R.1) ⟨fun q => absurd q (by rw [lst.1]; exact nnle hi (by omega)), fun _ => ⟨i, lst.get hi, ?_⟩⟩
      rw [R.2 8 i 4 rfl, (C.je hi).b4.1, nI_1]
      refine ⟨fun q => ih fun k hk => ?_, fun q => K1 (decide_eq_true ⟨i, hi, q⟩)⟩
      by_cases y : k = i
      · rw [y]; exact q
      · exact z k (by omega)
  exact v_lk_isAnyRead_0 (C.1.of R.1) (w 0 (Nat.zero_le _) fun k hk => absurd hk (Nat.not_lt_zero _))
/-- what explain tells, and where -/
theorem sp_seek {g : mG} {d : Nat} {Q : Option mV → mH → Prop} (I : mI h nT nJ nK nV vs) (K : ∀ h2, sameA h h2 → r4 h2 = (lkF (lkE h nT nJ nK) nJ (lkN h nK)).1.2 → Q (some (vi (lkF (lkE h nT nJ nK) nJ (lkN h nK)).1.1)) h2) : mT g me_lk_seek (d + 8) 0 0 0 [some (vr 5 0), none, none, none] [] h Q := by
  have C := I.1
  have F := I.2.1
  have bJ := C.2.1.2.1
  have R0 : sameA h (setI (setI (setI (setI h 5 0 2 (-9)) 5 0 3 (-9)) 5 0 4 (-9)) 5 0 5 (-9)) := (((sameA.rf.sI rfl).sI rfl).sI rfl).sI rfl
  have r0 : r4 (setI (setI (setI (setI h 5 0 2 (-9)) 5 0 3 (-9)) 5 0 4 (-9)) 5 0 5 (-9)) = (-9, -9, -9, -9) := rfl
  generalize setI (setI (setI (setI h 5 0 2 (-9)) 5 0 3 (-9)) 5 0 4 (-9)) 5 0 5 (-9) = h0 at R0 r0
  refine v_lk_seek_0 C.1 ?_
  have e0 : setI (setI (setI (setI h 5 0 2 (-9)) 5 0 3 (-9)) 5 0 4 (-9)) 5 0 5 (-9) = setI (setI (setI (setI h 5 0 2 (-9)) 5 0 3 (-9)) 5 0 4 (-9)) 5 0 5 (-9) := rfl
  clear e0
  have main : ∀ h0, sameA h h0 → r4 h0 = (-9, -9, -9, -9) → mT g me_lk_isAnyRead (d + 7) 0 0 0 [some (vr 5 0), none] [] h0 (fun v h1 => ∃ y2, v = some (vi y2) ∧ mSK h1 ∧ ((¬ y2 = 0 → mT g me_lk_misses (d + 7) 0 0 0 [some (vr 5 0), none, none, none, none] [] h1 (fun v h3 => ∃ y4, v = some (vi y4) ∧ mSK h3 ∧ ((¬ y4 = 0 → mT g me_lk_seek (d + 8) 0 0 35 [some (vr 5 0), some (vi (hI h3 2 1 1)), some (vi (0 : Int32)), none] [] h3 Q) ∧ (y4 = 0 → Q (some (vi (0 : Int32))) h3)))) ∧ (y2 = 0 → Q (some (vi (4 : Int32))) h1))) := by
    intro h0 R0 r0
    refine sp_anyRead (d := d + 3) C R0 (fun e => ⟨_, rfl, C.1.of R0.1, fun q => absurd rfl q, fun _ => ?_⟩) (fun e => ⟨_, rfl, C.1.of R0.1, fun _ => ?_, fun q => absurd q (by decide)⟩)
    · rw [e] at K
      exact K h0 R0 r0
    · rw [e] at K
      have eF : lkF (lkE h nT nJ nK) nJ true = (lk5 (lkE h nT nJ nK) nJ, nI (cnt (fun j => (alV (lkE h nT nJ nK) j).isSome) nJ)) := rfl
      rw [eF] at K
      have T0 := cX.of F R0
      have bz : ∀ j, j < nJ → (fun _ : Nat => 0) j ≤ 60 := fun _ _ => Nat.zero_le _
      refine sp_misses (d := d + 1) C T0 bz ⟨_, rfl, (C.1.of R0.1).of (sameR.rk _ nT nJ _ 1).1, ?_⟩
      have T1 := T0.rk (nT := nT) (hI h 1 0 3)
      have r1 : r4 (rkH h0 nT nJ (hI h 1 0 3) 1) = (-9, -9, -9, -9) := r0
      have eE := lkE_hl C bz
      have e5 : lk5 (lkE h nT nJ nK) nJ = if lkE h nT nJ nK (fun _ => 0) = true then ((0, -9, -9, -9, -9) : L5) else match al1 (lkE h nT nJ nK) nJ with
        | some j => (1, nI j, nI ((alV (lkE h nT nJ nK) j).getD 0), -9, -9)
        | none => match pr1 (lkE h nT nJ nK) nJ with
          | some i => (2, nI i, nI ((tw2 (lkE h nT nJ nK) i ((pr2 (lkE h nT nJ nK) nJ i).getD 0)).getD 0), nI ((pr2 (lkE h nT nJ nK) nJ i).getD 0), nI ((twV (lkE h nT nJ nK) i ((pr2 (lkE h nT nJ nK) nJ i).getD 0) ((tw2 (lkE h nT nJ nK) i ((pr2 (lkE h nT nJ nK) nJ i).getD 0)).getD 0)).getD 0))
          | none => (3, -9, -9, -9, -9) := rfl
      rw [e5] at K
      have hz : mv (hiX h nT nJ nK (fun _ => 0) nK) (loX h nT nJ nK (fun _ => 0) nK) = 0 ↔ lkE h nT nJ nK (fun _ => 0) = true := by
        rw [eE]
        cases hiX h nT nJ nK (fun _ => 0) nK <;> cases loX h nT nJ nK (fun _ => 0) nK <;> decide
      refine ⟨fun q => ?_, fun q => ?_⟩
      · rw [if_neg (fun z => q (hz.mpr z))] at K
        have l1 : hI (rkH h0 nT nJ (hI h 1 0 3) 1) 2 1 1 = nI nJ := (T1.2.1 2 1 1 rfl (by decide)).trans C.2.2.1.2.1.1
        rw [l1]
        generalize rkH h0 nT nJ (hI h 1 0 3) 1 = h1 at T1 r1
        -- pairs
        have pairs : al1 (lkE h nT nJ nK) nJ = none → ∀ n i, i + n = nJ → fsN (fun i => (pr2 (lkE h nT nJ nK) nJ i).isSome) i n = pr1 (lkE h nT nJ nK) nJ → ∀ h2 o3, cX h h2 nJ (fun _ => 0) → r4 h2 = (-9, -9, -9, -9) → mT g me_lk_seek (d + 8) 0 0 71 [some (vr 5 0), some (vi (nI nJ)), some (vi (nI i)), o3] [] h2 Q := by
          intro ea n
          rw [ea] at K
          dsimp only at K
          induction n with
          | zero =>
            intro i hi e h2 o3 T2 r2
            have en : pr1 (lkE h nT nJ nK) nJ = none := e.symm
            rw [en] at K
            refine v_lk_seek_71 _ _ _ (C.1.of T2.1) ⟨fun _ => K h2 (T2.A F fun _ _ => rfl) r2, fun q => absurd (nle (by omega) (by omega)) q⟩
          | succ n ihn =>
            intro i hi e h2 o3 T2 r2
            refine v_lk_seek_71 _ _ _ (C.1.of T2.1) ⟨fun q => absurd q (nnle (by omega) (by omega)), fun _ => ?_⟩
            rw [nI_1]
            have ef : fsN (fun i => (pr2 (lkE h nT nJ nK) nJ i).isSome) i (n + 1) = if (pr2 (lkE h nT nJ nK) nJ i).isSome = true then some i else fsN (fun i => (pr2 (lkE h nT nJ nK) nJ i).isSome) (i + 1) n := rfl
            rw [ef] at e
            have w : ∀ m j, j + m = nJ → i < j → fsN (fun j => (tw2 (lkE h nT nJ nK) i j).isSome) j m = pr2 (lkE h nT nJ nK) nJ i → ∀ h3, cX h h3 nJ (fun _ => 0) → r4 h3 = (-9, -9, -9, -9) → mT g me_lk_seek (d + 8) 0 0 80 [some (vr 5 0), some (vi (nI nJ)), some (vi (nI i)), some (vi (nI j))] [] h3 Q := by
              intro m
              induction m with
              | zero =>
                intro j hj hij e2 h3 T3 r3
                have en : pr2 (lkE h nT nJ nK) nJ i = none := e2.symm
                rw [en] at e
                refine v_lk_seek_80 _ _ _ (C.1.of T3.1) ⟨fun _ => ?_, fun q => absurd (nle (by omega) (by omega)) q⟩
                rw [nI_1]
                exact ihn (i + 1) (by omega) e h3 _ T3 r3
              | succ m ihm =>
                intro j hj hij e2 h3 T3 r3
                have lst : mCl h3 1 7 nJ id := C.2.2.1.2.1.of T3.1 (T3.2.1 2 1 1 rfl (by decide))
                have ef2 : fsN (fun j => (tw2 (lkE h nT nJ nK) i j).isSome) j (m + 1) = if (tw2 (lkE h nT nJ nK) i j).isSome = true then some j else fsN (fun j => (tw2 (lkE h nT nJ nK) i j).isSome) (j + 1) m := rfl
                rw [ef2] at e2
                refine v_lk_seek_80 _ _ _ (C.1.of T3.1) ⟨fun q => absurd q (nnle (by omega) (by omega)), fun _ => ⟨i, lst.get (by omega), j, lst.get (by omega), ?_⟩⟩
                refine sp_together (d := d) C (by omega) (by omega) (by omega) T3 (fun en h4 T4 r4' => ⟨_, rfl, C.1.of T4.1, fun _ => ?_, fun q => absurd rfl q⟩) (fun v x ev ew h4 T4 r4' => ⟨_, rfl, C.1.of T4.1, fun q => absurd q (by decide), fun _ => ?_⟩)
                · rw [nI_1]
                  rw [en] at e2
                  exact ihm (j + 1) (by omega) (by omega) e2 h4 T4 (r4'.trans r3)
                · rw [ev, if_pos Option.isSome_some] at e2
                  rw [← e2] at e
                  rw [if_pos Option.isSome_some] at e
                  rw [← e] at K
                  dsimp only at K
                  rw [← e2] at K
                  dsimp only [Option.getD_some] at K
                  rw [ev] at K
                  dsimp only [Option.getD_some] at K
                  rw [ew] at K
                  exact K h4 (T4.A F fun _ _ => rfl) r4'
            refine w (nJ - (i + 1)) (i + 1) (by omega) (by omega) rfl h2 T2 r2
        -- single pipes
        have ones : ∀ n a, a + n = nJ → fsN (fun j => (alV (lkE h nT nJ nK) j).isSome) a n = al1 (lkE h nT nJ nK) nJ → ∀ h2 o3, cX h h2 nJ (fun _ => 0) → r4 h2 = (-9, -9, -9, -9) → mT g me_lk_seek (d + 8) 0 0 35 [some (vr 5 0), some (vi (nI nJ)), some (vi (nI a)), o3] [] h2 Q := by
          intro n
          induction n with
          | zero =>
            intro a ha e h2 o3 T2 r2
            refine v_lk_seek_35 _ _ _ (C.1.of T2.1) ⟨fun _ => ?_, fun q => absurd (nle (by omega) (by omega)) q⟩
            exact pairs e.symm nJ 0 (by omega) rfl h2 _ T2 r2
          | succ n ihn =>
            intro a ha e h2 o3 T2 r2
            have lst : mCl h2 1 7 nJ id := C.2.2.1.2.1.of T2.1 (T2.2.1 2 1 1 rfl (by decide))
            have ef : fsN (fun j => (alV (lkE h nT nJ nK) j).isSome) a (n + 1) = if (alV (lkE h nT nJ nK) a).isSome = true then some a else fsN (fun j => (alV (lkE h nT nJ nK) j).isSome) (a + 1) n := rfl
            rw [ef] at e
            refine v_lk_seek_35 _ _ _ (C.1.of T2.1) ⟨fun q => absurd q (nnle (by omega) (by omega)), fun _ => ⟨a, lst.get (by omega), ?_⟩⟩
            refine sp_alone (d := d) C (by omega) T2 (fun en h3 T3 r3 => ⟨_, rfl, C.1.of T3.1, fun _ => ?_, fun q => absurd rfl q⟩) (fun v ev h3 T3 r3 => ⟨_, rfl, C.1.of T3.1, fun q => absurd q (by decide), fun _ => ?_⟩)
            · rw [nI_1]
              rw [en] at e
              exact ihn (a + 1) (by omega) e h3 _ T3 (r3.trans r2)
            · rw [ev, if_pos Option.isSome_some] at e
              rw [← e] at K
              dsimp only at K
              rw [ev] at K
              rw [r2] at r3
              exact K h3 (T3.A F fun _ _ => rfl) r3
        exact ones nJ 0 (by omega) rfl h1 none T1 r1
      · rw [if_pos (hz.mp q)] at K
        exact K _ (T1.A F fun _ _ => rfl) r1
  exact main _ ((((sameA.rf.sI rfl).sI rfl).sI rfl).sI rfl) rfl
theorem sp_howMany {g : mG} {d : Nat} {Q : Option mV → mH → Prop} (I : mI h nT nJ nK nV vs) (K : ∀ h2, sameA h h2 → Q (some (vi (lkF (lkE h nT nJ nK) nJ (lkN h nK)).2)) h2) : mT g me_lk_howManyAlone (d + 8) 0 0 0 [some (vr 5 0), none, none] [] h Q := by
  have C := I.1
  have F := I.2.1
  have bJ := C.2.1.2.1
  refine v_lk_howManyAlone_0 C.1 (sp_anyRead (d := d + 3) C sameA.rf (fun e => ⟨_, rfl, C.1, fun q => absurd rfl q, fun _ => ?_⟩) (fun e => ⟨_, rfl, C.1, fun _ => ?_, fun q => absurd q (by decide)⟩))
  · rw [e] at K
    exact K h sameA.rf
  · rw [e] at K
    have eF : lkF (lkE h nT nJ nK) nJ true = (lk5 (lkE h nT nJ nK) nJ, nI (cnt (fun j => (alV (lkE h nT nJ nK) j).isSome) nJ)) := rfl
    rw [eF] at K
    have w : ∀ a, a ≤ nJ → ∀ h2, cX h h2 nJ (fun _ => 0) → mT g me_lk_howManyAlone (d + 8) 0 0 13 [some (vr 5 0), some (vi (nI (cnt (fun j => (alV (lkE h nT nJ nK) j).isSome) a))), some (vi (nI a))] [] h2 Q := by
      refine upTo ?_ fun a ha ih => ?_
      · intro h2 T2
        have lst : mCl h2 1 7 nJ id := C.2.2.1.2.1.of T2.1 (T2.2.1 2 1 1 rfl (by decide))
        exact v_lk_howManyAlone_13 _ _ (C.1.of T2.1) ⟨fun _ => K h2 (T2.A F fun _ _ => rfl), fun q => absurd (by rw [lst.1]; exact Int32.le_refl _) q⟩
      · intro h2 T2
        have lst : mCl h2 1 7 nJ id := C.2.2.1.2.1.of T2.1 (T2.2.1 2 1 1 rfl (by decide))
        refine v_lk_howManyAlone_13 _ _ (C.1.of T2.1) ⟨fun q => absurd q (by rw [lst.1]; exact nnle ha (by omega)), fun _ => ⟨a, lst.get ha, ?_⟩⟩
        refine sp_alone (d := d) C ha T2 (fun en h3 T3 r3 => ⟨_, rfl, C.1.of T3.1, fun _ => ?_, fun q => absurd rfl q⟩) (fun v ev h3 T3 r3 => ⟨_, rfl, C.1.of T3.1, fun q => absurd q (by decide), fun _ => ?_⟩)
        · have := ih h3 T3
          rw [cnt_s, en] at this
          rw [nI_1, Int32.add_zero]
          exact this
        · have := ih h3 T3
          rw [cnt_s, ev] at this
          rw [nI_1, nI_1]
          exact this
    exact w 0 (Nat.zero_le _) h (cX.of F sameA.rf)
end CORE
