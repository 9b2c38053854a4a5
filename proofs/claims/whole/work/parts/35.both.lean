/-! a call of both: the frame; refusals; places of the lists -/
def kpS (h h' : mH) : Prop := hL h' 14 0 = hL h 14 0 ∧ ∀ f, hI h' 14 0 f = hI h 14 0 f
theorem kpS.tr {a b c : mH} (x : kpS a b) (y : kpS b c) : kpS a c := ⟨y.1.trans x.1, fun f => (y.2 f).trans (x.2 f)⟩
theorem sameA.kp {h h' : mH} (x : sameA h h') : kpS h h' := ⟨by unfold hL; rw [x.1], fun f => x.2 14 0 f rfl⟩
def mB (g : mG) (f1 f2 : mMe) (d mc ms : Nat) (L1 L2 : List (Option mV)) (h : mH) : Prop :=
  mT g f1 d mc ms 0 L1 [] h (fun v h1 => ∃ y, v = some (vi y) ∧ mSK h1 ∧ kpS h h1 ∧ mT g f2 d 0 0 0 L2 [] h1 (fun v h2 => ∃ z, v = some (vi z) ∧ mSK h2 ∧ y = z ∧ mInv h2 ∧ kpS h h2))
theorem mB.mk {g : mG} {f1 f2 : mMe} {d mc ms : Nat} {L1 L2 : List (Option mV)} {h : mH} (y : Int32) (hC hM : mH) (h1 : ∀ Q : Option mV → mH → Prop, Q (some (vi y)) hC → mT g f1 d mc ms 0 L1 [] h Q) (hs : mSK hC) (k1 : kpS h hC)
    (h2 : ∀ Q : Option mV → mH → Prop, Q (some (vi y)) hM → mT g f2 d 0 0 0 L2 [] hC Q) {nT nJ nK nV : Nat} {vs : Nat → Nat} (I : mI hM nT nJ nK nV vs) (k2 : kpS hC hM) : mB g f1 f2 d mc ms L1 L2 h :=
  h1 _ ⟨y, rfl, hs, k1, h2 _ ⟨y, rfl, I.1.1, rfl, ⟨nT, nJ, nK, nV, vs, I⟩, k1.tr k2⟩⟩
def rfK (c : Int32) : Prop := c = -1 ∨ c = -2 ∨ c = -3 ∨ c = -4 ∨ c = -6
def rfC (h : mH) (c : Int32) : mH := setI h 11 5 (-c).toNatClampNeg (hI h 11 5 (-c).toNatClampNeg + 1)
def rfM (h : mH) (c : Int32) : mH := setI h 11 6 (-c).toNatClampNeg (hI h 11 6 (-c).toNatClampNeg + 1)
theorem sp_refC {g : mG} {d : Nat} {c : Int32} {h : mH} {Q : Int32 → mH → Prop} (hsk : mSK h) (hc : rfK c) (K : Q c (rfC h c)) : mT g me_fn_refuse (d + 1) 0 0 0 [some (vr 0 0), some (vi c), none] [] h (fun v h4 => ∃ y5, v = some (vi y5) ∧ mSK h4 ∧ Q y5 h4) := by
  have e1 : ¬ -c < 0 := by rcases hc with rfl | rfl | rfl | rfl | rfl <;> decide
  have e2 : ¬ (7 : Int32) ≤ -c := by rcases hc with rfl | rfl | rfl | rfl | rfl <;> decide
  have e3 : vp_in (-c) 7 := vp_in_iff.mpr (by rcases hc with rfl | rfl | rfl | rfl | rfl <;> decide)
  exact v_fn_refuse_0 c hsk ⟨fun q => absurd q e1, fun _ => ⟨fun q => absurd q e2, fun _ => ⟨e3, e3, c, rfl, hsk.of rfl, K⟩⟩⟩
theorem sp_refM {g : mG} {d : Nat} {c : Int32} {h : mH} {Q : Int32 → mH → Prop} (hsk : mSK h) (hc : rfK c) (K : Q c (rfM h c)) : mT g me_fm_refuse (d + 1) 0 0 0 [some (vr 10 0), some (vi c)] [] h (fun v h4 => ∃ y5, v = some (vi y5) ∧ mSK h4 ∧ Q y5 h4) := by
  have e3 : vp_in (-c) 7 := vp_in_iff.mpr (by rcases hc with rfl | rfl | rfl | rfl | rfl <;> decide)
  exact v_fm_refuse_0 c hsk ⟨e3, e3, c, rfl, hsk.of rfl, K⟩
theorem rf1 : rfK (-1) := Or.inl rfl
theorem rf2 : rfK (-2) := Or.inr (Or.inl rfl)
theorem rf3 : rfK (-3) := Or.inr (Or.inr (Or.inl rfl))
theorem rf4 : rfK (-4) := Or.inr (Or.inr (Or.inr (Or.inl rfl)))
theorem rf6 : rfK (-6) := Or.inr (Or.inr (Or.inr (Or.inr rfl)))
theorem hI_setI2 {h : mH} {k n f : Nat} {v : Int32} {f' : Nat} : hI (setI h k n f v) k n f' = if f' = f then v else hI h k n f' := by
  show (if k = k ∧ n = n ∧ f' = f then v else hI h k n f') = _
  by_cases q : f' = f
  · rw [if_pos ⟨rfl, rfl, q⟩, if_pos q]
  · rw [if_neg (fun z => q z.2.2), if_neg q]
section CORE
variable {h hm : mH} {nT nJ nK nV : Nat} {vs : Nat → Nat}
theorem mCore.rf (C : mCore h nT nJ nK nV vs) {c : Int32} (hc : rfK c) : mCore (rfM (rfC h c) c) nT nJ nK nV vs := by
  obtain ⟨c1, c2, c3, c4, c5, ct, cj, ck, cv, ⟨s1, s2, s3, s4⟩, pl⟩ := C
  refine ⟨c1, c2, c3, c4, c5, ct, cj, ck, cv, ⟨s1, s2, s3, fun i hi => ?_⟩, pl⟩
  have lt : (-c).toNatClampNeg < 7 := by rcases hc with rfl | rfl | rfl | rfl | rfl <;> decide
  unfold rfM rfC
  generalize (-c).toNatClampNeg = m at lt
  rw [hI_nn (by decide), hI_setI2, hI_setI2, hI_nn (by decide), hI_nn (by decide)]
  by_cases q : i = m
  · rw [if_pos q, if_pos q, s4 _ lt]
  · rw [if_neg q, if_neg q, s4 i hi]
theorem mI.rf (I : mI h nT nJ nK nV vs) {c : Int32} (hc : rfK c) : mI (rfM (rfC h c) c) nT nJ nK nV vs :=
  mI.to I (mCore.rf I.1 hc) ((sameB.rf.sI rfl).sI rfl)
theorem mB.ref {g : mG} {f1 f2 : mMe} {d mc ms : Nat} {L1 L2 : List (Option mV)} (I : mI h nT nJ nK nV vs) {c : Int32} (hc : rfK c) (y : Int32) (h1 : ∀ Q : Option mV → mH → Prop, Q (some (vi y)) (rfC h c) → mT g f1 d mc ms 0 L1 [] h Q)
    (h2 : ∀ Q : Option mV → mH → Prop, mSK (rfC h c) → Q (some (vi y)) (rfM (rfC h c) c) → mT g f2 d 0 0 0 L2 [] (rfC h c) Q) : mB g f1 f2 d mc ms L1 L2 h :=
  have s : mSK (rfC h c) := I.1.1.of rfl
  mB.mk y _ _ h1 s ⟨rfl, fun _ => rfl⟩ (fun Q K => h2 Q s K) (mI.rf I hc) ⟨rfl, fun _ => rfl⟩
/-- an index: below 0, too great, or a place -/
theorem ix_or (x : Int32) {n : Nat} (hn : n ≤ 1000) : x < 0 ∨ (¬ x < 0 ∧ nI n ≤ x) ∨ ∃ j, j < n ∧ x = nI j := by
  rcases i_or x with q | ⟨m, m1, m2⟩
  · exact Or.inl q
  · subst m2
    refine Or.inr ?_
    by_cases z : m < n
    · exact Or.inr ⟨m, z, rfl⟩
    · exact Or.inl ⟨nI_pos m1, nI_le (by omega) m1⟩
/-- the same, for both the lists -/
def ixNo (x : Int32) (n : Nat) : Prop := x < 0 ∨ (¬ x < 0 ∧ nI n ≤ x)
theorem ix_cases (x : Int32) {n : Nat} (hn : n ≤ 1000) : ixNo x n ∨ ∃ j, j < n ∧ x = nI j := by
  rcases ix_or x hn with q | q | q
  · exact Or.inl (Or.inl q)
  · exact Or.inl (Or.inr q)
  · exact Or.inr q
theorem sp_jointNo {g : mG} {d : Nat} {x : Int32} {Q : Option mV → mH → Prop} (C : mCore h nT nJ nK nV vs) (hx : ixNo x nJ) (K : Q (some vn) h) : mT g me_ga_jointAt (d + 4) 0 0 0 [some (vr 1 0), some (vi x)] [] h Q := by
  rcases hx with q | ⟨q1, q2⟩
  · exact v_ga_jointAt_0 x C.1 ⟨fun _ => K, fun z => absurd q z⟩
  · exact v_ga_jointAt_0 x C.1 ⟨fun z => absurd z q1, fun _ => ⟨fun _ => K, fun z => absurd (by rw [C.2.2.1.2.1.1]; exact q2) z⟩⟩
theorem sp_joint {g : mG} {d j : Nat} {Q : Option mV → mH → Prop} (C : mCore h nT nJ nK nV vs) (hj : j < nJ) (K : Q (some (vr 7 j)) h) : mT g me_ga_jointAt (d + 4) 0 0 0 [some (vr 1 0), some (vi (nI j))] [] h Q := by
  have bJ := C.2.1.2.1
  exact v_ga_jointAt_0 _ C.1 ⟨fun z => absurd z (nnneg (by omega)), fun _ => ⟨fun z => absurd z (by rw [C.2.2.1.2.1.1]; exact nnle hj (by omega)), fun _ => ⟨j, C.2.2.1.2.1.get hj, K⟩⟩⟩
theorem sp_tankNo {g : mG} {d : Nat} {x : Int32} {Q : Option mV → mH → Prop} (C : mCore h nT nJ nK nV vs) (hx : ixNo x nT) (K : Q (some vn) h) : mT g me_ga_tankAt (d + 4) 0 0 0 [some (vr 1 0), some (vi x)] [] h Q := by
  rcases hx with q | ⟨q1, q2⟩
  · exact v_ga_tankAt_0 x C.1 ⟨fun _ => K, fun z => absurd q z⟩
  · exact v_ga_tankAt_0 x C.1 ⟨fun z => absurd z q1, fun _ => ⟨fun _ => K, fun z => absurd (by rw [C.2.2.1.1.1]; exact q2) z⟩⟩
theorem sp_tank {g : mG} {d j : Nat} {Q : Option mV → mH → Prop} (C : mCore h nT nJ nK nV vs) (hj : j < nT) (K : Q (some (vr 6 j)) h) : mT g me_ga_tankAt (d + 4) 0 0 0 [some (vr 1 0), some (vi (nI j))] [] h Q := by
  have bT := C.2.1.1
  exact v_ga_tankAt_0 _ C.1 ⟨fun z => absurd z (nnneg (by omega)), fun _ => ⟨fun z => absurd z (by rw [C.2.2.1.1.1]; exact nnle hj (by omega)), fun _ => ⟨j, C.2.2.1.1.get hj, K⟩⟩⟩
theorem sp_jetNo {g : mG} {d : Nat} {x : Int32} {Q : Option mV → mH → Prop} (C : mCore h nT nJ nK nV vs) (hx : ixNo x nK) (K : Q (some vn) h) : mT g me_ga_jetAt (d + 4) 0 0 0 [some (vr 1 0), some (vi x)] [] h Q := by
  rcases hx with q | ⟨q1, q2⟩
  · exact v_ga_jetAt_0 x C.1 ⟨fun _ => K, fun z => absurd q z⟩
  · exact v_ga_jetAt_0 x C.1 ⟨fun z => absurd z q1, fun _ => ⟨fun _ => K, fun z => absurd (by rw [C.2.2.1.2.2.1.1]; exact q2) z⟩⟩
theorem sp_jet {g : mG} {d j : Nat} {Q : Option mV → mH → Prop} (C : mCore h nT nJ nK nV vs) (hj : j < nK) (K : Q (some (vr 8 j)) h) : mT g me_ga_jetAt (d + 4) 0 0 0 [some (vr 1 0), some (vi (nI j))] [] h Q := by
  have bK := C.2.1.2.2.1
  exact v_ga_jetAt_0 _ C.1 ⟨fun z => absurd z (nnneg (by omega)), fun _ => ⟨fun z => absurd z (by rw [C.2.2.1.2.2.1.1]; exact nnle hj (by omega)), fun _ => ⟨j, C.2.2.1.2.2.1.get hj, K⟩⟩⟩
/-- reckonAsItIs of the class -/
def asC (h : mH) (nT nJ : Nat) : mH := rkH h nT nJ (hI h 1 0 3) 0
theorem sp_asC {g : mG} {d : Nat} {Q : Option mV → mH → Prop} (C : mCore h nT nJ nK nV vs) (K : Q none (asC h nT nJ)) : mT g me_ga_reckonAsItIs (d + 6) 0 0 0 [some (vr 1 0)] [] h Q :=
  v_ga_reckonAsItIs_0 C.1 (sp_reckonC C ⟨rfl, C.1.of (sameR.rk _ _ _ _ _).1, K⟩)
theorem mB.q {g : mG} {f1 f2 : mMe} {d mc ms : Nat} {L1 L2 : List (Option mV)} (I : mI h nT nJ nK nV vs) (y : Int32) {hC hM : mH} (R1 : sameA h hC) (R2 : sameA hC hM) (h1 : ∀ Q : Option mV → mH → Prop, Q (some (vi y)) hC → mT g f1 d mc ms 0 L1 [] h Q)
    (h2 : ∀ Q : Option mV → mH → Prop, mCore hC nT nJ nK nV vs → Q (some (vi y)) hM → mT g f2 d 0 0 0 L2 [] hC Q) : mB g f1 f2 d mc ms L1 L2 h :=
  mB.mk y hC hM h1 (mI.of I R1).1.1 R1.kp (fun Q K => h2 Q (mI.of I R1).1 K) (mI.of (mI.of I R1) R2) R2.kp
end CORE
