/-! heads and rises, of the class and of the model -/
section CORE
variable {h hm : mH} {nT nJ nK nV : Nat} {vs : Nat → Nat}
theorem sameR.rk (h : mH) (nT nJ : Nat) (js tr : Int32) : sameR h (rkH h nT nJ js tr) := by
  unfold rkH wF
  exact ((sameR.rf.fF (fun n => rfl)).fF (fun n => rfl)).fF (fun n => rfl)
theorem sameR.rn (h : mH) (nT nJ : Nat) (s : (Nat → Int32) × (Nat → Int32)) (L : Nat → Int32) : sameR h (rnH h nT nJ s L) := by
  unfold rnH m2H mW
  exact ((((sameR.rf.fI (fun n => rfl)).fI (fun n => rfl)).fI (fun n => rfl)).fI (fun n => rfl)).fI (fun n => rfl)
theorem sameR.as (h : mH) (nT nJ nK : Nat) : sameR h (asIs h nT nJ nK) := by
  unfold asIs
  exact ((sameR.rf.fI (fun n => rfl)).fI (fun n => rfl)).fI (fun n => rfl)
def jP (h : mH) (k : Nat) : Nat := ((hP h 8 k 2).map (·.2)).getD 0
def cHd (h : mH) (j : Nat) (w : Int32) : Int32 := if ¬ hI h 7 j 8 = 0 then 0 else if w = 0 then 0 else ((hI h 6 (jF h j) 1 + w / hI h 6 (jF h j) 2) - hI h 7 j 11) - hI h 7 j 3
def cRs (h : mH) (js : Int32) (k : Nat) (w : Int32) : Int32 := if js &&& hI h 8 k 1 = 0 then 0 else ((if cHd h (jP h k) w < 0 then 0 else cHd h (jP h k) w) * 9) / 10
def nP (h : mH) (k : Nat) : Nat := (hI h 11 21 k).toNatClampNeg
def nRs (h : mH) (k : Nat) : Int32 := if hI h 12 2 k = 0 then 0 else if hI h 11 31 (nP h k) ≤ 0 then 0 else (9 * hI h 11 31 (nP h k)) / 10
/-- class and model reckon for the same jets and leaks -/
def mAg (h hm : mH) (nJ nK : Nat) (js tr : Int32) : Prop := (∀ k, k < nK → (js &&& mBit k = 0 ↔ hI hm 12 2 k = 0)) ∧ ∀ j, j < nJ → hI hm 11 28 j = if tr = 0 then hI h 7 j 6 else hI h 7 j 7
theorem mCore.ownE (C : mCore h nT nJ nK nV vs) (R : sameR h hm) {js tr : Int32} (A : mAg h hm nJ nK js tr) : ∀ j, j < nJ → cOwn h js tr j = nOw hm j := by
  intro j hj
  have bK := C.2.1.2.2.1
  obtain ⟨_, _, _, _, _, _, _, _, _, hk⟩ := C.2.2.2.2.2.2.1 j hj
  unfold cOwn nOw drawO jK
  rw [A.2 j hj, Int32.add_comm, R.2 11 20 j rfl]
  rcases hk with ⟨q1, q2⟩ | ⟨k, kl, q1, q2, q3⟩
  · rw [q1, q2, if_pos (by decide : (-9 : Int32) < 0)]
    rfl
  · rw [q1, q2, if_neg (nnneg (by omega)), nc (by omega)]
    obtain ⟨_, e1, _, ⟨n, _, _, e2, e3⟩, _⟩ := C.2.2.2.2.2.2.2.1 k kl
    show _ + (if js &&& hI h 8 k 1 = 0 then 0 else hI h 8 k 3) = _
    rw [e1, e2, R.2 11 22 k rfl, e3]
    by_cases q : hI hm 12 2 k = 0
    · rw [if_pos ((A.1 k kl).mpr q), if_pos q]
    · rw [if_neg (fun z => q ((A.1 k kl).mp z)), if_neg q]
theorem mCore.flE (C : mCore h nT nJ nK nV vs) (R : sameR h hm) {js tr : Int32} (A : mAg h hm nJ nK js tr) : rkS h nJ js tr = mFlw hm nJ := C.same R (C.ownE R A)
theorem rkH_11 {js tr : Int32} {j : Nat} (hj : j < nJ) : hI (rkH h nT nJ js tr) 7 j 11 = rkL h (rkS h nJ js tr).1 nJ j := if_pos ⟨rfl, rfl, hj⟩
theorem rkH_10 {js tr : Int32} {j : Nat} (hj : j < nJ) : hI (rkH h nT nJ js tr) 7 j 10 = (rkS h nJ js tr).1 j := wF_7 hj
theorem rkH_8 {js tr : Int32} {t : Nat} (ht : t < nT) : hI (rkH h nT nJ js tr) 6 t 8 = (rkS h nJ js tr).2 t := wF_6 (nJ := nJ) ht
theorem rnH_31 {s : (Nat → Int32) × (Nat → Int32)} {L : Nat → Int32} {j : Nat} (hj : j < nJ) : hI (rnH hm nT nJ s L) 11 31 j = nHd hm L j := if_pos ⟨rfl, rfl, hj⟩
theorem rnH_30 {s : (Nat → Int32) × (Nat → Int32)} {L : Nat → Int32} {j : Nat} (hj : j < nJ) : hI (rnH hm nT nJ s L) 11 30 j = nLs hm s.1 j := if_pos ⟨rfl, rfl, hj⟩
theorem rnH_29 {s : (Nat → Int32) × (Nat → Int32)} {L : Nat → Int32} {j : Nat} (hj : j < nJ) : hI (rnH hm nT nJ s L) 11 29 j = s.1 j := mW_f hj
theorem rnH_34 {s : (Nat → Int32) × (Nat → Int32)} {L : Nat → Int32} {t : Nat} (ht : t < nT) : hI (rnH hm nT nJ s L) 11 34 t = s.2 t := mW_o (nJ := nJ) ht
/-- the heap behind runs -/
def rnC (hm : mH) (nT nJ : Nat) : mH := rnH hm nT nJ (mFlw hm nJ) (mLs hm (mFlw hm nJ).1 nJ)
theorem mCore.hdE (C : mCore h nT nJ nK nV vs) (R : sameR h hm) {js tr : Int32} (A : mAg h hm nJ nK js tr) {j : Nat} {w : Int32} (hj : j < nJ) (hw : hI hm 11 33 (nF h j) = w) : cHd (rkH h nT nJ js tr) j w = hI (rnC hm nT nJ) 11 31 j := by
  have bT := C.2.1.1
  have eF : nF hm j = nF h j := by unfold nF; rw [R.2 11 15 j rfl]
  have eR := sameR.rk h nT nJ js tr
  obtain ⟨_, ⟨t, ht, hp, hf⟩, _, ⟨n, _, _, e3, e4⟩, _, _, _, _, ⟨e8, _⟩, _⟩ := C.2.2.2.2.2.2.1 j hj
  have hFt : nF h j = t := by unfold nF; rw [hf, nc (by omega)]
  have hJt : jF (rkH h nT nJ js tr) j = t := by
    unfold jF
    rw [hP_of eR.1, hp]
    rfl
  obtain ⟨_, ⟨a1, a2, _⟩, _⟩ := C.2.2.2.2.2.1 t ht
  unfold rnC
  rw [rnH_31 hj]
  unfold cHd nHd
  rw [hJt, eF, hw, eR.2 7 j 8 rfl, eR.2 6 t 1 rfl, eR.2 6 t 2 rfl, eR.2 7 j 3 rfl, rkH_11 hj, C.flE R A, e8, a1, a2, e3, hFt, R.2 11 7 t rfl, R.2 11 8 t rfl, R.2 11 16 j rfl, e4]
  unfold nEm
  rw [R.2 12 0 j rfl]
  by_cases q : hI h 12 0 j = 0
  · have hne : ¬ nEm h j = true := fun z => (of_decide_eq_true z) q
    rw [if_neg (show ¬ ¬ hI h 12 0 j = 0 from fun z => z q), if_neg (show ¬ (decide (¬ hI h 12 0 j = 0)) = true from fun z => (of_decide_eq_true z) q), C.sameL R _ j hj hne]
  · rw [if_pos (show ¬ hI h 12 0 j = 0 from q), if_pos (decide_eq_true q)]
theorem mCore.nP_lt (C : mCore h nT nJ nK nV vs) {k : Nat} (hk : k < nK) : nP h k < nJ ∧ jP h k = nP h k ∧ hI h 11 21 k = nI (nP h k) ∧ hP h 8 k 2 = some (7, nP h k) := by
  have bJ := C.2.1.2.1
  obtain ⟨_, _, ⟨j, z1, z2, z3, _⟩, _⟩ := C.2.2.2.2.2.2.2.1 k hk
  have e : nP h k = j := by unfold nP; rw [z3, nc (by omega)]
  rw [e]
  refine ⟨z1, ?_, z3, z2⟩
  unfold jP
  rw [z2]
  rfl
theorem mCore.nF_lt (C : mCore h nT nJ nK nV vs) {j : Nat} (hj : j < nJ) : nF h j < nT ∧ jF h j = nF h j ∧ hI h 11 15 j = nI (nF h j) ∧ hP h 7 j 1 = some (6, nF h j) := by
  have bT := C.2.1.1
  obtain ⟨_, ⟨t, ht, hp, hf⟩, _⟩ := C.2.2.2.2.2.2.1 j hj
  have e : nF h j = t := by unfold nF; rw [hf, nc (by omega)]
  refine ⟨by omega, C.fd hj, by rw [e]; exact hf, by rw [e]; exact hp⟩
theorem mCore.bit (C : mCore h nT nJ nK nV vs) {k : Nat} (hk : k < nK) : hI h 8 k 1 = mBit k := (C.2.2.2.2.2.2.2.1 k hk).2.1
theorem mCore.rsE (C : mCore h nT nJ nK nV vs) (R : sameR h hm) {js tr : Int32} (A : mAg h hm nJ nK js tr) {k : Nat} {w : Int32} (hk : k < nK) (hw : hI hm 11 33 (nF h (nP h k)) = w) : cRs (rkH h nT nJ js tr) js k w = nRs (rnC hm nT nJ) k := by
  have eR := sameR.rk h nT nJ js tr
  obtain ⟨p1, p2, p3, p4⟩ := C.nP_lt hk
  have eP : jP (rkH h nT nJ js tr) k = nP h k := by unfold jP; rw [hP_of eR.1]; exact p2
  have eN : nP (rnC hm nT nJ) k = nP h k := by unfold nP; rw [show hI (rnC hm nT nJ) 11 21 k = hI hm 11 21 k from rfl, R.2 11 21 k rfl]
  unfold cRs nRs
  rw [eP, eN, eR.2 8 k 1 rfl, C.bit hk, C.hdE R A p1 hw, show hI (rnC hm nT nJ) 12 2 k = hI hm 12 2 k from rfl]
  by_cases q : hI hm 12 2 k = 0
  · rw [if_pos q, if_pos ((A.1 k hk).mpr q)]
  · rw [if_neg q, if_neg (fun z => q ((A.1 k hk).mp z))]
    by_cases q2 : hI (rnC hm nT nJ) 11 31 (nP h k) ≤ 0
    · rw [if_pos q2]
      by_cases q3 : hI (rnC hm nT nJ) 11 31 (nP h k) < 0
      · rw [if_pos q3]; decide
      · rw [if_neg q3, Int32.le_antisymm q2 (Int32.not_lt.mp q3)]; decide
    · rw [if_neg q2, if_neg (fun z => q2 (Int32.le_of_lt z)), Int32.mul_comm]
/-- a rise of the class -/
theorem sp_rise {g : mG} {d k : Nat} {js w : Int32} {Q : Option mV → mH → Prop} (C : mCore h nT nJ nK nV vs) (hk : k < nK) (K : Q (some (vi (cRs h js k w))) h) : mT g me_je_riseAmong (d + 3) 0 0 0 [some (vr 8 k), some (vi js), some (vi w)] [] h Q := by
  obtain ⟨p1, p2, p3, p4⟩ := C.nP_lt hk
  obtain ⟨f1, f2, f3, f4⟩ := C.nF_lt p1
  have har : (1 : Int32) ≤ hI h 6 (nF h (nP h k)) 2 ∧ ¬ hI h 6 (nF h (nP h k)) 2 = 0 := by
    obtain ⟨_, ⟨_, e2, _⟩, _, a, _, _, _, _, _, e3, a1, a2, _⟩ := C.2.2.2.2.2.1 _ f1
    rw [e2, e3]
    exact ⟨by rw [show (1 : Int32) = nI 1 from rfl]; exact nle a1 (by omega), nI_ne0 (by omega) (by omega)⟩
  unfold cRs at K
  rw [p2] at K
  have e1 : ¬ hI h 7 (nP h k) 8 = 0 → cHd h (nP h k) w = 0 := fun q => by unfold cHd; rw [if_pos q]
  have e2 : hI h 7 (nP h k) 8 = 0 → w = 0 → cHd h (nP h k) w = 0 := fun q q2 => by unfold cHd; rw [if_neg (not_not_intro q), if_pos q2]
  have e3 : hI h 7 (nP h k) 8 = 0 → ¬ w = 0 → cHd h (nP h k) w = ((hI h 6 (nF h (nP h k)) 1 + w / hI h 6 (nF h (nP h k)) 2) - hI h 7 (nP h k) 11) - hI h 7 (nP h k) 3 := fun q q2 => by unfold cHd; rw [if_neg (not_not_intro q), if_neg q2, f2]
  refine v_je_riseAmong_0 _ _ _ C.1 ⟨fun q => ?_, fun q => ⟨_, p4, fun q2 => ?_, fun q2 => ⟨fun q3 => ⟨_, f4, fun q4 => ⟨har.2, ?_⟩, fun q4 => absurd har.1 q4⟩, fun q3 => ?_⟩⟩⟩
  · rw [if_pos q] at K; exact K
  · rw [if_neg q, e1 q2] at K; exact K
  · rw [if_neg q, e3 q2 q3] at K; exact K
  · rw [if_neg q, e2 q2 q3] at K; exact K
/-- a rise of the model -/
theorem sp_riseOf {g : mG} {d k : Nat} {Q : Option mV → mH → Prop} (C : mCore h nT nJ nK nV vs) (hk : k < nK) (K : Q (some (vi (nRs h k))) h) : mT g me_fm_riseOf (d + 1) 0 0 0 [some (vr 10 0), some (vi (nI k))] [] h Q := by
  have bK := C.2.1.2.2.1
  have bJ := C.2.1.2.1
  obtain ⟨p1, p2, p3, p4⟩ := C.nP_lt hk
  have i1 : vp_in (nI k) 24 := nin (by omega) (by omega)
  have i2 : vp_in (hI h 11 21 k) 30 := by rw [p3]; exact nin (by omega) (by omega)
  have ck : (nI k).toNatClampNeg = k := nc (by omega)
  unfold nRs nP at K
  refine v_fm_riseOf_0 _ C.1 ?_
  rw [ck]
  refine ⟨i1, fun q => ?_, fun q => ⟨i1, i2, fun q2 => ?_, fun q2 => ⟨i1, i2, ?_⟩⟩⟩
  · rw [if_pos q] at K; exact K
  · rw [if_neg q, if_pos q2] at K; exact K
  · rw [if_neg q, if_neg q2] at K; exact K
/-- sees of the model -/
theorem mCore.lk (C : mCore h nT nJ nK nV vs) {j : Nat} (hj : j < nJ) : ∃ l : Nat, l ≤ 60 ∧ hI h 7 j 6 = nI l ∧ hI h 11 19 j = nI l := by
  obtain ⟨_, _, _, _, _, _, ⟨n, _, a, b, c⟩, _⟩ := C.2.2.2.2.2.2.1 j hj
  exact ⟨n, a, b, c⟩
theorem mCore.pl (C : mCore h nT nJ nK nV vs) {k : Nat} (hk : k < nK) : hI h 12 1 k = 0 ∨ hI h 12 1 k = 1 := (C.2.2.2.2.2.2.2.1 k hk).2.2.2.2.2
theorem asIs_33 {t : Nat} (ht : t < nT) : hI (asIs h nT nJ nK) 11 33 t = hI h 11 11 t := if_pos ⟨rfl, rfl, ht⟩
theorem asIs_on {k : Nat} (hk : k < nK) : hI (asIs h nT nJ nK) 12 2 k = hI h 12 1 k := if_pos ⟨rfl, rfl, hk⟩
theorem asIs_lk {j : Nat} (hj : j < nJ) : hI (asIs h nT nJ nK) 11 28 j = hI h 11 19 j := if_pos ⟨rfl, rfl, hj⟩
def seH (h : mH) (nT nJ nK : Nat) : mH := rnC (asIs h nT nJ nK) nT nJ
theorem sameR.se (h : mH) (nT nJ nK : Nat) : sameR h (seH h nT nJ nK) := (sameR.as h nT nJ nK).tr (sameR.rn _ _ _ _ _)
theorem sp_sees {g : mG} {d : Nat} {Q : Option mV → mH → Prop} (C : mCore h nT nJ nK nV vs) (K : Q none (seH h nT nJ nK)) : mT g me_fm_sees (d + 2) 0 0 0 [some (vr 10 0)] [] h Q := by
  have R := sameR.as h nT nJ nK
  have C' := C.of R
  refine v_fm_sees_0 C.1 ?_
  refine sp_asItIs C.1 C.2.2.2.2.1.1 C.2.2.2.2.1.2.1 C.2.2.2.2.1.2.2.1 C.2.1.1 C.2.1.2.1 C.2.1.2.2.1 (fun k hk => C.pl hk) ⟨rfl, C'.1, ?_⟩
  refine sp_runsC C' (fun k hk => by rw [asIs_on hk]; exact C.pl hk) (fun j hj => ?_) ⟨rfl, C'.1.of (sameR.rn _ _ _ _ _).1, K⟩
  obtain ⟨l, l1, _, l2⟩ := C.lk hj
  exact ⟨l, l1, by rw [asIs_lk hj]; exact l2⟩
theorem mCore.agS (C : mCore h nT nJ nK nV vs) (R : sameR h hm) : mAg h (asIs hm nT nJ nK) nJ nK (hI h 1 0 3) 0 := by
  refine ⟨fun k hk => ?_, fun j hj => ?_⟩
  · rw [asIs_on hk, R.2 12 1 k rfl]
    exact C.2.2.2.2.2.2.2.2.2.2.1 k hk
  · obtain ⟨l, l1, l2, l3⟩ := C.lk hj
    rw [asIs_lk hj, R.2 11 19 j rfl, if_pos rfl, l2, l3]
end CORE
