/-! the class's going of the walk -/
section CORE
variable {h h' hm : mH} {nT nJ nK nV nT' nJ' nK' : Nat} {vs : Nat → Nat}
theorem sameA.rkLE (R : sameA h h') (fl : Nat → Int32) (n : Nat) : rkL h' fl n = rkL h fl n := by
  have e2 : jA h' = jA h := by funext j; unfold jA; rw [hP_of R.1]
  unfold rkL
  refine bld_congr n fun X j _ => ?_
  unfold lsF
  rw [e2]
  dsimp only
  rw [R.2 7 j 4 rfl, R.2 7 j 5 rfl]
/-- what reckon left is of these jets -/
def RkV (h h' : mH) (nT nJ : Nat) (js : Int32) : Prop := (∀ j, j < nJ → hI h' 7 j 11 = rkL h (rkS h nJ js 0).1 nJ j) ∧ ∀ t, t < nT → hI h' 6 t 8 = (rkS h nJ js 0).2 t
theorem RkV.rk (R : sameA h h') (js : Int32) : RkV h (rkH h' nT nJ js 0) nT nJ js := by
  refine ⟨fun j hj => ?_, fun t ht => ?_⟩
  · rw [rkH_11 hj, R.rkE, R.rkLE]
  · rw [rkH_8 ht, R.rkE]
theorem RkV.of {js : Int32} (V : RkV h h' nT nJ js) {h2 : mH} (a : ∀ j, hI h2 7 j 11 = hI h' 7 j 11) (b : ∀ t, hI h2 6 t 8 = hI h' 6 t 8) : RkV h h2 nT nJ js := ⟨fun j hj => (a j).trans (V.1 j hj), fun t ht => (b t).trans (V.2 t ht)⟩
theorem RkV.rs (C : mCore h nT nJ nK nV vs) (R : sameA h h') {js : Int32} (V : RkV h h' nT nJ js) {k : Nat} (hk : k < nK) (W : Nat → Nat) : cRs h' js k (nI (W (nF h (nP h k)))) = rsW h nT nJ js k W := by
  obtain ⟨p1, p2, p3, p4⟩ := C.nP_lt hk
  obtain ⟨f1, f2, f3, f4⟩ := C.nF_lt p1
  have eR := sameA.rk h nT nJ js 0
  have a1 : jP h' k = nP h k := by unfold jP; rw [hP_of R.1]; exact p2
  have a2 : jP (rkH h nT nJ js 0) k = nP h k := by unfold jP; rw [hP_of eR.1]; exact p2
  have b1 : jF h' (nP h k) = nF h (nP h k) := by unfold jF; rw [hP_of R.1]; exact f2
  have b2 : jF (rkH h nT nJ js 0) (nP h k) = nF h (nP h k) := by unfold jF; rw [hP_of eR.1]; exact f2
  unfold rsW cRs
  rw [a1, a2]
  unfold cHd
  rw [b1, b2, R.2 8 k 1 rfl, eR.2 8 k 1 rfl, R.2 7 _ 8 rfl, eR.2 7 _ 8 rfl, R.2 6 _ 1 rfl, eR.2 6 _ 1 rfl, R.2 6 _ 2 rfl, eR.2 6 _ 2 rfl, R.2 7 _ 3 rfl, eR.2 7 _ 3 rfl, V.1 _ p1, rkH_11 p1]
/-- the class on the walk -/
def cW (h h' : mH) (nT : Nat) (s : WS) : Prop := sameA h h' ∧ (∀ t, t < nT → hI h' 6 t 9 = nI (s.1 t)) ∧ hI h' 3 0 5 = s.2.1 ∧ hI h' 3 0 6 = s.2.2.1 ∧ hI h' 3 0 7 = s.2.2.2 ∧ hI h' 3 0 2 = -9 ∧ hI h' 3 0 3 = -9 ∧ hI h' 3 0 4 = -9
/-- what stays in a walk of the class -/
def cK (h' h2 : mH) : Prop := (∀ j, hI h2 7 j 11 = hI h' 7 j 11) ∧ ∀ t, hI h2 6 t 8 = hI h' 6 t 8
theorem sp_passC {g : mG} {d : Nat} {js : Int32} {s : WS} {Q : Option mV → mH → Prop} (C : mCore h nT nJ nK nV vs) (S : cW h h' nT s) (V : RkV h h' nT nJ js) (bw : ∀ t, t < nT → s.1 t ≤ cp h t) (K : ∀ h2, cW h h2 nT (psW h nT nJ js s) → cK h' h2 → Q none h2) : mT g me_sr_passMinute (d + 4) 0 0 0 [some (vr 3 0), none, none, none] [] h' Q := by
  have bT := C.2.1.1
  refine v_sr_passMinute_0 (C.1.of S.1.1) ?_
  have w : ∀ i, i ≤ nT → ∀ h2 o2 o3, sameA h h2 → (∀ t, t < nT → hI h2 6 t 9 = nI (if t < i then psN h nJ js s.1 t else s.1 t)) → hI h2 3 0 5 = usT h nJ js s.1 s.2.1 i → hI h2 3 0 6 = lowT (psN h nJ js s.1) s.2.2.1 i → hI h2 3 0 7 = s.2.2.2 → hI h2 3 0 2 = -9 → hI h2 3 0 3 = -9 → hI h2 3 0 4 = -9 → cK h' h2 → mT g me_sr_passMinute (d + 4) 0 0 2 [some (vr 3 0), some (vi (nI i)), o2, o3] [] h2 Q := by
    refine upTo ?_ fun i hi ih => ?_
    · intro h2 o2 o3 R a b c e f1 f2 f3 ck
      have lst : mCl h2 0 6 nT id := C.2.2.1.1.of R.1 (R.2 2 0 1 rfl)
      refine v_sr_passMinute_2 _ _ _ (C.1.of R.1) ⟨fun _ => K h2 ⟨R, fun t ht => ?_, b, c, e, f1, f2, f3⟩ ck, fun q => absurd (by rw [lst.1]; exact Int32.le_refl _) q⟩
      rw [a t ht, if_pos ht]
      rfl
    · intro h2 o2 o3 R a b c e f1 f2 f3 ck
      have lst : mCl h2 0 6 nT id := C.2.2.1.1.of R.1 (R.2 2 0 1 rfl)
      refine v_sr_passMinute_2 _ _ _ (C.1.of R.1) ⟨fun q => absurd q (by rw [lst.1]; exact nnle hi (by omega)), fun _ => ⟨i, lst.get hi, ?_⟩⟩
      obtain ⟨a1, a2, a3, a4, a5, a6, a7, a8, a9⟩ := C.num hi
      obtain ⟨o1, o2'⟩ := C.outJ js hi
      have hw := bw i hi
      have v9 : hI h2 6 i 9 = nI (s.1 i) := by rw [a i hi, if_neg (by omega)]
      have v8 : hI h2 6 i 8 = nI (fo h nJ js i) := by rw [ck.2 i, V.2 i hi, o1]
      have ec : hI h2 6 i 2 * hI h2 6 i 3 = nI (cp h i) := by rw [R.2 6 i 2 rfl, R.2 6 i 3 rfl]; exact a2
      rw [ec, R.2 6 i 4 rfl, a5, v9, v8, nI_add, nI_1, if_mn (by omega) (by omega)]
      have hf : min (s.1 i + sg h i) (cp h i) = fil (cp h i) (sg h i) (s.1 i) := rfl
      have hb : fil (cp h i) (sg h i) (s.1 i) ≤ cp h i := by unfold fil; omega
      have hp : fil (cp h i) (sg h i) (s.1 i) - fo h nJ js i = psN h nJ js s.1 i := rfl
      have hm2 : fil (cp h i) (sg h i) (s.1 i) - psN h nJ js s.1 i = min (fil (cp h i) (sg h i) (s.1 i)) (fo h nJ js i) := by rw [← hp]; omega
      rw [hf, if_s2 (by omega) (by omega), hp, pk_sub (by rw [← hp]; omega), hm2, b, c]
      refine ih _ _ _ ⟨R.1, fun k n f r => (hI_no (fun y => ?_)).trans ((hI_no (fun y => ?_)).trans ((hI_no (fun y => ?_)).trans (R.2 k n f r)))⟩ (fun t ht => ?_) ?_ ?_ ?_ ?_ ?_ ?_ ⟨fun j => ?_, fun t => ?_⟩
      · rw [y.1, y.2.2] at r; exact absurd (show false = true from r) (by decide)
      · rw [y.1, y.2.2] at r; exact absurd (show false = true from r) (by decide)
      · rw [y.1, y.2.2] at r; exact absurd (show false = true from r) (by decide)
      · show hI (setI h2 6 i 9 _) 6 t 9 = _
        rw [hI_n2]
        by_cases q : t = i
        · subst q
          rw [if_pos rfl, if_pos (by omega)]
        · rw [if_neg q, a t ht]
          have ec : (t < i + 1) = (t < i) := propext ⟨fun y => by omega, fun y => by omega⟩
          simp only [ec]
      · exact (hI_nf (by decide)).trans hI_eq
      · exact hI_eq
      · exact (hI_nf (by decide)).trans ((hI_nf (by decide)).trans e)
      · exact (hI_nf (by decide)).trans ((hI_nf (by decide)).trans f1)
      · exact (hI_nf (by decide)).trans ((hI_nf (by decide)).trans f2)
      · exact (hI_nf (by decide)).trans ((hI_nf (by decide)).trans f3)
      · exact ck.1 j
      · show hI (setI h2 6 i 9 _) 6 t 8 = _
        rw [hI_nf (by decide)]
        exact ck.2 t
  exact w 0 (Nat.zero_le _) h' none none S.1 (fun t ht => by rw [if_neg (by omega)]; exact S.2.1 t ht) S.2.2.1 S.2.2.2.1 S.2.2.2.2.1 S.2.2.2.2.2.1 S.2.2.2.2.2.2.1 S.2.2.2.2.2.2.2 ⟨fun _ => rfl, fun _ => rfl⟩
theorem sp_lookC {g : mG} {d v : Nat} {js may : Int32} {s : WS} {Q : Option mV → mH → Prop} (C : mCore h nT nJ nK nV vs) (S : cW h h' nT s) (V : RkV h h' nT nJ js) (hv : v < nV) (hjs : js = hI h 11 24 v)
    (K : ∀ h2 l r, lkR h nT nJ js (hI h 11 27 v) (decide (¬ may = 0)) s.1 nK 0 s.2.2.2 = (l, r) → (r = none ∨ ∃ k, k < nK ∧ r = some k) → cW h h2 nT (s.1, s.2.1, s.2.2.1, l) → cK h' h2 → Q (some (vp (r.map fun k => (8, k)))) h2) : mT g me_sr_lookAtRises (d + 4) 0 0 0 [some (vr 3 0), some (vr 9 (vs v)), some (vi may), none, none, none] [] h' Q := by
  have bK := C.2.1.2.2.1
  have vw := C.vw hv
  refine v_sr_lookAtRises_0 _ _ (C.1.of S.1.1) ?_
  have w : ∀ i, i ≤ nK → ∀ h2 l o4 o5, lkR h nT nJ js (hI h 11 27 v) (decide (¬ may = 0)) s.1 (nK - i) i l = lkR h nT nJ js (hI h 11 27 v) (decide (¬ may = 0)) s.1 nK 0 s.2.2.2 → cW h h2 nT (s.1, s.2.1, s.2.2.1, l) → cK h' h2 → mT g me_sr_lookAtRises (d + 4) 0 0 2 [some (vr 3 0), some (vr 9 (vs v)), some (vi may), some (vi (nI i)), o4, o5] [] h2 Q := by
    refine upTo ?_ fun i hi ih => ?_
    · intro h2 l o4 o5 e S2 ck
      have lst : mCl h2 2 8 nK id := C.2.2.1.2.2.1.of S2.1.1 (S2.1.2 2 2 1 rfl)
      refine v_sr_lookAtRises_2 _ _ _ _ _ (C.1.of S2.1.1) ⟨fun _ => ?_, fun q => absurd (by rw [lst.1]; exact Int32.le_refl _) q⟩
      rw [Nat.sub_self] at e
      exact K h2 l none e.symm (Or.inl rfl) S2 ck
    · intro h2 l o4 o5 e S2 ck
      have lst : mCl h2 2 8 nK id := C.2.2.1.2.2.1.of S2.1.1 (S2.1.2 2 2 1 rfl)
      have R2 := S2.1
      have C2 := C.of R2.R
      obtain ⟨p1, p2, p3, p4⟩ := C.nP_lt hi
      obtain ⟨f1, f2, f3, f4⟩ := C.nF_lt p1
      have q4 : hP h2 8 i 2 = some (7, nP h i) := by rw [hP_of R2.1]; exact p4
      have g4 : hP h2 7 (nP h i) 1 = some (6, nF h (nP h i)) := by rw [hP_of R2.1]; exact f4
      have ejs : hI h2 9 (vs v) 0 = js := by rw [R2.2 9 (vs v) 0 rfl, hjs]; exact vw.1
      have ebit : hI h2 8 i 1 = mBit i := (R2.2 8 i 1 rfl).trans (C.bit hi)
      have ew : hI h2 6 (nF h (nP h i)) 9 = nI (s.1 (nF h (nP h i))) := S2.2.1 _ f1
      have V2 : RkV h h2 nT nJ js := V.of ck.1 ck.2
      have ers : cRs h2 js i (nI (s.1 (nF h (nP h i)))) = rsW h nT nJ js i s.1 := V2.rs C R2 hi s.1
      have evr : hI h2 9 (vs v) 3 = hI h 11 27 v := (R2.2 9 (vs v) 3 rfl).trans vw.2.2.2.1.e
      have el7 : hI h2 3 0 7 = l := S2.2.2.2.2.1
      have en : nK - i = (nK - (i + 1)) + 1 := by omega
      rw [en] at e
      have eu : lkR h nT nJ js (hI h 11 27 v) (decide (¬ may = 0)) s.1 ((nK - (i + 1)) + 1) i l = if tB js i = true then
          (if decide (¬ may = 0) = true ∧ rsW h nT nJ js i s.1 < hI h 11 27 v then (if rsW h nT nJ js i s.1 < l then rsW h nT nJ js i s.1 else l, some i)
           else lkR h nT nJ js (hI h 11 27 v) (decide (¬ may = 0)) s.1 (nK - (i + 1)) (i + 1) (if rsW h nT nJ js i s.1 < l then rsW h nT nJ js i s.1 else l))
        else lkR h nT nJ js (hI h 11 27 v) (decide (¬ may = 0)) s.1 (nK - (i + 1)) (i + 1) l := rfl
      rw [eu] at e
      refine v_sr_lookAtRises_2 _ _ _ _ _ C2.1 ⟨fun q => absurd q (by rw [lst.1]; exact nnle hi (by omega)), fun _ => ⟨i, lst.get hi, ?_⟩⟩
      rw [ejs, ebit, nI_1]
      refine ⟨fun q => ?_, fun q => ⟨nP h i, q4, nF h (nP h i), g4, ?_⟩⟩
      · rw [tB_bit _ (by omega)] at q
        rw [if_neg (by rw [q]; decide)] at e
        exact ih h2 l _ _ e S2 ck
      · rw [tB_nbit _ (by omega)] at q
        rw [if_pos q] at e
        rw [ew]
        refine sp_rise (d := d) C2 hi ⟨_, rfl, C2.1, ?_⟩
        rw [ers, el7]
        have S3 : cW h (setI h2 3 0 7 (if rsW h nT nJ js i s.1 < l then rsW h nT nJ js i s.1 else l)) nT (s.1, s.2.1, s.2.2.1, if rsW h nT nJ js i s.1 < l then rsW h nT nJ js i s.1 else l) :=
          ⟨R2.sI rfl, fun t ht => S2.2.1 t ht, (hI_nf (by decide)).trans S2.2.2.1, (hI_nf (by decide)).trans S2.2.2.2.1, hI_eq, (hI_nf (by decide)).trans S2.2.2.2.2.2.1, (hI_nf (by decide)).trans S2.2.2.2.2.2.2.1, (hI_nf (by decide)).trans S2.2.2.2.2.2.2.2⟩
        have ck3 : cK h' (setI h2 3 0 7 (if rsW h nT nJ js i s.1 < l then rsW h nT nJ js i s.1 else l)) := ⟨fun j => ck.1 j, fun t => ck.2 t⟩
        refine ⟨fun q2 => ?_, fun q2 => ?_⟩
        · rw [if_neg (fun z => (of_decide_eq_true z.1) q2)] at e
          exact ih _ _ _ _ e S3 ck3
        · rw [evr]
          refine ⟨fun q3 => ?_, fun q3 => ?_⟩
          · rw [if_neg (fun z => Int32.not_lt.mpr q3 z.2)] at e
            exact ih _ _ _ _ e S3 ck3
          · rw [if_pos ⟨decide_eq_true q2, Int32.not_le.mp q3⟩] at e
            exact K _ _ (some i) e.symm (Or.inr ⟨i, hi, rfl⟩) S3 ck3
  exact w 0 (Nat.zero_le _) h' s.2.2.2 none none rfl S ⟨fun _ => rfl, fun _ => rfl⟩
end CORE
