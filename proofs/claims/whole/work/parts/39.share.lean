/-! share -/
section CORE
variable {h hm : mH} {nT nJ nK nV : Nat} {vs : Nat → Nat}
theorem mCore.play (C : mCore h nT nJ nK nV vs) {k : Nat} (hk : k < nK) : hI h 1 0 3 &&& hI h 8 k 1 = 0 ↔ hI h 12 1 k = 0 := by
  rw [C.bit hk]
  exact C.2.2.2.2.2.2.2.2.2.2.1 k hk
theorem sp_reckonC2 {g : mG} {d : Nat} {js tr : Int32} {Q : Option mV → mH → Prop} (C : mCore h nT nJ nK nV vs) (K : Q none (rkH h nT nJ js tr)) : mT g me_ga_reckon (d + 5) 0 0 0 [some (vr 1 0), some (vi js), some (vi tr), none, none] [] h Q := sp_reckonC C K
theorem op_share {g : mG} {d : Nat} (I : mI h nT nJ nK nV vs) (x x2 : Int32) : mB g me_fn_share me_fm_share (d + 9) 0 0 [some (vr 0 0), some (vi x), some (vi x2), none, none, none, none, none] [some (vr 10 0), some (vi x), some (vi x2), none] h := by
  have C := I.1
  have bK := C.2.1.2.2.1
  rcases ix_cases x (n := nK) (by omega) with hx | ⟨k, hk, rfl⟩
  · refine mB.ref I rf1 (-1) (fun Q K => v_fn_share_0 (d := d + 2) x x2 C.1 (sp_jetNo C hx ⟨none, rfl, C.1, ?_⟩)) (fun Q s K => ?_)
    · have key : mT g me_fn_refuse (d + 2 + 6) 0 0 0 [some (vr 0 0), some (vi (-1)), none] [] h (fun v h6 => ∃ y7, v = some (vi y7) ∧ mSK h6 ∧ Q (some (vi y7)) h6) := sp_refC (Q := fun y h => Q (some (vi y)) h) C.1 rf1 K
      rcases ix_cases x2 (n := nK) (by omega) with hx2 | ⟨o, ho, rfl⟩
      · exact sp_jetNo C hx2 ⟨none, rfl, C.1, fun _ => key, ns0⟩
      · exact sp_jet C ho ⟨_, rfl, C.1, fun _ => key, ns0⟩
    · exact v_fm_share_0 (d := d + 6) x x2 s ⟨fun _ => sp_refM (Q := fun y h => Q (some (vi y)) h) s rf1 K, fun q => ⟨fun _ => sp_refM (Q := fun y h => Q (some (vi y)) h) s rf1 K, fun q2 => (hx.no C.k4 q q2).elim⟩⟩
  have n0 : ¬ nI k < 0 := nnneg (by omega)
  have ix : ∀ {a : Int32}, a = nI nK → ¬ a ≤ nI k := fun e => ix_le e hk (by omega)
  have hin : vp_in (nI k) 24 := nin (by omega) (by omega)
  have ck : (nI k).toNatClampNeg = k := nc (by omega)
  rcases ix_cases x2 (n := nK) (by omega) with hx | ⟨o, ho, rfl⟩
  · refine mB.ref I rf1 (-1) (fun Q K => v_fn_share_0 (d := d + 2) _ x2 C.1 (sp_jet C hk ⟨_, rfl, C.1, sp_jetNo C hx ⟨none, rfl, C.1, sn0, ss0 ⟨fun _ => sp_refC (Q := fun y h => Q (some (vi y)) h) C.1 rf1 K, ns0⟩⟩⟩)) (fun Q s K => ?_)
    exact v_fm_share_0 (d := d + 6) _ x2 s ⟨fun q => absurd q n0, fun _ => ⟨fun q => absurd q (ix C.k4), fun _ => ⟨fun _ => sp_refM (Q := fun y h => Q (some (vi y)) h) s rf1 K, fun q => ⟨fun _ => sp_refM (Q := fun y h => Q (some (vi y)) h) s rf1 K, fun q2 => (hx.no C.k4 q q2).elim⟩⟩⟩⟩
  have m0 : ¬ nI o < 0 := nnneg (by omega)
  have iy : ∀ {a : Int32}, a = nI nK → ¬ a ≤ nI o := fun e => ix_le e ho (by omega)
  have hio : vp_in (nI o) 24 := nin (by omega) (by omega)
  have co : (nI o).toNatClampNeg = o := nc (by omega)
  by_cases eko : k = o
  · subst eko
    refine mB.ref I rf1 (-1) (fun Q K => v_fn_share_0 (d := d + 2) _ _ C.1 (sp_jet C hk ⟨_, rfl, C.1, sp_jet C hk ⟨_, rfl, C.1, sn0, ss0 ⟨sn0, ss0 ⟨fun q => absurd rfl q, fun _ => sp_refC (Q := fun y h => Q (some (vi y)) h) C.1 rf1 K⟩⟩⟩⟩)) (fun Q s K => ?_)
    exact v_fm_share_0 (d := d + 6) _ _ s ⟨fun q => absurd q n0, fun _ => ⟨fun q => absurd q (ix C.k4), fun _ => ⟨fun q => absurd q n0, fun _ => ⟨fun q => absurd q (ix C.k4), fun _ => ⟨fun q => absurd rfl q, fun _ => sp_refM (Q := fun y h => Q (some (vi y)) h) s rf1 K⟩⟩⟩⟩⟩
  have ne1 : ¬ some ((8 : Nat), k) = some (8, o) := fun z => by cases z; exact eko rfl
  have ne2 : ¬ nI k = nI o := fun z => eko ((neq_iff (by omega) (by omega)).mp z)
  by_cases pk : hI h 12 1 k = 0
  · refine mB.ref I rf3 (-3) (fun Q K => v_fn_share_0 (d := d + 2) _ _ C.1 (sp_jet C hk ⟨_, rfl, C.1, sp_jet C ho ⟨_, rfl, C.1, sn0, ss0 ⟨sn0, ss0 ⟨fun _ => ⟨fun _ => sp_refC (Q := fun y h => Q (some (vi y)) h) C.1 rf3 K, fun q => absurd ((C.play hk).mpr pk) q⟩, fun q => absurd q ne1⟩⟩⟩⟩)) (fun Q s K => ?_)
    refine v_fm_share_0 (d := d + 6) _ _ s ⟨fun q => absurd q n0, fun _ => ⟨fun q => absurd q (ix C.k4), fun _ => ⟨fun q => absurd q m0, fun _ => ⟨fun q => absurd q (iy C.k4), fun _ => ⟨fun _ => ⟨hin, fun _ => sp_refM (Q := fun y h => Q (some (vi y)) h) s rf3 K, fun q => absurd (?_ : hI h 12 1 (nI k).toNatClampNeg = 0) q⟩, fun q => absurd q ne2⟩⟩⟩⟩⟩
    rw [ck]; exact pk
  by_cases po : hI h 12 1 o = 0
  · refine mB.ref I rf3 (-3) (fun Q K => v_fn_share_0 (d := d + 2) _ _ C.1 (sp_jet C hk ⟨_, rfl, C.1, sp_jet C ho ⟨_, rfl, C.1, sn0, ss0 ⟨sn0, ss0 ⟨fun _ => ⟨fun q => absurd ((C.play hk).mp q) pk, fun _ => ⟨fun _ => sp_refC (Q := fun y h => Q (some (vi y)) h) C.1 rf3 K, fun q => absurd ((C.play ho).mpr po) q⟩⟩, fun q => absurd q ne1⟩⟩⟩⟩)) (fun Q s K => ?_)
    refine v_fm_share_0 (d := d + 6) _ _ s ⟨fun q => absurd q n0, fun _ => ⟨fun q => absurd q (ix C.k4), fun _ => ⟨fun q => absurd q m0, fun _ => ⟨fun q => absurd q (iy C.k4), fun _ => ⟨fun _ => ⟨hin, fun q => absurd (show hI h 12 1 (nI k).toNatClampNeg = 0 from q) ?_, fun _ => ⟨hio, fun q => absurd (?_ : hI h 12 1 (nI o).toNatClampNeg = 0) q, fun _ => sp_refM (Q := fun y h => Q (some (vi y)) h) s rf3 K⟩⟩, fun q => absurd q ne2⟩⟩⟩⟩⟩
    · rw [ck]; exact pk
    · rw [co]; exact po
  -- both play
  have eR := sameA.rk h nT nJ (hI h 1 0 3) 0
  have C' : mCore (asC h nT nJ) nT nJ nK nV vs := C.of eR.R
  have e1 : hI (asC h nT nJ) 1 0 3 = hI h 1 0 3 := rfl
  have ot : ∃ ot, ot = hI h 1 0 3 &&& (hI h 8 o 1 ^^^ (-1)) := ⟨_, rfl⟩
  obtain ⟨ot, hot⟩ := ot
  have eR2 := sameA.rk (asC h nT nJ) nT nJ ot 0
  have C2 : mCore (rkH (asC h nT nJ) nT nJ ot 0) nT nJ nK nV vs := C'.of eR2.R
  obtain ⟨p1, p2, p3, p4⟩ := C'.nP_lt hk
  obtain ⟨f1, f2, f3, f4⟩ := C'.nF_lt p1
  have seA := sameA.se (rkH (asC h nT nJ) nT nJ ot 0) nT nJ nK
  have C3 := C2.of seA.R
  have s4 : sameA (seH (rkH (asC h nT nJ) nT nJ ot 0) nT nJ nK) (setI (seH (rkH (asC h nT nJ) nT nJ ot 0) nT nJ nK) 12 2 o 0) := sameA.rf.sI rfl
  have C4 := C3.of s4.R
  have s5 := sameA.rn (setI (seH (rkH (asC h nT nJ) nT nJ ot 0) nT nJ nK) 12 2 o 0) nT nJ (mFlw (setI (seH (rkH (asC h nT nJ) nT nJ ot 0) nT nJ nK) 12 2 o 0) nJ) (mLs (setI (seH (rkH (asC h nT nJ) nT nJ ot 0) nT nJ nK) 12 2 o 0) (mFlw (setI (seH (rkH (asC h nT nJ) nT nJ ot 0) nT nJ nK) 12 2 o 0) nJ).1 nJ)
  have C5 := C4.of s5.R
  have w := hI h 6 (nF h (nP h k)) 5
  -- who plays, in the second reckoning
  have A2 : mAg (asC h nT nJ) (setI (seH (rkH (asC h nT nJ) nT nJ ot 0) nT nJ nK) 12 2 o 0) nJ nK ot 0 := by
    refine ⟨fun k' hk' => ?_, fun j hj => ?_⟩
    · rw [hI_setI2]
      have h1 := C.2.2.2.2.2.2.2.2.2.2.1 k' hk'
      rw [tB_bit _ (by omega)] at h1 ⊢
      rw [show tB ot k' = (tB (hI h 1 0 3) k' && !decide (k' = o)) by rw [hot, tB_and, tB_xor, tB_m1 (by omega), C.bit ho, tB_of (by omega)]; simp]
      by_cases q : k' = o
      · subst q
        simp
      · rw [if_neg q]
        have e : hI (seH (rkH (asC h nT nJ) nT nJ ot 0) nT nJ nK) 12 2 k' = hI h 12 1 k' := asIs_on (nT := nT) (nJ := nJ) hk'
        rw [e, ← h1]
        simp [q]
    · obtain ⟨l, l1, l2, l3⟩ := C.lk hj
      have e : hI (setI (seH (rkH (asC h nT nJ) nT nJ ot 0) nT nJ nK) 12 2 o 0) 11 28 j = hI h 11 19 j := asIs_lk (nT := nT) (nK := nK) hj
      rw [e, if_pos rfl, l3]
      exact l2.symm
  have eq1 : cRs (asC h nT nJ) (hI h 1 0 3) k (hI h 6 (nF h (nP h k)) 5) = nRs (seH (rkH (asC h nT nJ) nT nJ ot 0) nT nJ nK) k := by
    have R : sameR h (rkH (asC h nT nJ) nT nJ ot 0) := eR.R.tr eR2.R
    have f1' := (C.nF_lt (C.nP_lt hk).1).1
    exact C.rsE (R.tr (sameR.as _ nT nJ nK)) (C.agS R) hk ((asIs_33 f1').trans (C.wat f1').symm)
  have eq2 : cRs (rkH (asC h nT nJ) nT nJ ot 0) ot k (hI h 6 (nF h (nP h k)) 5) = nRs (rnC (setI (seH (rkH (asC h nT nJ) nT nJ ot 0) nT nJ nK) 12 2 o 0) nT nJ) k := by
    have f1' := (C.nF_lt (C.nP_lt hk).1).1
    exact C'.rsE (eR2.R.tr (seA.R.tr s4.R)) A2 hk ((asIs_33 f1').trans (C.wat f1').symm)
  refine mB.q I (cRs (rkH (asC h nT nJ) nT nJ ot 0) ot k (hI h 6 (nF h (nP h k)) 5) - cRs (asC h nT nJ) (hI h 1 0 3) k (hI h 6 (nF h (nP h k)) 5)) (eR.tr eR2) ((seA.tr s4).tr s5) (fun Q K => ?_) (fun Q _ K => ?_)
  · refine v_fn_share_0 (d := d + 2) _ _ C.1 (sp_jet C hk ⟨_, rfl, C.1, sp_jet C ho ⟨_, rfl, C.1, sn0, ss0 ⟨sn0, ss0 ⟨fun _ => ⟨fun q => absurd ((C.play hk).mp q) pk, fun _ => ⟨fun q => absurd ((C.play ho).mp q) po, fun _ => ⟨nP h k, (C.nP_lt hk).2.2.2, nF h (nP h k), (C.nF_lt (C.nP_lt hk).1).2.2.2, ?_⟩⟩⟩, fun q => absurd q ne1⟩⟩⟩⟩)
    refine sp_asC C ⟨rfl, C'.1, sp_rise C' hk ⟨_, rfl, C'.1, ?_⟩⟩
    have e2 : hI (asC h nT nJ) 1 0 3 &&& (hI (asC h nT nJ) 8 o 1 ^^^ (-1)) = ot := hot.symm
    rw [e2]
    exact sp_reckonC (d := d + 3) C' ⟨rfl, C2.1, sp_rise C2 hk ⟨_, rfl, C2.1, K⟩⟩
  · refine v_fm_share_0 (d := d + 6) _ _ C2.1 ⟨fun q => absurd q n0, fun _ => ⟨fun q => absurd q (ix C2.k4), fun _ => ⟨fun q => absurd q m0, fun _ => ⟨fun q => absurd q (iy C2.k4), fun _ => ⟨fun _ => ⟨hin, fun q => absurd (show hI h 12 1 (nI k).toNatClampNeg = 0 from q) ?_, fun _ => ⟨hio, fun _ => ?_, fun q => absurd (show hI h 12 1 (nI o).toNatClampNeg = 0 from q) ?_⟩⟩, fun q => absurd q ne2⟩⟩⟩⟩⟩
    · rw [ck]; exact pk
    · refine sp_sees C2 ⟨rfl, C3.1, sp_riseOf C3 hk ⟨_, rfl, C3.1, hio, ?_⟩⟩
      rw [co]
      refine sp_runsC (d := d + 7) C4 (fun k' hk' => ?_) (fun j hj => ?_) ⟨rfl, C5.1, sp_riseOf C5 hk ⟨_, rfl, C5.1, ?_⟩⟩
      · rw [hI_setI2]
        by_cases q : k' = o
        · rw [if_pos q]; exact Or.inl rfl
        · rw [if_neg q]
          have e : hI (seH (rkH (asC h nT nJ) nT nJ ot 0) nT nJ nK) 12 2 k' = hI h 12 1 k' := asIs_on (nT := nT) (nJ := nJ) hk'
          rw [e]
          exact C.pl hk'
      · obtain ⟨l, l1, l2, l3⟩ := C.lk hj
        have e : hI (setI (seH (rkH (asC h nT nJ) nT nJ ot 0) nT nJ nK) 12 2 o 0) 11 28 j = hI h 11 19 j := asIs_lk (nT := nT) (nK := nK) hj
        exact ⟨l, l1, by rw [e]; exact l3⟩
      · rw [eq1, eq2] at K
        exact K
    · rw [co]; exact po
end CORE
