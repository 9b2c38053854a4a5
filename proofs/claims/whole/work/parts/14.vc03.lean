/-! printed by my own program: walks between loop heads -/
theorem v_tl_build_11 {g : mG} {d : Nat} (x1 : Int32) (x2 : Int32) (x3 : Int32) (o4 : Option mV) {h : mH} {Q : Option mV → mH → Prop} (hsk : mSK h) (hv : (((hI h 2 3 1) ≤ x3 → mT g me_tl_addChange (d + 4) 0 0 0 [some (vr 4 0), some (vi (x2 + (1 : Int32))), some (vi x1), some (vi (0 : Int32)), none, none] [] h (fun v h1 => v = none ∧ mSK h1 ∧ Q none h1)) ∧ (¬ (hI h 2 3 1) ≤ x3 → (∃ n2, mGet h 3 x3 (some (9, n2)) ∧ (((x2 + (1 : Int32)) = (hI h 9 n2 1) → mT g me_tl_addChange (d + 4) 0 0 0 [some (vr 4 0), some (vi (hI h 9 n2 1)), some (vi x1), some (vi (hI h 9 n2 0)), none, none] [] h (fun v h3 => v = none ∧ mSK h3 ∧ mT g me_tl_build (d + 5) 0 0 11 [some (vr 4 0), some (vi (hI h3 9 n2 0)), some (vi (hI h3 9 n2 2)), some (vi (x3 + 1)), some (vr 9 n2)] [] h3 Q)) ∧ (¬ (x2 + (1 : Int32)) = (hI h 9 n2 1) → mT g me_tl_addChange (d + 4) 0 0 0 [some (vr 4 0), some (vi (x2 + (1 : Int32))), some (vi x1), some (vi (0 : Int32)), none, none] [] h (fun v h4 => v = none ∧ mSK h4 ∧ mT g me_tl_addChange (d + 4) 0 0 0 [some (vr 4 0), some (vi (hI h4 9 n2 1)), some (vi (0 : Int32)), some (vi (hI h4 9 n2 0)), none, none] [] h4 (fun v h5 => v = none ∧ mSK h5 ∧ mT g me_tl_build (d + 5) 0 0 11 [some (vr 4 0), some (vi (hI h5 9 n2 0)), some (vi (hI h5 9 n2 2)), some (vi (x3 + 1)), some (vr 9 n2)] [] h5 Q)))))))) : mT g me_tl_build (d + 5) 0 0 11 [some (vr 4 0), some (vi x1), some (vi x2), some (vi x3), o4] [] h Q := by
  refine tr_iload_n (pc := 11) 3 k_tl_build_11 rfl rfl ?_
  refine tr_aload_n (pc := 12) 0 k_tl_build_12 rfl rfl ?_
  refine tr_getP (pc := 13) k_tl_build_13 fl_tl_15 rfl (Eq.trans rfl (hsk.1 4 1 _ rfl)) ?_
  refine tr_callV (pc := 16) (d' := d + 4) (mc' := 0) (ms' := 0) [] k_tl_build_16 ca_al_size ml_tl_39 ii_al_size ⟨by decide, rfl⟩ pa_al_size (by omega) (by omega) (by omega) rfl (Nat.le_of_ble_eq_true rfl) (Nat.le_of_ble_eq_true rfl) (Qk := fun v h9 => mT g me_tl_build (d + 5) 0 0 19 [some (vr 4 0), some (vi x1), some (vi x2), some (vi x3), o4] (v.toList ++ [vi x3]) h9 _) ?_ (fun _ _ z => z)
  show mT g me_al_size (d + 4) 0 0 0 [some (vr 2 3)] [] h _
  refine tr_aload_n (pc := 0) 0 k_al_size_0 rfl rfl ?_
  refine tr_getIx (pc := 1) k_al_size_1 fl_al_48 rfl rfl ?_
  refine tr_ireturn (pc := 4) k_al_size_4 rfl rfl ?_
  show mT g me_tl_build (d + 5) 0 0 19 [some (vr 4 0), some (vi x1), some (vi x2), some (vi x3), o4] [vi (hI h 2 3 1), vi x3] h _
  refine tr_icmp_ge (pc := 19) 90 k_tl_build_19 (by decide) (fun q => ?_) (fun q => ?_)
  · replace hv := hv.1 q
    refine tr_aload_n (pc := 90) 0 k_tl_build_90 rfl rfl ?_
    refine tr_iload_n (pc := 91) 2 k_tl_build_91 rfl rfl ?_
    refine tr_iconst (pc := 92) (v := 1) k_tl_build_92 (by decide) ?_
    refine tr_iadd (pc := 93) k_tl_build_93 ?_
    refine tr_iload_n (pc := 94) 1 k_tl_build_94 rfl rfl ?_
    refine tr_iconst (pc := 95) (v := 0) k_tl_build_95 (by decide) ?_
    have hT := hv
    clear hv
    refine tr_callV (pc := 96) (d' := d + 4) (mc' := 0) (ms' := 0) [vi (x2 + (1 : Int32)), vi x1, vi (0 : Int32)] k_tl_build_96 ca_tl_addChange ml_tl_53 ii_tl_addChange ⟨by decide, rfl⟩ pa_tl_addChange (by omega) (by omega) (by omega) rfl (Nat.le_of_ble_eq_true rfl) (Nat.le_of_ble_eq_true rfl) hT (fun v h9 hv => ?_)
    clear hT
    obtain ⟨rfl, hv⟩ := hv
    obtain ⟨h1, eh⟩ : ∃ z, z = h9 := ⟨_, rfl⟩
    subst eh
    obtain ⟨hskh1, hv⟩ := hv
    show mT g me_tl_build (d + 5) 0 0 99 [some (vr 4 0), some (vi x1), some (vi x2), some (vi x3), o4] [] h1 _
    refine tr_return (pc := 99) k_tl_build_99 rfl ?_
    exact hv
  · replace hv := hv.2 q
    refine tr_aload_n (pc := 22) 0 k_tl_build_22 rfl rfl ?_
    refine tr_getP (pc := 23) k_tl_build_23 fl_tl_15 rfl (Eq.trans rfl (hsk.1 4 1 _ rfl)) ?_
    refine tr_iload_n (pc := 26) 3 k_tl_build_26 rfl rfl ?_
    obtain ⟨n2, hg, hv⟩ := hv
    refine tr_alget (pc := 27) k_tl_build_27 ml_tl_44 (by omega) (Nat.le_of_ble_eq_true rfl) (mGet.up hg rfl rfl) ?_
    refine tr_cast (pc := 30) k_tl_build_30 (by decide) cl_tl_48 ?_
    refine tr_astore (pc := 33) k_tl_build_33 (by decide) rfl ?_
    show mT g me_tl_build (d + 5) 0 0 35 [some (vr 4 0), some (vi x1), some (vi x2), some (vi x3), some (vr 9 n2)] [] h _
    refine tr_iload_n (pc := 35) 2 k_tl_build_35 rfl rfl ?_
    refine tr_iconst (pc := 36) (v := 1) k_tl_build_36 (by decide) ?_
    refine tr_iadd (pc := 37) k_tl_build_37 ?_
    refine tr_aload (pc := 38) k_tl_build_38 rfl ?_
    refine tr_getIx (pc := 40) k_tl_build_40 fl_tl_50 rfl rfl ?_
    refine tr_icmp_eq (pc := 43) 57 k_tl_build_43 (by decide) (fun q => ?_) (fun q => ?_)
    · replace hv := hv.1 q
      refine tr_aload_n (pc := 57) 0 k_tl_build_57 rfl rfl ?_
      refine tr_aload (pc := 58) k_tl_build_58 rfl ?_
      refine tr_getIx (pc := 60) k_tl_build_60 fl_tl_50 rfl rfl ?_
      refine tr_iload_n (pc := 63) 1 k_tl_build_63 rfl rfl ?_
      refine tr_aload (pc := 64) k_tl_build_64 rfl ?_
      refine tr_getIx (pc := 66) k_tl_build_66 fl_tl_57 rfl rfl ?_
      have hT := hv
      clear hv
      refine tr_callV (pc := 69) (d' := d + 4) (mc' := 0) (ms' := 0) [vi (hI h 9 n2 1), vi x1, vi (hI h 9 n2 0)] k_tl_build_69 ca_tl_addChange ml_tl_53 ii_tl_addChange ⟨by decide, rfl⟩ pa_tl_addChange (by omega) (by omega) (by omega) rfl (Nat.le_of_ble_eq_true rfl) (Nat.le_of_ble_eq_true rfl) hT (fun v h9 hv => ?_)
      clear hT
      obtain ⟨rfl, hv⟩ := hv
      obtain ⟨h3, eh⟩ : ∃ z, z = h9 := ⟨_, rfl⟩
      subst eh
      obtain ⟨hskh3, hv⟩ := hv
      show mT g me_tl_build (d + 5) 0 0 72 [some (vr 4 0), some (vi x1), some (vi x2), some (vi x3), some (vr 9 n2)] [] h3 _
      refine tr_aload (pc := 72) k_tl_build_72 rfl ?_
      refine tr_getIx (pc := 74) k_tl_build_74 fl_tl_57 rfl rfl ?_
      refine tr_istore_n (pc := 77) 1 k_tl_build_77 rfl (by decide) rfl ?_
      show mT g me_tl_build (d + 5) 0 0 78 [some (vr 4 0), some (vi (hI h3 9 n2 0)), some (vi x2), some (vi x3), some (vr 9 n2)] [] h3 _
      refine tr_aload (pc := 78) k_tl_build_78 rfl ?_
      refine tr_getIx (pc := 80) k_tl_build_80 fl_tl_60 rfl rfl ?_
      refine tr_istore_n (pc := 83) 2 k_tl_build_83 rfl (by decide) rfl ?_
      show mT g me_tl_build (d + 5) 0 0 84 [some (vr 4 0), some (vi (hI h3 9 n2 0)), some (vi (hI h3 9 n2 2)), some (vi x3), some (vr 9 n2)] [] h3 _
      refine tr_iinc (pc := 84) (v := (x3 + 1)) k_tl_build_84 rfl rfl (by decide) rfl ?_
      show mT g me_tl_build (d + 5) 0 0 87 [some (vr 4 0), some (vi (hI h3 9 n2 0)), some (vi (hI h3 9 n2 2)), some (vi (x3 + 1)), some (vr 9 n2)] [] h3 _
      refine tr_goto (pc := 87) 11 k_tl_build_87 (by decide) ?_
      exact hv
    · replace hv := hv.2 q
      refine tr_aload_n (pc := 46) 0 k_tl_build_46 rfl rfl ?_
      refine tr_iload_n (pc := 47) 2 k_tl_build_47 rfl rfl ?_
      refine tr_iconst (pc := 48) (v := 1) k_tl_build_48 (by decide) ?_
      refine tr_iadd (pc := 49) k_tl_build_49 ?_
      refine tr_iload_n (pc := 50) 1 k_tl_build_50 rfl rfl ?_
      refine tr_iconst (pc := 51) (v := 0) k_tl_build_51 (by decide) ?_
      have hT := hv
      clear hv
      refine tr_callV (pc := 52) (d' := d + 4) (mc' := 0) (ms' := 0) [vi (x2 + (1 : Int32)), vi x1, vi (0 : Int32)] k_tl_build_52 ca_tl_addChange ml_tl_53 ii_tl_addChange ⟨by decide, rfl⟩ pa_tl_addChange (by omega) (by omega) (by omega) rfl (Nat.le_of_ble_eq_true rfl) (Nat.le_of_ble_eq_true rfl) hT (fun v h9 hv => ?_)
      clear hT
      obtain ⟨rfl, hv⟩ := hv
      obtain ⟨h4, eh⟩ : ∃ z, z = h9 := ⟨_, rfl⟩
      subst eh
      obtain ⟨hskh4, hv⟩ := hv
      show mT g me_tl_build (d + 5) 0 0 55 [some (vr 4 0), some (vi x1), some (vi x2), some (vi x3), some (vr 9 n2)] [] h4 _
      refine tr_iconst (pc := 55) (v := 0) k_tl_build_55 (by decide) ?_
      refine tr_istore_n (pc := 56) 1 k_tl_build_56 rfl (by decide) rfl ?_
      show mT g me_tl_build (d + 5) 0 0 57 [some (vr 4 0), some (vi (0 : Int32)), some (vi x2), some (vi x3), some (vr 9 n2)] [] h4 _
      refine tr_aload_n (pc := 57) 0 k_tl_build_57 rfl rfl ?_
      refine tr_aload (pc := 58) k_tl_build_58 rfl ?_
      refine tr_getIx (pc := 60) k_tl_build_60 fl_tl_50 rfl rfl ?_
      refine tr_iload_n (pc := 63) 1 k_tl_build_63 rfl rfl ?_
      refine tr_aload (pc := 64) k_tl_build_64 rfl ?_
      refine tr_getIx (pc := 66) k_tl_build_66 fl_tl_57 rfl rfl ?_
      have hT := hv
      clear hv
      refine tr_callV (pc := 69) (d' := d + 4) (mc' := 0) (ms' := 0) [vi (hI h4 9 n2 1), vi (0 : Int32), vi (hI h4 9 n2 0)] k_tl_build_69 ca_tl_addChange ml_tl_53 ii_tl_addChange ⟨by decide, rfl⟩ pa_tl_addChange (by omega) (by omega) (by omega) rfl (Nat.le_of_ble_eq_true rfl) (Nat.le_of_ble_eq_true rfl) hT (fun v h9 hv => ?_)
      clear hT
      obtain ⟨rfl, hv⟩ := hv
      obtain ⟨h5, eh⟩ : ∃ z, z = h9 := ⟨_, rfl⟩
      subst eh
      obtain ⟨hskh5, hv⟩ := hv
      show mT g me_tl_build (d + 5) 0 0 72 [some (vr 4 0), some (vi (0 : Int32)), some (vi x2), some (vi x3), some (vr 9 n2)] [] h5 _
      refine tr_aload (pc := 72) k_tl_build_72 rfl ?_
      refine tr_getIx (pc := 74) k_tl_build_74 fl_tl_57 rfl rfl ?_
      refine tr_istore_n (pc := 77) 1 k_tl_build_77 rfl (by decide) rfl ?_
      show mT g me_tl_build (d + 5) 0 0 78 [some (vr 4 0), some (vi (hI h5 9 n2 0)), some (vi x2), some (vi x3), some (vr 9 n2)] [] h5 _
      refine tr_aload (pc := 78) k_tl_build_78 rfl ?_
      refine tr_getIx (pc := 80) k_tl_build_80 fl_tl_60 rfl rfl ?_
      refine tr_istore_n (pc := 83) 2 k_tl_build_83 rfl (by decide) rfl ?_
      show mT g me_tl_build (d + 5) 0 0 84 [some (vr 4 0), some (vi (hI h5 9 n2 0)), some (vi (hI h5 9 n2 2)), some (vi x3), some (vr 9 n2)] [] h5 _
      refine tr_iinc (pc := 84) (v := (x3 + 1)) k_tl_build_84 rfl rfl (by decide) rfl ?_
      show mT g me_tl_build (d + 5) 0 0 87 [some (vr 4 0), some (vi (hI h5 9 n2 0)), some (vi (hI h5 9 n2 2)), some (vi (x3 + 1)), some (vr 9 n2)] [] h5 _
      refine tr_goto (pc := 87) 11 k_tl_build_87 (by decide) ?_
      exact hv
theorem v_tl_addChange_0 {g : mG} {d : Nat} (x1 : Int32) (x2 : Int32) (x3 : Int32) {h : mH} {Q : Option mV → mH → Prop} (hsk : mSK h) (hv : mT g me_tl_addChange (d + 4) 0 0 3 [some (vr 4 0), some (vi x1), some (vi x2), some (vi x3), some (vi (0 : Int32)), none] [] h Q) : mT g me_tl_addChange (d + 4) 0 0 0 [some (vr 4 0), some (vi x1), some (vi x2), some (vi x3), none, none] [] h Q := by
  refine tr_iconst (pc := 0) (v := 0) k_tl_addChange_0 (by decide) ?_
  refine tr_istore (pc := 1) k_tl_addChange_1 (by decide) rfl ?_
  show mT g me_tl_addChange (d + 4) 0 0 3 [some (vr 4 0), some (vi x1), some (vi x2), some (vi x3), some (vi (0 : Int32)), none] [] h _
  exact hv
theorem v_tl_addChange_3 {g : mG} {d : Nat} (x1 : Int32) (x2 : Int32) (x3 : Int32) (x4 : Int32) (o5 : Option mV) {h : mH} {Q : Option mV → mH → Prop} (hsk : mSK h) (hv : (((hI h 2 2 1) ≤ x4 → Q none h) ∧ (¬ (hI h 2 2 1) ≤ x4 → (∃ n1, mGet h 2 x4 (some (8, n1)) ∧ (((x2 &&& (hI h 8 n1 1)) = 0 → (((x3 &&& (hI h 8 n1 1)) = 0 → mT g me_tl_addChange (d + 4) 0 0 3 [some (vr 4 0), some (vi x1), some (vi x2), some (vi x3), some (vi (x4 + 1)), some (vr 8 n1)] [] h Q) ∧ (¬ (x3 &&& (hI h 8 n1 1)) = 0 → (((576 : Int32) ≤ (hI h 4 0 7) → mT g me_tl_addChange (d + 4) 0 0 3 [some (vr 4 0), some (vi x1), some (vi x2), some (vi x3), some (vi (x4 + 1)), some (vr 8 n1)] [] h Q) ∧ (¬ (576 : Int32) ≤ (hI h 4 0 7) → (vp_in (hI h 4 0 7) 576 ∧ (vp_in (hI h 4 0 7) 576 ∧ (((x3 &&& (hI h 8 n1 1)) = 0 → (vp_in (hI h 4 0 7) 576 ∧ (∃ n2, hP h 8 n1 2 = some (7, n2) ∧ (vp_in (hI h 4 0 7) 576 ∧ mT g me_tl_addChange (d + 4) 0 0 3 [some (vr 4 0), some (vi x1), some (vi x2), some (vi x3), some (vi (x4 + 1)), some (vr 8 n1)] [] (setI (setI (setI (setI (setI h 11 0 ((hI h 4 0 7).toNatClampNeg) x1) 11 1 ((hI h 4 0 7).toNatClampNeg) x4) 11 2 ((hI h 4 0 7).toNatClampNeg) (0 : Int32)) 11 3 ((hI h 4 0 7).toNatClampNeg) (hI h 7 n2 0)) 4 0 7 ((hI h 4 0 7) + (1 : Int32))) Q)))) ∧ (¬ (x3 &&& (hI h 8 n1 1)) = 0 → (vp_in (hI h 4 0 7) 576 ∧ (∃ n4, hP h 8 n1 2 = some (7, n4) ∧ (vp_in (hI h 4 0 7) 576 ∧ mT g me_tl_addChange (d + 4) 0 0 3 [some (vr 4 0), some (vi x1), some (vi x2), some (vi x3), some (vi (x4 + 1)), some (vr 8 n1)] [] (setI (setI (setI (setI (setI h 11 0 ((hI h 4 0 7).toNatClampNeg) x1) 11 1 ((hI h 4 0 7).toNatClampNeg) x4) 11 2 ((hI h 4 0 7).toNatClampNeg) (1 : Int32)) 11 3 ((hI h 4 0 7).toNatClampNeg) (hI h 7 n4 0)) 4 0 7 ((hI h 4 0 7) + (1 : Int32))) Q)))))))))))) ∧ (¬ (x2 &&& (hI h 8 n1 1)) = 0 → (((x3 &&& (hI h 8 n1 1)) = 0 → (((576 : Int32) ≤ (hI h 4 0 7) → mT g me_tl_addChange (d + 4) 0 0 3 [some (vr 4 0), some (vi x1), some (vi x2), some (vi x3), some (vi (x4 + 1)), some (vr 8 n1)] [] h Q) ∧ (¬ (576 : Int32) ≤ (hI h 4 0 7) → (vp_in (hI h 4 0 7) 576 ∧ (vp_in (hI h 4 0 7) 576 ∧ (((x3 &&& (hI h 8 n1 1)) = 0 → (vp_in (hI h 4 0 7) 576 ∧ (∃ n6, hP h 8 n1 2 = some (7, n6) ∧ (vp_in (hI h 4 0 7) 576 ∧ mT g me_tl_addChange (d + 4) 0 0 3 [some (vr 4 0), some (vi x1), some (vi x2), some (vi x3), some (vi (x4 + 1)), some (vr 8 n1)] [] (setI (setI (setI (setI (setI h 11 0 ((hI h 4 0 7).toNatClampNeg) x1) 11 1 ((hI h 4 0 7).toNatClampNeg) x4) 11 2 ((hI h 4 0 7).toNatClampNeg) (0 : Int32)) 11 3 ((hI h 4 0 7).toNatClampNeg) (hI h 7 n6 0)) 4 0 7 ((hI h 4 0 7) + (1 : Int32))) Q)))) ∧ (¬ (x3 &&& (hI h 8 n1 1)) = 0 → (vp_in (hI h 4 0 7) 576 ∧ (∃ n8, hP h 8 n1 2 = some (7, n8) ∧ (vp_in (hI h 4 0 7) 576 ∧ mT g me_tl_addChange (d + 4) 0 0 3 [some (vr 4 0), some (vi x1), some (vi x2), some (vi x3), some (vi (x4 + 1)), some (vr 8 n1)] [] (setI (setI (setI (setI (setI h 11 0 ((hI h 4 0 7).toNatClampNeg) x1) 11 1 ((hI h 4 0 7).toNatClampNeg) x4) 11 2 ((hI h 4 0 7).toNatClampNeg) (1 : Int32)) 11 3 ((hI h 4 0 7).toNatClampNeg) (hI h 7 n8 0)) 4 0 7 ((hI h 4 0 7) + (1 : Int32))) Q)))))))))) ∧ (¬ (x3 &&& (hI h 8 n1 1)) = 0 → mT g me_tl_addChange (d + 4) 0 0 3 [some (vr 4 0), some (vi x1), some (vi x2), some (vi x3), some (vi (x4 + 1)), some (vr 8 n1)] [] h Q)))))))) : mT g me_tl_addChange (d + 4) 0 0 3 [some (vr 4 0), some (vi x1), some (vi x2), some (vi x3), some (vi x4), o5] [] h Q := by
  refine tr_iload (pc := 3) k_tl_addChange_3 rfl ?_
  refine tr_aload_n (pc := 5) 0 k_tl_addChange_5 rfl rfl ?_
  refine tr_getP (pc := 6) k_tl_addChange_6 fl_tl_9 rfl (Eq.trans rfl (hsk.1 4 0 _ rfl)) ?_
  refine tr_getP (pc := 9) k_tl_addChange_9 fl_tl_63 rfl (Eq.trans rfl (hsk.1 1 2 _ rfl)) ?_
  refine tr_callV (pc := 12) (d' := d + 3) (mc' := 0) (ms' := 0) [] k_tl_addChange_12 ca_al_size ml_tl_39 ii_al_size ⟨by decide, rfl⟩ pa_al_size (by omega) (by omega) (by omega) rfl (Nat.le_of_ble_eq_true rfl) (Nat.le_of_ble_eq_true rfl) (Qk := fun v h9 => mT g me_tl_addChange (d + 4) 0 0 15 [some (vr 4 0), some (vi x1), some (vi x2), some (vi x3), some (vi x4), o5] (v.toList ++ [vi x4]) h9 _) ?_ (fun _ _ z => z)
  show mT g me_al_size (d + 3) 0 0 0 [some (vr 2 2)] [] h _
  refine tr_aload_n (pc := 0) 0 k_al_size_0 rfl rfl ?_
  refine tr_getIx (pc := 1) k_al_size_1 fl_al_48 rfl rfl ?_
  refine tr_ireturn (pc := 4) k_al_size_4 rfl rfl ?_
  show mT g me_tl_addChange (d + 4) 0 0 15 [some (vr 4 0), some (vi x1), some (vi x2), some (vi x3), some (vi x4), o5] [vi (hI h 2 2 1), vi x4] h _
  refine tr_icmp_ge (pc := 15) 137 k_tl_addChange_15 (by decide) (fun q => ?_) (fun q => ?_)
  · replace hv := hv.1 q
    refine tr_return (pc := 137) k_tl_addChange_137 rfl ?_
    exact hv
  · replace hv := hv.2 q
    refine tr_aload_n (pc := 18) 0 k_tl_addChange_18 rfl rfl ?_
    refine tr_getP (pc := 19) k_tl_addChange_19 fl_tl_9 rfl (Eq.trans rfl (hsk.1 4 0 _ rfl)) ?_
    refine tr_getP (pc := 22) k_tl_addChange_22 fl_tl_63 rfl (Eq.trans rfl (hsk.1 1 2 _ rfl)) ?_
    refine tr_iload (pc := 25) k_tl_addChange_25 rfl ?_
    obtain ⟨n1, hg, hv⟩ := hv
    refine tr_alget (pc := 27) k_tl_addChange_27 ml_tl_44 (by omega) (Nat.le_of_ble_eq_true rfl) (mGet.up hg rfl rfl) ?_
    refine tr_cast (pc := 30) k_tl_addChange_30 (by decide) cl_tl_68 ?_
    refine tr_astore (pc := 33) k_tl_addChange_33 (by decide) rfl ?_
    show mT g me_tl_addChange (d + 4) 0 0 35 [some (vr 4 0), some (vi x1), some (vi x2), some (vi x3), some (vi x4), some (vr 8 n1)] [] h _
    refine tr_aload (pc := 35) k_tl_addChange_35 rfl ?_
    refine tr_iload_n (pc := 37) 2 k_tl_addChange_37 rfl rfl ?_
    refine tr_callV (pc := 38) (d' := d + 3) (mc' := 0) (ms' := 0) [vi x2] k_tl_addChange_38 ca_je_isIn ml_tl_70 ii_je_isIn ⟨by decide, rfl⟩ pa_je_isIn (by omega) (by omega) (by omega) rfl (Nat.le_of_ble_eq_true rfl) (Nat.le_of_ble_eq_true rfl) (Qk := fun v h9 => mT g me_tl_addChange (d + 4) 0 0 41 [some (vr 4 0), some (vi x1), some (vi x2), some (vi x3), some (vi x4), some (vr 8 n1)] (v.toList ++ []) h9 _) ?_ (fun _ _ z => z)
    show mT g me_je_isIn (d + 3) 0 0 0 [some (vr 8 n1), some (vi x2)] [] h _
    refine tr_iload_n (pc := 0) 1 k_je_isIn_0 rfl rfl ?_
    refine tr_aload_n (pc := 1) 0 k_je_isIn_1 rfl rfl ?_
    refine tr_getIx (pc := 2) k_je_isIn_2 fl_je_13 rfl rfl ?_
    refine tr_iand (pc := 5) k_je_isIn_5 ?_
    refine tr_if_eq (pc := 6) 13 k_je_isIn_6 (by decide) (fun q => ?_) (fun q => ?_)
    · replace hv := hv.1 q
      refine tr_iconst (pc := 13) (v := 0) k_je_isIn_13 (by decide) ?_
      refine tr_ireturn (pc := 14) k_je_isIn_14 rfl rfl ?_
      show mT g me_tl_addChange (d + 4) 0 0 41 [some (vr 4 0), some (vi x1), some (vi x2), some (vi x3), some (vi x4), some (vr 8 n1)] [vi (0 : Int32)] h _
      refine tr_aload (pc := 41) k_tl_addChange_41 rfl ?_
      refine tr_iload_n (pc := 43) 3 k_tl_addChange_43 rfl rfl ?_
      refine tr_callV (pc := 44) (d' := d + 3) (mc' := 0) (ms' := 0) [vi x3] k_tl_addChange_44 ca_je_isIn ml_tl_70 ii_je_isIn ⟨by decide, rfl⟩ pa_je_isIn (by omega) (by omega) (by omega) rfl (Nat.le_of_ble_eq_true rfl) (Nat.le_of_ble_eq_true rfl) (Qk := fun v h9 => mT g me_tl_addChange (d + 4) 0 0 47 [some (vr 4 0), some (vi x1), some (vi x2), some (vi x3), some (vi x4), some (vr 8 n1)] (v.toList ++ [vi (0 : Int32)]) h9 _) ?_ (fun _ _ z => z)
      show mT g me_je_isIn (d + 3) 0 0 0 [some (vr 8 n1), some (vi x3)] [] h _
      refine tr_iload_n (pc := 0) 1 k_je_isIn_0 rfl rfl ?_
      refine tr_aload_n (pc := 1) 0 k_je_isIn_1 rfl rfl ?_
      refine tr_getIx (pc := 2) k_je_isIn_2 fl_je_13 rfl rfl ?_
      refine tr_iand (pc := 5) k_je_isIn_5 ?_
      refine tr_if_eq (pc := 6) 13 k_je_isIn_6 (by decide) (fun q => ?_) (fun q => ?_)
      · replace hv := hv.1 q
        refine tr_iconst (pc := 13) (v := 0) k_je_isIn_13 (by decide) ?_
        refine tr_ireturn (pc := 14) k_je_isIn_14 rfl rfl ?_
        show mT g me_tl_addChange (d + 4) 0 0 47 [some (vr 4 0), some (vi x1), some (vi x2), some (vi x3), some (vi x4), some (vr 8 n1)] [vi (0 : Int32), vi (0 : Int32)] h _
        refine tr_icmp_eq (pc := 47) 131 k_tl_addChange_47 (by decide) (fun _ => ?_) (fun q => absurd q (by decide))
        refine tr_iinc (pc := 131) (v := (x4 + 1)) k_tl_addChange_131 rfl rfl (by decide) rfl ?_
        show mT g me_tl_addChange (d + 4) 0 0 134 [some (vr 4 0), some (vi x1), some (vi x2), some (vi x3), some (vi (x4 + 1)), some (vr 8 n1)] [] h _
        refine tr_goto (pc := 134) 3 k_tl_addChange_134 (by decide) ?_
        exact hv
      · replace hv := hv.2 q
        refine tr_iconst (pc := 9) (v := 1) k_je_isIn_9 (by decide) ?_
        refine tr_goto (pc := 10) 14 k_je_isIn_10 (by decide) ?_
        refine tr_ireturn (pc := 14) k_je_isIn_14 rfl rfl ?_
        show mT g me_tl_addChange (d + 4) 0 0 47 [some (vr 4 0), some (vi x1), some (vi x2), some (vi x3), some (vi x4), some (vr 8 n1)] [vi (1 : Int32), vi (0 : Int32)] h _
        refine tr_icmp_eq (pc := 47) 131 k_tl_addChange_47 (by decide) (fun q => absurd q (by decide)) (fun _ => ?_)
        refine tr_aload_n (pc := 50) 0 k_tl_addChange_50 rfl rfl ?_
        refine tr_getIx (pc := 51) k_tl_addChange_51 fl_tl_35 rfl rfl ?_
        refine tr_sipush (pc := 54) (v := 576) k_tl_addChange_54 (by decide) ?_
        refine tr_icmp_ge (pc := 57) 131 k_tl_addChange_57 (by decide) (fun q => ?_) (fun q => ?_)
        · replace hv := hv.1 q
          refine tr_iinc (pc := 131) (v := (x4 + 1)) k_tl_addChange_131 rfl rfl (by decide) rfl ?_
          show mT g me_tl_addChange (d + 4) 0 0 134 [some (vr 4 0), some (vi x1), some (vi x2), some (vi x3), some (vi (x4 + 1)), some (vr 8 n1)] [] h _
          refine tr_goto (pc := 134) 3 k_tl_addChange_134 (by decide) ?_
          exact hv
        · replace hv := hv.2 q
          refine tr_aload_n (pc := 60) 0 k_tl_addChange_60 rfl rfl ?_
          refine tr_getP (pc := 61) k_tl_addChange_61 fl_tl_19 rfl (Eq.trans rfl (hsk.1 4 2 _ rfl)) ?_
          refine tr_aload_n (pc := 64) 0 k_tl_addChange_64 rfl rfl ?_
          refine tr_getIx (pc := 65) k_tl_addChange_65 fl_tl_35 rfl rfl ?_
          refine tr_iload_n (pc := 68) 1 k_tl_addChange_68 rfl rfl ?_
          refine tr_iast (pc := 69) k_tl_addChange_69 (mvin (hsk.2.1 11 0 _ rfl) hv.1) ?_
          replace hv := hv.2
          refine tr_aload_n (pc := 70) 0 k_tl_addChange_70 rfl rfl ?_
          refine tr_getP (pc := 71) k_tl_addChange_71 fl_tl_23 rfl (Eq.trans (hP_setI) (hsk.1 4 3 _ rfl)) ?_
          refine tr_aload_n (pc := 74) 0 k_tl_addChange_74 rfl rfl ?_
          refine tr_getIx (pc := 75) k_tl_addChange_75 fl_tl_35 rfl (hI_nk (by decide)) ?_
          refine tr_iload (pc := 78) k_tl_addChange_78 rfl ?_
          refine tr_iast (pc := 80) k_tl_addChange_80 (mvin (hsk.2.1 11 1 _ rfl) hv.1) ?_
          replace hv := hv.2
          refine tr_aload_n (pc := 81) 0 k_tl_addChange_81 rfl rfl ?_
          refine tr_getP (pc := 82) k_tl_addChange_82 fl_tl_26 rfl (Eq.trans (Eq.trans (hP_setI) (hP_setI)) (hsk.1 4 4 _ rfl)) ?_
          refine tr_aload_n (pc := 85) 0 k_tl_addChange_85 rfl rfl ?_
          refine tr_getIx (pc := 86) k_tl_addChange_86 fl_tl_35 rfl (Eq.trans (hI_nk (by decide)) (hI_nk (by decide))) ?_
          refine tr_aload (pc := 89) k_tl_addChange_89 rfl ?_
          refine tr_iload_n (pc := 91) 3 k_tl_addChange_91 rfl rfl ?_
          refine tr_callV (pc := 92) (d' := d + 3) (mc' := 0) (ms' := 0) [vi x3] k_tl_addChange_92 ca_je_isIn ml_tl_70 ii_je_isIn ⟨by decide, rfl⟩ pa_je_isIn (by omega) (by omega) (by omega) rfl (Nat.le_of_ble_eq_true rfl) (Nat.le_of_ble_eq_true rfl) (Qk := fun v h9 => mT g me_tl_addChange (d + 4) 0 0 95 [some (vr 4 0), some (vi x1), some (vi x2), some (vi x3), some (vi x4), some (vr 8 n1)] (v.toList ++ [vi (hI h 4 0 7), vr 11 2]) h9 _) ?_ (fun _ _ z => z)
          show mT g me_je_isIn (d + 3) 0 0 0 [some (vr 8 n1), some (vi x3)] [] (setI (setI h 11 0 ((hI h 4 0 7).toNatClampNeg) x1) 11 1 ((hI h 4 0 7).toNatClampNeg) x4) _
          refine tr_iload_n (pc := 0) 1 k_je_isIn_0 rfl rfl ?_
          refine tr_aload_n (pc := 1) 0 k_je_isIn_1 rfl rfl ?_
          refine tr_getIx (pc := 2) k_je_isIn_2 fl_je_13 rfl (Eq.trans (hI_nk (by decide)) (hI_nk (by decide))) ?_
          refine tr_iand (pc := 5) k_je_isIn_5 ?_
          refine tr_if_eq (pc := 6) 13 k_je_isIn_6 (by decide) (fun q => ?_) (fun q => ?_)
          · replace hv := hv.1 q
            refine tr_iconst (pc := 13) (v := 0) k_je_isIn_13 (by decide) ?_
            refine tr_ireturn (pc := 14) k_je_isIn_14 rfl rfl ?_
            show mT g me_tl_addChange (d + 4) 0 0 95 [some (vr 4 0), some (vi x1), some (vi x2), some (vi x3), some (vi x4), some (vr 8 n1)] [vi (0 : Int32), vi (hI h 4 0 7), vr 11 2] (setI (setI h 11 0 ((hI h 4 0 7).toNatClampNeg) x1) 11 1 ((hI h 4 0 7).toNatClampNeg) x4) _
            refine tr_if_eq (pc := 95) 102 k_tl_addChange_95 (by decide) (fun _ => ?_) (fun q => absurd q (by decide))
            refine tr_iconst (pc := 102) (v := 0) k_tl_addChange_102 (by decide) ?_
            refine tr_iast (pc := 103) k_tl_addChange_103 (mvin (hsk.2.1 11 2 _ rfl) hv.1) ?_
            replace hv := hv.2
            refine tr_aload_n (pc := 104) 0 k_tl_addChange_104 rfl rfl ?_
            refine tr_getP (pc := 105) k_tl_addChange_105 fl_tl_29 rfl (Eq.trans (Eq.trans (hP_setI) (Eq.trans (hP_setI) (hP_setI))) (hsk.1 4 5 _ rfl)) ?_
            refine tr_aload_n (pc := 108) 0 k_tl_addChange_108 rfl rfl ?_
            refine tr_getIx (pc := 109) k_tl_addChange_109 fl_tl_35 rfl (Eq.trans (hI_nk (by decide)) (Eq.trans (hI_nk (by decide)) (hI_nk (by decide)))) ?_
            refine tr_aload (pc := 112) k_tl_addChange_112 rfl ?_
            obtain ⟨n2, e3, hv⟩ := hv
            refine tr_getP (pc := 114) k_tl_addChange_114 fl_tl_74 rfl (Eq.trans (Eq.trans (hP_setI) (Eq.trans (hP_setI) (hP_setI))) e3) ?_
            refine tr_getIx (pc := 117) k_tl_addChange_117 fl_tl_78 rfl (Eq.trans (hI_nk (by decide)) (Eq.trans (hI_nk (by decide)) (hI_nk (by decide)))) ?_
            refine tr_iast (pc := 120) k_tl_addChange_120 (mvin (hsk.2.1 11 3 _ rfl) hv.1) ?_
            replace hv := hv.2
            refine tr_aload_n (pc := 121) 0 k_tl_addChange_121 rfl rfl ?_
            refine tr_dup (pc := 122) k_tl_addChange_122 rfl ?_
            refine tr_getIx (pc := 123) k_tl_addChange_123 fl_tl_35 rfl (Eq.trans (hI_nk (by decide)) (Eq.trans (hI_nk (by decide)) (Eq.trans (hI_nk (by decide)) (hI_nk (by decide))))) ?_
            refine tr_iconst (pc := 126) (v := 1) k_tl_addChange_126 (by decide) ?_
            refine tr_iadd (pc := 127) k_tl_addChange_127 ?_
            refine tr_putI (pc := 128) k_tl_addChange_128 fl_tl_35 (Or.inl rfl) rfl ⟨rfl, rfl⟩ ?_
            refine tr_iinc (pc := 131) (v := (x4 + 1)) k_tl_addChange_131 rfl rfl (by decide) rfl ?_
            show mT g me_tl_addChange (d + 4) 0 0 134 [some (vr 4 0), some (vi x1), some (vi x2), some (vi x3), some (vi (x4 + 1)), some (vr 8 n1)] [] (setI (setI (setI (setI (setI h 11 0 ((hI h 4 0 7).toNatClampNeg) x1) 11 1 ((hI h 4 0 7).toNatClampNeg) x4) 11 2 ((hI h 4 0 7).toNatClampNeg) (0 : Int32)) 11 3 ((hI h 4 0 7).toNatClampNeg) (hI h 7 n2 0)) 4 0 7 ((hI h 4 0 7) + (1 : Int32))) _
            refine tr_goto (pc := 134) 3 k_tl_addChange_134 (by decide) ?_
            exact hv
          · replace hv := hv.2 q
            refine tr_iconst (pc := 9) (v := 1) k_je_isIn_9 (by decide) ?_
            refine tr_goto (pc := 10) 14 k_je_isIn_10 (by decide) ?_
            refine tr_ireturn (pc := 14) k_je_isIn_14 rfl rfl ?_
            show mT g me_tl_addChange (d + 4) 0 0 95 [some (vr 4 0), some (vi x1), some (vi x2), some (vi x3), some (vi x4), some (vr 8 n1)] [vi (1 : Int32), vi (hI h 4 0 7), vr 11 2] (setI (setI h 11 0 ((hI h 4 0 7).toNatClampNeg) x1) 11 1 ((hI h 4 0 7).toNatClampNeg) x4) _
            refine tr_if_eq (pc := 95) 102 k_tl_addChange_95 (by decide) (fun q => absurd q (by decide)) (fun _ => ?_)
            refine tr_iconst (pc := 98) (v := 1) k_tl_addChange_98 (by decide) ?_
            refine tr_goto (pc := 99) 103 k_tl_addChange_99 (by decide) ?_
            refine tr_iast (pc := 103) k_tl_addChange_103 (mvin (hsk.2.1 11 2 _ rfl) hv.1) ?_
            replace hv := hv.2
            refine tr_aload_n (pc := 104) 0 k_tl_addChange_104 rfl rfl ?_
            refine tr_getP (pc := 105) k_tl_addChange_105 fl_tl_29 rfl (Eq.trans (Eq.trans (hP_setI) (Eq.trans (hP_setI) (hP_setI))) (hsk.1 4 5 _ rfl)) ?_
            refine tr_aload_n (pc := 108) 0 k_tl_addChange_108 rfl rfl ?_
            refine tr_getIx (pc := 109) k_tl_addChange_109 fl_tl_35 rfl (Eq.trans (hI_nk (by decide)) (Eq.trans (hI_nk (by decide)) (hI_nk (by decide)))) ?_
            refine tr_aload (pc := 112) k_tl_addChange_112 rfl ?_
            obtain ⟨n4, e5, hv⟩ := hv
            refine tr_getP (pc := 114) k_tl_addChange_114 fl_tl_74 rfl (Eq.trans (Eq.trans (hP_setI) (Eq.trans (hP_setI) (hP_setI))) e5) ?_
            refine tr_getIx (pc := 117) k_tl_addChange_117 fl_tl_78 rfl (Eq.trans (hI_nk (by decide)) (Eq.trans (hI_nk (by decide)) (hI_nk (by decide)))) ?_
            refine tr_iast (pc := 120) k_tl_addChange_120 (mvin (hsk.2.1 11 3 _ rfl) hv.1) ?_
            replace hv := hv.2
            refine tr_aload_n (pc := 121) 0 k_tl_addChange_121 rfl rfl ?_
            refine tr_dup (pc := 122) k_tl_addChange_122 rfl ?_
            refine tr_getIx (pc := 123) k_tl_addChange_123 fl_tl_35 rfl (Eq.trans (hI_nk (by decide)) (Eq.trans (hI_nk (by decide)) (Eq.trans (hI_nk (by decide)) (hI_nk (by decide))))) ?_
            refine tr_iconst (pc := 126) (v := 1) k_tl_addChange_126 (by decide) ?_
            refine tr_iadd (pc := 127) k_tl_addChange_127 ?_
            refine tr_putI (pc := 128) k_tl_addChange_128 fl_tl_35 (Or.inl rfl) rfl ⟨rfl, rfl⟩ ?_
            refine tr_iinc (pc := 131) (v := (x4 + 1)) k_tl_addChange_131 rfl rfl (by decide) rfl ?_
            show mT g me_tl_addChange (d + 4) 0 0 134 [some (vr 4 0), some (vi x1), some (vi x2), some (vi x3), some (vi (x4 + 1)), some (vr 8 n1)] [] (setI (setI (setI (setI (setI h 11 0 ((hI h 4 0 7).toNatClampNeg) x1) 11 1 ((hI h 4 0 7).toNatClampNeg) x4) 11 2 ((hI h 4 0 7).toNatClampNeg) (1 : Int32)) 11 3 ((hI h 4 0 7).toNatClampNeg) (hI h 7 n4 0)) 4 0 7 ((hI h 4 0 7) + (1 : Int32))) _
            refine tr_goto (pc := 134) 3 k_tl_addChange_134 (by decide) ?_
            exact hv
    · replace hv := hv.2 q
      refine tr_iconst (pc := 9) (v := 1) k_je_isIn_9 (by decide) ?_
      refine tr_goto (pc := 10) 14 k_je_isIn_10 (by decide) ?_
      refine tr_ireturn (pc := 14) k_je_isIn_14 rfl rfl ?_
      show mT g me_tl_addChange (d + 4) 0 0 41 [some (vr 4 0), some (vi x1), some (vi x2), some (vi x3), some (vi x4), some (vr 8 n1)] [vi (1 : Int32)] h _
      refine tr_aload (pc := 41) k_tl_addChange_41 rfl ?_
      refine tr_iload_n (pc := 43) 3 k_tl_addChange_43 rfl rfl ?_
      refine tr_callV (pc := 44) (d' := d + 3) (mc' := 0) (ms' := 0) [vi x3] k_tl_addChange_44 ca_je_isIn ml_tl_70 ii_je_isIn ⟨by decide, rfl⟩ pa_je_isIn (by omega) (by omega) (by omega) rfl (Nat.le_of_ble_eq_true rfl) (Nat.le_of_ble_eq_true rfl) (Qk := fun v h9 => mT g me_tl_addChange (d + 4) 0 0 47 [some (vr 4 0), some (vi x1), some (vi x2), some (vi x3), some (vi x4), some (vr 8 n1)] (v.toList ++ [vi (1 : Int32)]) h9 _) ?_ (fun _ _ z => z)
      show mT g me_je_isIn (d + 3) 0 0 0 [some (vr 8 n1), some (vi x3)] [] h _
      refine tr_iload_n (pc := 0) 1 k_je_isIn_0 rfl rfl ?_
      refine tr_aload_n (pc := 1) 0 k_je_isIn_1 rfl rfl ?_
      refine tr_getIx (pc := 2) k_je_isIn_2 fl_je_13 rfl rfl ?_
      refine tr_iand (pc := 5) k_je_isIn_5 ?_
      refine tr_if_eq (pc := 6) 13 k_je_isIn_6 (by decide) (fun q => ?_) (fun q => ?_)
      · replace hv := hv.1 q
        refine tr_iconst (pc := 13) (v := 0) k_je_isIn_13 (by decide) ?_
        refine tr_ireturn (pc := 14) k_je_isIn_14 rfl rfl ?_
        show mT g me_tl_addChange (d + 4) 0 0 47 [some (vr 4 0), some (vi x1), some (vi x2), some (vi x3), some (vi x4), some (vr 8 n1)] [vi (0 : Int32), vi (1 : Int32)] h _
        refine tr_icmp_eq (pc := 47) 131 k_tl_addChange_47 (by decide) (fun q => absurd q (by decide)) (fun _ => ?_)
        refine tr_aload_n (pc := 50) 0 k_tl_addChange_50 rfl rfl ?_
        refine tr_getIx (pc := 51) k_tl_addChange_51 fl_tl_35 rfl rfl ?_
        refine tr_sipush (pc := 54) (v := 576) k_tl_addChange_54 (by decide) ?_
        refine tr_icmp_ge (pc := 57) 131 k_tl_addChange_57 (by decide) (fun q => ?_) (fun q => ?_)
        · replace hv := hv.1 q
          refine tr_iinc (pc := 131) (v := (x4 + 1)) k_tl_addChange_131 rfl rfl (by decide) rfl ?_
          show mT g me_tl_addChange (d + 4) 0 0 134 [some (vr 4 0), some (vi x1), some (vi x2), some (vi x3), some (vi (x4 + 1)), some (vr 8 n1)] [] h _
          refine tr_goto (pc := 134) 3 k_tl_addChange_134 (by decide) ?_
          exact hv
        · replace hv := hv.2 q
          refine tr_aload_n (pc := 60) 0 k_tl_addChange_60 rfl rfl ?_
          refine tr_getP (pc := 61) k_tl_addChange_61 fl_tl_19 rfl (Eq.trans rfl (hsk.1 4 2 _ rfl)) ?_
          refine tr_aload_n (pc := 64) 0 k_tl_addChange_64 rfl rfl ?_
          refine tr_getIx (pc := 65) k_tl_addChange_65 fl_tl_35 rfl rfl ?_
          refine tr_iload_n (pc := 68) 1 k_tl_addChange_68 rfl rfl ?_
          refine tr_iast (pc := 69) k_tl_addChange_69 (mvin (hsk.2.1 11 0 _ rfl) hv.1) ?_
          replace hv := hv.2
          refine tr_aload_n (pc := 70) 0 k_tl_addChange_70 rfl rfl ?_
          refine tr_getP (pc := 71) k_tl_addChange_71 fl_tl_23 rfl (Eq.trans (hP_setI) (hsk.1 4 3 _ rfl)) ?_
          refine tr_aload_n (pc := 74) 0 k_tl_addChange_74 rfl rfl ?_
          refine tr_getIx (pc := 75) k_tl_addChange_75 fl_tl_35 rfl (hI_nk (by decide)) ?_
          refine tr_iload (pc := 78) k_tl_addChange_78 rfl ?_
          refine tr_iast (pc := 80) k_tl_addChange_80 (mvin (hsk.2.1 11 1 _ rfl) hv.1) ?_
          replace hv := hv.2
          refine tr_aload_n (pc := 81) 0 k_tl_addChange_81 rfl rfl ?_
          refine tr_getP (pc := 82) k_tl_addChange_82 fl_tl_26 rfl (Eq.trans (Eq.trans (hP_setI) (hP_setI)) (hsk.1 4 4 _ rfl)) ?_
          refine tr_aload_n (pc := 85) 0 k_tl_addChange_85 rfl rfl ?_
          refine tr_getIx (pc := 86) k_tl_addChange_86 fl_tl_35 rfl (Eq.trans (hI_nk (by decide)) (hI_nk (by decide))) ?_
          refine tr_aload (pc := 89) k_tl_addChange_89 rfl ?_
          refine tr_iload_n (pc := 91) 3 k_tl_addChange_91 rfl rfl ?_
          refine tr_callV (pc := 92) (d' := d + 3) (mc' := 0) (ms' := 0) [vi x3] k_tl_addChange_92 ca_je_isIn ml_tl_70 ii_je_isIn ⟨by decide, rfl⟩ pa_je_isIn (by omega) (by omega) (by omega) rfl (Nat.le_of_ble_eq_true rfl) (Nat.le_of_ble_eq_true rfl) (Qk := fun v h9 => mT g me_tl_addChange (d + 4) 0 0 95 [some (vr 4 0), some (vi x1), some (vi x2), some (vi x3), some (vi x4), some (vr 8 n1)] (v.toList ++ [vi (hI h 4 0 7), vr 11 2]) h9 _) ?_ (fun _ _ z => z)
          show mT g me_je_isIn (d + 3) 0 0 0 [some (vr 8 n1), some (vi x3)] [] (setI (setI h 11 0 ((hI h 4 0 7).toNatClampNeg) x1) 11 1 ((hI h 4 0 7).toNatClampNeg) x4) _
          refine tr_iload_n (pc := 0) 1 k_je_isIn_0 rfl rfl ?_
          refine tr_aload_n (pc := 1) 0 k_je_isIn_1 rfl rfl ?_
          refine tr_getIx (pc := 2) k_je_isIn_2 fl_je_13 rfl (Eq.trans (hI_nk (by decide)) (hI_nk (by decide))) ?_
          refine tr_iand (pc := 5) k_je_isIn_5 ?_
          refine tr_if_eq (pc := 6) 13 k_je_isIn_6 (by decide) (fun q => ?_) (fun q => ?_)
          · replace hv := hv.1 q
            refine tr_iconst (pc := 13) (v := 0) k_je_isIn_13 (by decide) ?_
            refine tr_ireturn (pc := 14) k_je_isIn_14 rfl rfl ?_
            show mT g me_tl_addChange (d + 4) 0 0 95 [some (vr 4 0), some (vi x1), some (vi x2), some (vi x3), some (vi x4), some (vr 8 n1)] [vi (0 : Int32), vi (hI h 4 0 7), vr 11 2] (setI (setI h 11 0 ((hI h 4 0 7).toNatClampNeg) x1) 11 1 ((hI h 4 0 7).toNatClampNeg) x4) _
            refine tr_if_eq (pc := 95) 102 k_tl_addChange_95 (by decide) (fun _ => ?_) (fun q => absurd q (by decide))
            refine tr_iconst (pc := 102) (v := 0) k_tl_addChange_102 (by decide) ?_
            refine tr_iast (pc := 103) k_tl_addChange_103 (mvin (hsk.2.1 11 2 _ rfl) hv.1) ?_
            replace hv := hv.2
            refine tr_aload_n (pc := 104) 0 k_tl_addChange_104 rfl rfl ?_
            refine tr_getP (pc := 105) k_tl_addChange_105 fl_tl_29 rfl (Eq.trans (Eq.trans (hP_setI) (Eq.trans (hP_setI) (hP_setI))) (hsk.1 4 5 _ rfl)) ?_
            refine tr_aload_n (pc := 108) 0 k_tl_addChange_108 rfl rfl ?_
            refine tr_getIx (pc := 109) k_tl_addChange_109 fl_tl_35 rfl (Eq.trans (hI_nk (by decide)) (Eq.trans (hI_nk (by decide)) (hI_nk (by decide)))) ?_
            refine tr_aload (pc := 112) k_tl_addChange_112 rfl ?_
            obtain ⟨n6, e7, hv⟩ := hv
            refine tr_getP (pc := 114) k_tl_addChange_114 fl_tl_74 rfl (Eq.trans (Eq.trans (hP_setI) (Eq.trans (hP_setI) (hP_setI))) e7) ?_
            refine tr_getIx (pc := 117) k_tl_addChange_117 fl_tl_78 rfl (Eq.trans (hI_nk (by decide)) (Eq.trans (hI_nk (by decide)) (hI_nk (by decide)))) ?_
            refine tr_iast (pc := 120) k_tl_addChange_120 (mvin (hsk.2.1 11 3 _ rfl) hv.1) ?_
            replace hv := hv.2
            refine tr_aload_n (pc := 121) 0 k_tl_addChange_121 rfl rfl ?_
            refine tr_dup (pc := 122) k_tl_addChange_122 rfl ?_
            refine tr_getIx (pc := 123) k_tl_addChange_123 fl_tl_35 rfl (Eq.trans (hI_nk (by decide)) (Eq.trans (hI_nk (by decide)) (Eq.trans (hI_nk (by decide)) (hI_nk (by decide))))) ?_
            refine tr_iconst (pc := 126) (v := 1) k_tl_addChange_126 (by decide) ?_
            refine tr_iadd (pc := 127) k_tl_addChange_127 ?_
            refine tr_putI (pc := 128) k_tl_addChange_128 fl_tl_35 (Or.inl rfl) rfl ⟨rfl, rfl⟩ ?_
            refine tr_iinc (pc := 131) (v := (x4 + 1)) k_tl_addChange_131 rfl rfl (by decide) rfl ?_
            show mT g me_tl_addChange (d + 4) 0 0 134 [some (vr 4 0), some (vi x1), some (vi x2), some (vi x3), some (vi (x4 + 1)), some (vr 8 n1)] [] (setI (setI (setI (setI (setI h 11 0 ((hI h 4 0 7).toNatClampNeg) x1) 11 1 ((hI h 4 0 7).toNatClampNeg) x4) 11 2 ((hI h 4 0 7).toNatClampNeg) (0 : Int32)) 11 3 ((hI h 4 0 7).toNatClampNeg) (hI h 7 n6 0)) 4 0 7 ((hI h 4 0 7) + (1 : Int32))) _
            refine tr_goto (pc := 134) 3 k_tl_addChange_134 (by decide) ?_
            exact hv
          · replace hv := hv.2 q
            refine tr_iconst (pc := 9) (v := 1) k_je_isIn_9 (by decide) ?_
            refine tr_goto (pc := 10) 14 k_je_isIn_10 (by decide) ?_
            refine tr_ireturn (pc := 14) k_je_isIn_14 rfl rfl ?_
            show mT g me_tl_addChange (d + 4) 0 0 95 [some (vr 4 0), some (vi x1), some (vi x2), some (vi x3), some (vi x4), some (vr 8 n1)] [vi (1 : Int32), vi (hI h 4 0 7), vr 11 2] (setI (setI h 11 0 ((hI h 4 0 7).toNatClampNeg) x1) 11 1 ((hI h 4 0 7).toNatClampNeg) x4) _
            refine tr_if_eq (pc := 95) 102 k_tl_addChange_95 (by decide) (fun q => absurd q (by decide)) (fun _ => ?_)
            refine tr_iconst (pc := 98) (v := 1) k_tl_addChange_98 (by decide) ?_
            refine tr_goto (pc := 99) 103 k_tl_addChange_99 (by decide) ?_
            refine tr_iast (pc := 103) k_tl_addChange_103 (mvin (hsk.2.1 11 2 _ rfl) hv.1) ?_
            replace hv := hv.2
            refine tr_aload_n (pc := 104) 0 k_tl_addChange_104 rfl rfl ?_
            refine tr_getP (pc := 105) k_tl_addChange_105 fl_tl_29 rfl (Eq.trans (Eq.trans (hP_setI) (Eq.trans (hP_setI) (hP_setI))) (hsk.1 4 5 _ rfl)) ?_
            refine tr_aload_n (pc := 108) 0 k_tl_addChange_108 rfl rfl ?_
            refine tr_getIx (pc := 109) k_tl_addChange_109 fl_tl_35 rfl (Eq.trans (hI_nk (by decide)) (Eq.trans (hI_nk (by decide)) (hI_nk (by decide)))) ?_
            refine tr_aload (pc := 112) k_tl_addChange_112 rfl ?_
            obtain ⟨n8, e9, hv⟩ := hv
            refine tr_getP (pc := 114) k_tl_addChange_114 fl_tl_74 rfl (Eq.trans (Eq.trans (hP_setI) (Eq.trans (hP_setI) (hP_setI))) e9) ?_
            refine tr_getIx (pc := 117) k_tl_addChange_117 fl_tl_78 rfl (Eq.trans (hI_nk (by decide)) (Eq.trans (hI_nk (by decide)) (hI_nk (by decide)))) ?_
            refine tr_iast (pc := 120) k_tl_addChange_120 (mvin (hsk.2.1 11 3 _ rfl) hv.1) ?_
            replace hv := hv.2
            refine tr_aload_n (pc := 121) 0 k_tl_addChange_121 rfl rfl ?_
            refine tr_dup (pc := 122) k_tl_addChange_122 rfl ?_
            refine tr_getIx (pc := 123) k_tl_addChange_123 fl_tl_35 rfl (Eq.trans (hI_nk (by decide)) (Eq.trans (hI_nk (by decide)) (Eq.trans (hI_nk (by decide)) (hI_nk (by decide))))) ?_
            refine tr_iconst (pc := 126) (v := 1) k_tl_addChange_126 (by decide) ?_
            refine tr_iadd (pc := 127) k_tl_addChange_127 ?_
            refine tr_putI (pc := 128) k_tl_addChange_128 fl_tl_35 (Or.inl rfl) rfl ⟨rfl, rfl⟩ ?_
            refine tr_iinc (pc := 131) (v := (x4 + 1)) k_tl_addChange_131 rfl rfl (by decide) rfl ?_
            show mT g me_tl_addChange (d + 4) 0 0 134 [some (vr 4 0), some (vi x1), some (vi x2), some (vi x3), some (vi (x4 + 1)), some (vr 8 n1)] [] (setI (setI (setI (setI (setI h 11 0 ((hI h 4 0 7).toNatClampNeg) x1) 11 1 ((hI h 4 0 7).toNatClampNeg) x4) 11 2 ((hI h 4 0 7).toNatClampNeg) (1 : Int32)) 11 3 ((hI h 4 0 7).toNatClampNeg) (hI h 7 n8 0)) 4 0 7 ((hI h 4 0 7) + (1 : Int32))) _
            refine tr_goto (pc := 134) 3 k_tl_addChange_134 (by decide) ?_
            exact hv
      · replace hv := hv.2 q
        refine tr_iconst (pc := 9) (v := 1) k_je_isIn_9 (by decide) ?_
        refine tr_goto (pc := 10) 14 k_je_isIn_10 (by decide) ?_
        refine tr_ireturn (pc := 14) k_je_isIn_14 rfl rfl ?_
        show mT g me_tl_addChange (d + 4) 0 0 47 [some (vr 4 0), some (vi x1), some (vi x2), some (vi x3), some (vi x4), some (vr 8 n1)] [vi (1 : Int32), vi (1 : Int32)] h _
        refine tr_icmp_eq (pc := 47) 131 k_tl_addChange_47 (by decide) (fun _ => ?_) (fun q => absurd q (by decide))
        refine tr_iinc (pc := 131) (v := (x4 + 1)) k_tl_addChange_131 rfl rfl (by decide) rfl ?_
        show mT g me_tl_addChange (d + 4) 0 0 134 [some (vr 4 0), some (vi x1), some (vi x2), some (vi x3), some (vi (x4 + 1)), some (vr 8 n1)] [] h _
        refine tr_goto (pc := 134) 3 k_tl_addChange_134 (by decide) ?_
        exact hv
theorem v_fn_task_0 {g : mG} {d : Nat} (x1 : Int32) (x2 : Int32) {h : mH} {Q : Option mV → mH → Prop} (hsk : mSK h) (hv : mT g me_tl_build (d + 5) 0 0 0 [some (vr 4 0), none, none, none, none] [] h (fun v h1 => v = none ∧ mSK h1 ∧ ((x1 < 0 → mT g me_fn_refuse (d + 5) 0 0 0 [some (vr 0 0), some (vi (-1 : Int32)), none] [] h1 (fun v h2 => ∃ y3, v = some (vi y3) ∧ mSK h2 ∧ Q (some (vi y3)) h2)) ∧ (¬ x1 < 0 → ((x1 < (hI h1 4 0 7) → ((x2 < 0 → mT g me_fn_refuse (d + 5) 0 0 0 [some (vr 0 0), some (vi (-2 : Int32)), none] [] h1 (fun v h4 => ∃ y5, v = some (vi y5) ∧ mSK h4 ∧ Q (some (vi y5)) h4)) ∧ (¬ x2 < 0 → ((x2 ≤ (2 : Int32) → ((x1 < 0 → Q (some (vi (-9 : Int32))) h1) ∧ (¬ x1 < 0 → (((hI h1 4 0 7) ≤ x1 → Q (some (vi (-9 : Int32))) h1) ∧ (¬ (hI h1 4 0 7) ≤ x1 → ((x1 < (576 : Int32) → ((¬ x2 = 0 → ((¬ x2 = (1 : Int32) → (vp_in x1 576 ∧ Q (some (vi (hI h1 11 2 x1.toNatClampNeg))) h1)) ∧ (x2 = (1 : Int32) → (vp_in x1 576 ∧ Q (some (vi (hI h1 11 1 x1.toNatClampNeg))) h1)))) ∧ (x2 = 0 → (vp_in x1 576 ∧ Q (some (vi (hI h1 11 0 x1.toNatClampNeg))) h1)))) ∧ (¬ x1 < (576 : Int32) → Q (some (vi (-9 : Int32))) h1))))))) ∧ (¬ x2 ≤ (2 : Int32) → mT g me_fn_refuse (d + 5) 0 0 0 [some (vr 0 0), some (vi (-2 : Int32)), none] [] h1 (fun v h6 => ∃ y7, v = some (vi y7) ∧ mSK h6 ∧ Q (some (vi y7)) h6)))))) ∧ (¬ x1 < (hI h1 4 0 7) → mT g me_fn_refuse (d + 5) 0 0 0 [some (vr 0 0), some (vi (-1 : Int32)), none] [] h1 (fun v h8 => ∃ y9, v = some (vi y9) ∧ mSK h8 ∧ Q (some (vi y9)) h8))))))) : mT g me_fn_task (d + 6) 0 0 0 [some (vr 0 0), some (vi x1), some (vi x2)] [] h Q := by
  refine tr_aload_n (pc := 0) 0 k_fn_task_0 rfl rfl ?_
  refine tr_getP (pc := 1) k_fn_task_1 fl_fn_35 rfl (Eq.trans rfl (hsk.1 0 3 _ rfl)) ?_
  have hT := hv
  clear hv
  refine tr_callV (pc := 4) (d' := d + 5) (mc' := 0) (ms' := 0) [] k_fn_task_4 ca_tl_build ml_fn_225 ii_tl_build ⟨by decide, rfl⟩ pa_tl_build (by omega) (by omega) (by omega) rfl (Nat.le_of_ble_eq_true rfl) (Nat.le_of_ble_eq_true rfl) hT (fun v h9 hv => ?_)
  clear hT
  obtain ⟨rfl, hv⟩ := hv
  obtain ⟨h1, eh⟩ : ∃ z, z = h9 := ⟨_, rfl⟩
  subst eh
  obtain ⟨hskh1, hv⟩ := hv
  show mT g me_fn_task (d + 6) 0 0 7 [some (vr 0 0), some (vi x1), some (vi x2)] [] h1 _
  refine tr_iload_n (pc := 7) 1 k_fn_task_7 rfl rfl ?_
  refine tr_if_lt (pc := 8) 22 k_fn_task_8 (by decide) (fun q => ?_) (fun q => ?_)
  · replace hv := hv.1 q
    refine tr_aload_n (pc := 22) 0 k_fn_task_22 rfl rfl ?_
    refine tr_iconst (pc := 23) (v := -1) k_fn_task_23 (by decide) ?_
    have hT := hv
    clear hv
    refine tr_callV (pc := 24) (d' := d + 5) (mc' := 0) (ms' := 0) [vi (-1 : Int32)] k_fn_task_24 ca_fn_refuse ml_fn_56 ii_fn_refuse ⟨by decide, rfl⟩ pa_fn_refuse (by omega) (by omega) (by omega) rfl (Nat.le_of_ble_eq_true rfl) (Nat.le_of_ble_eq_true rfl) hT (fun v h9 hv => ?_)
    clear hT
    obtain ⟨y3, rfl, hv⟩ := hv
    obtain ⟨h2, eh⟩ : ∃ z, z = h9 := ⟨_, rfl⟩
    subst eh
    obtain ⟨hskh2, hv⟩ := hv
    show mT g me_fn_task (d + 6) 0 0 27 [some (vr 0 0), some (vi x1), some (vi x2)] [vi y3] h2 _
    refine tr_ireturn (pc := 27) k_fn_task_27 rfl rfl ?_
    exact hv
  · replace hv := hv.2 q
    refine tr_iload_n (pc := 11) 1 k_fn_task_11 rfl rfl ?_
    refine tr_aload_n (pc := 12) 0 k_fn_task_12 rfl rfl ?_
    refine tr_getP (pc := 13) k_fn_task_13 fl_fn_35 rfl (Eq.trans rfl (hskh1.1 0 3 _ rfl)) ?_
    refine tr_getIx (pc := 16) k_fn_task_16 fl_fn_228 rfl rfl ?_
    refine tr_icmp_lt (pc := 19) 28 k_fn_task_19 (by decide) (fun q => ?_) (fun q => ?_)
    · replace hv := hv.1 q
      refine tr_iload_n (pc := 28) 2 k_fn_task_28 rfl rfl ?_
      refine tr_if_lt (pc := 29) 37 k_fn_task_29 (by decide) (fun q => ?_) (fun q => ?_)
      · replace hv := hv.1 q
        refine tr_aload_n (pc := 37) 0 k_fn_task_37 rfl rfl ?_
        refine tr_bipush (pc := 38) (v := -2) k_fn_task_38 (by decide) ?_
        have hT := hv
        clear hv
        refine tr_callV (pc := 40) (d' := d + 5) (mc' := 0) (ms' := 0) [vi (-2 : Int32)] k_fn_task_40 ca_fn_refuse ml_fn_56 ii_fn_refuse ⟨by decide, rfl⟩ pa_fn_refuse (by omega) (by omega) (by omega) rfl (Nat.le_of_ble_eq_true rfl) (Nat.le_of_ble_eq_true rfl) hT (fun v h9 hv => ?_)
        clear hT
        obtain ⟨y5, rfl, hv⟩ := hv
        obtain ⟨h4, eh⟩ : ∃ z, z = h9 := ⟨_, rfl⟩
        subst eh
        obtain ⟨hskh4, hv⟩ := hv
        show mT g me_fn_task (d + 6) 0 0 43 [some (vr 0 0), some (vi x1), some (vi x2)] [vi y5] h4 _
        refine tr_ireturn (pc := 43) k_fn_task_43 rfl rfl ?_
        exact hv
      · replace hv := hv.2 q
        refine tr_iload_n (pc := 32) 2 k_fn_task_32 rfl rfl ?_
        refine tr_iconst (pc := 33) (v := 2) k_fn_task_33 (by decide) ?_
        refine tr_icmp_le (pc := 34) 44 k_fn_task_34 (by decide) (fun q => ?_) (fun q => ?_)
        · replace hv := hv.1 q
          refine tr_aload_n (pc := 44) 0 k_fn_task_44 rfl rfl ?_
          refine tr_getP (pc := 45) k_fn_task_45 fl_fn_35 rfl (Eq.trans rfl (hskh1.1 0 3 _ rfl)) ?_
          refine tr_iload_n (pc := 48) 1 k_fn_task_48 rfl rfl ?_
          refine tr_iload_n (pc := 49) 2 k_fn_task_49 rfl rfl ?_
          refine tr_callV (pc := 50) (d' := d + 5) (mc' := 0) (ms' := 0) [vi x1, vi x2] k_fn_task_50 ca_tl_tell ml_fn_229 ii_tl_tell ⟨by decide, rfl⟩ pa_tl_tell (by omega) (by omega) (by omega) rfl (Nat.le_of_ble_eq_true rfl) (Nat.le_of_ble_eq_true rfl) (Qk := fun v h9 => mT g me_fn_task (d + 6) 0 0 53 [some (vr 0 0), some (vi x1), some (vi x2)] (v.toList ++ []) h9 _) ?_ (fun _ _ z => z)
          show mT g me_tl_tell (d + 5) 0 0 0 [some (vr 4 0), some (vi x1), some (vi x2)] [] h1 _
          refine tr_iload_n (pc := 0) 1 k_tl_tell_0 rfl rfl ?_
          refine tr_if_lt (pc := 1) 21 k_tl_tell_1 (by decide) (fun q => ?_) (fun q => ?_)
          · replace hv := hv.1 q
            refine tr_bipush (pc := 21) (v := -9) k_tl_tell_21 (by decide) ?_
            refine tr_ireturn (pc := 23) k_tl_tell_23 rfl rfl ?_
            show mT g me_fn_task (d + 6) 0 0 53 [some (vr 0 0), some (vi x1), some (vi x2)] [vi (-9 : Int32)] h1 _
            refine tr_ireturn (pc := 53) k_fn_task_53 rfl rfl ?_
            exact hv
          · replace hv := hv.2 q
            refine tr_iload_n (pc := 4) 1 k_tl_tell_4 rfl rfl ?_
            refine tr_aload_n (pc := 5) 0 k_tl_tell_5 rfl rfl ?_
            refine tr_getIx (pc := 6) k_tl_tell_6 fl_tl_35 rfl rfl ?_
            refine tr_icmp_ge (pc := 9) 21 k_tl_tell_9 (by decide) (fun q => ?_) (fun q => ?_)
            · replace hv := hv.1 q
              refine tr_bipush (pc := 21) (v := -9) k_tl_tell_21 (by decide) ?_
              refine tr_ireturn (pc := 23) k_tl_tell_23 rfl rfl ?_
              show mT g me_fn_task (d + 6) 0 0 53 [some (vr 0 0), some (vi x1), some (vi x2)] [vi (-9 : Int32)] h1 _
              refine tr_ireturn (pc := 53) k_fn_task_53 rfl rfl ?_
              exact hv
            · replace hv := hv.2 q
              refine tr_iload_n (pc := 12) 1 k_tl_tell_12 rfl rfl ?_
              refine tr_aload_n (pc := 13) 0 k_tl_tell_13 rfl rfl ?_
              refine tr_getP (pc := 14) k_tl_tell_14 fl_tl_19 rfl (Eq.trans rfl (hskh1.1 4 2 _ rfl)) ?_
              refine tr_alen (pc := 17) (v := 576) (by decide) k_tl_tell_17 (by rw [show hL _ 11 0 = 576 from hskh1.2.1 11 0 _ rfl]; rfl) ?_
              refine tr_icmp_lt (pc := 18) 24 k_tl_tell_18 (by decide) (fun q => ?_) (fun q => ?_)
              · replace hv := hv.1 q
                refine tr_iload_n (pc := 24) 2 k_tl_tell_24 rfl rfl ?_
                refine tr_if_ne (pc := 25) 37 k_tl_tell_25 (by decide) (fun q => ?_) (fun q => ?_)
                · replace hv := hv.1 q
                  refine tr_iload_n (pc := 37) 2 k_tl_tell_37 rfl rfl ?_
                  refine tr_iconst (pc := 38) (v := 1) k_tl_tell_38 (by decide) ?_
                  refine tr_icmp_ne (pc := 39) 51 k_tl_tell_39 (by decide) (fun q => ?_) (fun q => ?_)
                  · replace hv := hv.1 q
                    refine tr_aload_n (pc := 51) 0 k_tl_tell_51 rfl rfl ?_
                    refine tr_getP (pc := 52) k_tl_tell_52 fl_tl_26 rfl (Eq.trans rfl (hskh1.1 4 4 _ rfl)) ?_
                    refine tr_iload_n (pc := 55) 1 k_tl_tell_55 rfl rfl ?_
                    refine tr_ialdx (pc := 56) k_tl_tell_56 (mvin (hskh1.2.1 11 2 _ rfl) hv.1) rfl ?_
                    replace hv := hv.2
                    refine tr_ireturn (pc := 57) k_tl_tell_57 rfl rfl ?_
                    show mT g me_fn_task (d + 6) 0 0 53 [some (vr 0 0), some (vi x1), some (vi x2)] [vi (hI h1 11 2 x1.toNatClampNeg)] h1 _
                    refine tr_ireturn (pc := 53) k_fn_task_53 rfl rfl ?_
                    exact hv
                  · replace hv := hv.2 q
                    refine tr_aload_n (pc := 42) 0 k_tl_tell_42 rfl rfl ?_
                    refine tr_getP (pc := 43) k_tl_tell_43 fl_tl_23 rfl (Eq.trans rfl (hskh1.1 4 3 _ rfl)) ?_
                    refine tr_iload_n (pc := 46) 1 k_tl_tell_46 rfl rfl ?_
                    refine tr_ialdx (pc := 47) k_tl_tell_47 (mvin (hskh1.2.1 11 1 _ rfl) hv.1) rfl ?_
                    replace hv := hv.2
                    refine tr_goto (pc := 48) 57 k_tl_tell_48 (by decide) ?_
                    refine tr_ireturn (pc := 57) k_tl_tell_57 rfl rfl ?_
                    show mT g me_fn_task (d + 6) 0 0 53 [some (vr 0 0), some (vi x1), some (vi x2)] [vi (hI h1 11 1 x1.toNatClampNeg)] h1 _
                    refine tr_ireturn (pc := 53) k_fn_task_53 rfl rfl ?_
                    exact hv
                · replace hv := hv.2 q
                  refine tr_aload_n (pc := 28) 0 k_tl_tell_28 rfl rfl ?_
                  refine tr_getP (pc := 29) k_tl_tell_29 fl_tl_19 rfl (Eq.trans rfl (hskh1.1 4 2 _ rfl)) ?_
                  refine tr_iload_n (pc := 32) 1 k_tl_tell_32 rfl rfl ?_
                  refine tr_ialdx (pc := 33) k_tl_tell_33 (mvin (hskh1.2.1 11 0 _ rfl) hv.1) rfl ?_
                  replace hv := hv.2
                  refine tr_goto (pc := 34) 57 k_tl_tell_34 (by decide) ?_
                  refine tr_ireturn (pc := 57) k_tl_tell_57 rfl rfl ?_
                  show mT g me_fn_task (d + 6) 0 0 53 [some (vr 0 0), some (vi x1), some (vi x2)] [vi (hI h1 11 0 x1.toNatClampNeg)] h1 _
                  refine tr_ireturn (pc := 53) k_fn_task_53 rfl rfl ?_
                  exact hv
              · replace hv := hv.2 q
                refine tr_bipush (pc := 21) (v := -9) k_tl_tell_21 (by decide) ?_
                refine tr_ireturn (pc := 23) k_tl_tell_23 rfl rfl ?_
                show mT g me_fn_task (d + 6) 0 0 53 [some (vr 0 0), some (vi x1), some (vi x2)] [vi (-9 : Int32)] h1 _
                refine tr_ireturn (pc := 53) k_fn_task_53 rfl rfl ?_
                exact hv
        · replace hv := hv.2 q
          refine tr_aload_n (pc := 37) 0 k_fn_task_37 rfl rfl ?_
          refine tr_bipush (pc := 38) (v := -2) k_fn_task_38 (by decide) ?_
          have hT := hv
          clear hv
          refine tr_callV (pc := 40) (d' := d + 5) (mc' := 0) (ms' := 0) [vi (-2 : Int32)] k_fn_task_40 ca_fn_refuse ml_fn_56 ii_fn_refuse ⟨by decide, rfl⟩ pa_fn_refuse (by omega) (by omega) (by omega) rfl (Nat.le_of_ble_eq_true rfl) (Nat.le_of_ble_eq_true rfl) hT (fun v h9 hv => ?_)
          clear hT
          obtain ⟨y7, rfl, hv⟩ := hv
          obtain ⟨h6, eh⟩ : ∃ z, z = h9 := ⟨_, rfl⟩
          subst eh
          obtain ⟨hskh6, hv⟩ := hv
          show mT g me_fn_task (d + 6) 0 0 43 [some (vr 0 0), some (vi x1), some (vi x2)] [vi y7] h6 _
          refine tr_ireturn (pc := 43) k_fn_task_43 rfl rfl ?_
          exact hv
    · replace hv := hv.2 q
      refine tr_aload_n (pc := 22) 0 k_fn_task_22 rfl rfl ?_
      refine tr_iconst (pc := 23) (v := -1) k_fn_task_23 (by decide) ?_
      have hT := hv
      clear hv
      refine tr_callV (pc := 24) (d' := d + 5) (mc' := 0) (ms' := 0) [vi (-1 : Int32)] k_fn_task_24 ca_fn_refuse ml_fn_56 ii_fn_refuse ⟨by decide, rfl⟩ pa_fn_refuse (by omega) (by omega) (by omega) rfl (Nat.le_of_ble_eq_true rfl) (Nat.le_of_ble_eq_true rfl) hT (fun v h9 hv => ?_)
      clear hT
      obtain ⟨y9, rfl, hv⟩ := hv
      obtain ⟨h8, eh⟩ : ∃ z, z = h9 := ⟨_, rfl⟩
      subst eh
      obtain ⟨hskh8, hv⟩ := hv
      show mT g me_fn_task (d + 6) 0 0 27 [some (vr 0 0), some (vi x1), some (vi x2)] [vi y9] h8 _
      refine tr_ireturn (pc := 27) k_fn_task_27 rfl rfl ?_
      exact hv
theorem v_fn_boys_0 {g : mG} {d : Nat}  {h : mH} {Q : Option mV → mH → Prop} (hsk : mSK h) (hv : mT g me_tl_build (d + 5) 0 0 0 [some (vr 4 0), none, none, none, none] [] h (fun v h1 => v = none ∧ mSK h1 ∧ (((hI h1 4 0 7) ≤ (60 : Int32) → mT g me_tl_fewestBoys (d + 5) 0 0 0 [some (vr 4 0), some (vi (hI h1 0 0 6)), none, none, none] [] h1 (fun v h2 => ∃ y3, v = some (vi y3) ∧ mSK h2 ∧ Q (some (vi y3)) h2)) ∧ (¬ (hI h1 4 0 7) ≤ (60 : Int32) → mT g me_fn_refuse (d + 5) 0 0 0 [some (vr 0 0), some (vi (-6 : Int32)), none] [] h1 (fun v h4 => ∃ y5, v = some (vi y5) ∧ mSK h4 ∧ Q (some (vi y5)) h4))))) : mT g me_fn_boys (d + 6) 0 0 0 [some (vr 0 0)] [] h Q := by
  refine tr_aload_n (pc := 0) 0 k_fn_boys_0 rfl rfl ?_
  refine tr_getP (pc := 1) k_fn_boys_1 fl_fn_35 rfl (Eq.trans rfl (hsk.1 0 3 _ rfl)) ?_
  have hT := hv
  clear hv
  refine tr_callV (pc := 4) (d' := d + 5) (mc' := 0) (ms' := 0) [] k_fn_boys_4 ca_tl_build ml_fn_225 ii_tl_build ⟨by decide, rfl⟩ pa_tl_build (by omega) (by omega) (by omega) rfl (Nat.le_of_ble_eq_true rfl) (Nat.le_of_ble_eq_true rfl) hT (fun v h9 hv => ?_)
  clear hT
  obtain ⟨rfl, hv⟩ := hv
  obtain ⟨h1, eh⟩ : ∃ z, z = h9 := ⟨_, rfl⟩
  subst eh
  obtain ⟨hskh1, hv⟩ := hv
  show mT g me_fn_boys (d + 6) 0 0 7 [some (vr 0 0)] [] h1 _
  refine tr_aload_n (pc := 7) 0 k_fn_boys_7 rfl rfl ?_
  refine tr_getP (pc := 8) k_fn_boys_8 fl_fn_35 rfl (Eq.trans rfl (hskh1.1 0 3 _ rfl)) ?_
  refine tr_getIx (pc := 11) k_fn_boys_11 fl_fn_228 rfl rfl ?_
  refine tr_bipush (pc := 14) (v := 60) k_fn_boys_14 (by decide) ?_
  refine tr_icmp_le (pc := 16) 26 k_fn_boys_16 (by decide) (fun q => ?_) (fun q => ?_)
  · replace hv := hv.1 q
    refine tr_aload_n (pc := 26) 0 k_fn_boys_26 rfl rfl ?_
    refine tr_getP (pc := 27) k_fn_boys_27 fl_fn_35 rfl (Eq.trans rfl (hskh1.1 0 3 _ rfl)) ?_
    refine tr_aload_n (pc := 30) 0 k_fn_boys_30 rfl rfl ?_
    refine tr_getIx (pc := 31) k_fn_boys_31 fl_fn_52 rfl rfl ?_
    have hT := hv
    clear hv
    refine tr_callV (pc := 34) (d' := d + 5) (mc' := 0) (ms' := 0) [vi (hI h1 0 0 6)] k_fn_boys_34 ca_tl_fewestBoys ml_fn_232 ii_tl_fewestBoys ⟨by decide, rfl⟩ pa_tl_fewestBoys (by omega) (by omega) (by omega) rfl (Nat.le_of_ble_eq_true rfl) (Nat.le_of_ble_eq_true rfl) hT (fun v h9 hv => ?_)
    clear hT
    obtain ⟨y3, rfl, hv⟩ := hv
    obtain ⟨h2, eh⟩ : ∃ z, z = h9 := ⟨_, rfl⟩
    subst eh
    obtain ⟨hskh2, hv⟩ := hv
    show mT g me_fn_boys (d + 6) 0 0 37 [some (vr 0 0)] [vi y3] h2 _
    refine tr_ireturn (pc := 37) k_fn_boys_37 rfl rfl ?_
    exact hv
  · replace hv := hv.2 q
    refine tr_aload_n (pc := 19) 0 k_fn_boys_19 rfl rfl ?_
    refine tr_bipush (pc := 20) (v := -6) k_fn_boys_20 (by decide) ?_
    have hT := hv
    clear hv
    refine tr_callV (pc := 22) (d' := d + 5) (mc' := 0) (ms' := 0) [vi (-6 : Int32)] k_fn_boys_22 ca_fn_refuse ml_fn_56 ii_fn_refuse ⟨by decide, rfl⟩ pa_fn_refuse (by omega) (by omega) (by omega) rfl (Nat.le_of_ble_eq_true rfl) (Nat.le_of_ble_eq_true rfl) hT (fun v h9 hv => ?_)
    clear hT
    obtain ⟨y5, rfl, hv⟩ := hv
    obtain ⟨h4, eh⟩ : ∃ z, z = h9 := ⟨_, rfl⟩
    subst eh
    obtain ⟨hskh4, hv⟩ := hv
    show mT g me_fn_boys (d + 6) 0 0 25 [some (vr 0 0)] [vi y5] h4 _
    refine tr_ireturn (pc := 25) k_fn_boys_25 rfl rfl ?_
    exact hv
theorem v_tl_fewestBoys_0 {g : mG} {d : Nat} (x1 : Int32) {h : mH} {Q : Option mV → mH → Prop} (hsk : mSK h) (hv : mT g me_tl_fewestBoys (d + 2) 0 0 4 [some (vr 4 0), some (vi x1), some (vi (0 : Int32)), some (vi (0 : Int32)), none] [] h Q) : mT g me_tl_fewestBoys (d + 2) 0 0 0 [some (vr 4 0), some (vi x1), none, none, none] [] h Q := by
  refine tr_iconst (pc := 0) (v := 0) k_tl_fewestBoys_0 (by decide) ?_
  refine tr_istore_n (pc := 1) 2 k_tl_fewestBoys_1 rfl (by decide) rfl ?_
  show mT g me_tl_fewestBoys (d + 2) 0 0 2 [some (vr 4 0), some (vi x1), some (vi (0 : Int32)), none, none] [] h _
  refine tr_iconst (pc := 2) (v := 0) k_tl_fewestBoys_2 (by decide) ?_
  refine tr_istore_n (pc := 3) 3 k_tl_fewestBoys_3 rfl (by decide) rfl ?_
  show mT g me_tl_fewestBoys (d + 2) 0 0 4 [some (vr 4 0), some (vi x1), some (vi (0 : Int32)), some (vi (0 : Int32)), none] [] h _
  exact hv
theorem v_tl_fewestBoys_4 {g : mG} {d : Nat} (x1 : Int32) (x2 : Int32) (x3 : Int32) (o4 : Option mV) {h : mH} {Q : Option mV → mH → Prop} (hsk : mSK h) (hv : (((30 : Int32) ≤ x3 → Q (some (vi x2)) h) ∧ (¬ (30 : Int32) ≤ x3 → mT g me_tl_fewestBoys (d + 2) 0 0 13 [some (vr 4 0), some (vi x1), some (vi x2), some (vi x3), some (vi (0 : Int32))] [] h Q))) : mT g me_tl_fewestBoys (d + 2) 0 0 4 [some (vr 4 0), some (vi x1), some (vi x2), some (vi x3), o4] [] h Q := by
  refine tr_iload_n (pc := 4) 3 k_tl_fewestBoys_4 rfl rfl ?_
  refine tr_bipush (pc := 5) (v := 30) k_tl_fewestBoys_5 (by decide) ?_
  refine tr_icmp_ge (pc := 7) 83 k_tl_fewestBoys_7 (by decide) (fun q => ?_) (fun q => ?_)
  · replace hv := hv.1 q
    refine tr_iload_n (pc := 83) 2 k_tl_fewestBoys_83 rfl rfl ?_
    refine tr_ireturn (pc := 84) k_tl_fewestBoys_84 rfl rfl ?_
    exact hv
  · replace hv := hv.2 q
    refine tr_iconst (pc := 10) (v := 0) k_tl_fewestBoys_10 (by decide) ?_
    refine tr_istore (pc := 11) k_tl_fewestBoys_11 (by decide) rfl ?_
    show mT g me_tl_fewestBoys (d + 2) 0 0 13 [some (vr 4 0), some (vi x1), some (vi x2), some (vi x3), some (vi (0 : Int32))] [] h _
    exact hv
theorem v_tl_fewestBoys_13 {g : mG} {d : Nat} (x1 : Int32) (x2 : Int32) (x3 : Int32) (x4 : Int32) {h : mH} {Q : Option mV → mH → Prop} (hsk : mSK h) (hv : (((hI h 4 0 7) ≤ x4 → mT g me_tl_fewestBoys (d + 2) 0 0 4 [some (vr 4 0), some (vi x1), some (vi x2), some (vi (x3 + 1)), some (vi x4)] [] h Q) ∧ (¬ (hI h 4 0 7) ≤ x4 → (((576 : Int32) ≤ x4 → mT g me_tl_fewestBoys (d + 2) 0 0 4 [some (vr 4 0), some (vi x1), some (vi x2), some (vi (x3 + 1)), some (vi x4)] [] h Q) ∧ (¬ (576 : Int32) ≤ x4 → (vp_in x4 576 ∧ ((¬ (hI h 11 3 x4.toNatClampNeg) = x3 → mT g me_tl_fewestBoys (d + 2) 0 0 13 [some (vr 4 0), some (vi x1), some (vi x2), some (vi x3), some (vi (x4 + 1))] [] h Q) ∧ ((hI h 11 3 x4.toNatClampNeg) = x3 → mT g me_tl_mostApartAhead (d + 1) 0 0 0 [some (vr 4 0), some (vi x4), some (vi x1), none, none, none] [] h (fun v h1 => ∃ y2, v = some (vi y2) ∧ mSK h1 ∧ (vp_in x4 576 ∧ (vp_in x4 576 ∧ mT g me_tl_fewestBoys (d + 2) 0 0 13 [some (vr 4 0), some (vi x1), some (vi (if x2 < ((1 : Int32) + y2) then ((1 : Int32) + y2) else x2)), some (vi x3), some (vi (x4 + 1))] [] (setI h1 11 4 x4.toNatClampNeg ((1 : Int32) + y2)) Q))))))))))) : mT g me_tl_fewestBoys (d + 2) 0 0 13 [some (vr 4 0), some (vi x1), some (vi x2), some (vi x3), some (vi x4)] [] h Q := by
  refine tr_iload (pc := 13) k_tl_fewestBoys_13 rfl ?_
  refine tr_aload_n (pc := 15) 0 k_tl_fewestBoys_15 rfl rfl ?_
  refine tr_getIx (pc := 16) k_tl_fewestBoys_16 fl_tl_35 rfl rfl ?_
  refine tr_icmp_ge (pc := 19) 77 k_tl_fewestBoys_19 (by decide) (fun q => ?_) (fun q => ?_)
  · replace hv := hv.1 q
    refine tr_iinc (pc := 77) (v := (x3 + 1)) k_tl_fewestBoys_77 rfl rfl (by decide) rfl ?_
    show mT g me_tl_fewestBoys (d + 2) 0 0 80 [some (vr 4 0), some (vi x1), some (vi x2), some (vi (x3 + 1)), some (vi x4)] [] h _
    refine tr_goto (pc := 80) 4 k_tl_fewestBoys_80 (by decide) ?_
    exact hv
  · replace hv := hv.2 q
    refine tr_iload (pc := 22) k_tl_fewestBoys_22 rfl ?_
    refine tr_aload_n (pc := 24) 0 k_tl_fewestBoys_24 rfl rfl ?_
    refine tr_getP (pc := 25) k_tl_fewestBoys_25 fl_tl_32 rfl (Eq.trans rfl (hsk.1 4 6 _ rfl)) ?_
    refine tr_alen (pc := 28) (v := 576) (by decide) k_tl_fewestBoys_28 (by rw [show hL _ 11 4 = 576 from hsk.2.1 11 4 _ rfl]; rfl) ?_
    refine tr_icmp_ge (pc := 29) 77 k_tl_fewestBoys_29 (by decide) (fun q => ?_) (fun q => ?_)
    · replace hv := hv.1 q
      refine tr_iinc (pc := 77) (v := (x3 + 1)) k_tl_fewestBoys_77 rfl rfl (by decide) rfl ?_
      show mT g me_tl_fewestBoys (d + 2) 0 0 80 [some (vr 4 0), some (vi x1), some (vi x2), some (vi (x3 + 1)), some (vi x4)] [] h _
      refine tr_goto (pc := 80) 4 k_tl_fewestBoys_80 (by decide) ?_
      exact hv
    · replace hv := hv.2 q
      refine tr_aload_n (pc := 32) 0 k_tl_fewestBoys_32 rfl rfl ?_
      refine tr_getP (pc := 33) k_tl_fewestBoys_33 fl_tl_29 rfl (Eq.trans rfl (hsk.1 4 5 _ rfl)) ?_
      refine tr_iload (pc := 36) k_tl_fewestBoys_36 rfl ?_
      refine tr_ialdx (pc := 38) k_tl_fewestBoys_38 (mvin (hsk.2.1 11 3 _ rfl) hv.1) rfl ?_
      replace hv := hv.2
      refine tr_iload_n (pc := 39) 3 k_tl_fewestBoys_39 rfl rfl ?_
      refine tr_icmp_ne (pc := 40) 71 k_tl_fewestBoys_40 (by decide) (fun q => ?_) (fun q => ?_)
      · replace hv := hv.1 q
        refine tr_iinc (pc := 71) (v := (x4 + 1)) k_tl_fewestBoys_71 rfl rfl (by decide) rfl ?_
        show mT g me_tl_fewestBoys (d + 2) 0 0 74 [some (vr 4 0), some (vi x1), some (vi x2), some (vi x3), some (vi (x4 + 1))] [] h _
        refine tr_goto (pc := 74) 13 k_tl_fewestBoys_74 (by decide) ?_
        exact hv
      · replace hv := hv.2 q
        refine tr_aload_n (pc := 43) 0 k_tl_fewestBoys_43 rfl rfl ?_
        refine tr_getP (pc := 44) k_tl_fewestBoys_44 fl_tl_32 rfl (Eq.trans rfl (hsk.1 4 6 _ rfl)) ?_
        refine tr_iload (pc := 47) k_tl_fewestBoys_47 rfl ?_
        refine tr_iconst (pc := 49) (v := 1) k_tl_fewestBoys_49 (by decide) ?_
        refine tr_aload_n (pc := 50) 0 k_tl_fewestBoys_50 rfl rfl ?_
        refine tr_iload (pc := 51) k_tl_fewestBoys_51 rfl ?_
        refine tr_iload_n (pc := 53) 1 k_tl_fewestBoys_53 rfl rfl ?_
        have hT := hv
        clear hv
        refine tr_callV (pc := 54) (d' := d + 1) (mc' := 0) (ms' := 0) [vi x4, vi x1] k_tl_fewestBoys_54 ca_tl_mostApartAhead ml_tl_83 ii_tl_mostApartAhead ⟨by decide, rfl⟩ pa_tl_mostApartAhead (by omega) (by omega) (by omega) rfl (Nat.le_of_ble_eq_true rfl) (Nat.le_of_ble_eq_true rfl) hT (fun v h9 hv => ?_)
        clear hT
        obtain ⟨y2, rfl, hv⟩ := hv
        obtain ⟨h1, eh⟩ : ∃ z, z = h9 := ⟨_, rfl⟩
        subst eh
        obtain ⟨hskh1, hv⟩ := hv
        show mT g me_tl_fewestBoys (d + 2) 0 0 57 [some (vr 4 0), some (vi x1), some (vi x2), some (vi x3), some (vi x4)] [vi y2, vi (1 : Int32), vi x4, vr 11 4] h1 _
        refine tr_iadd (pc := 57) k_tl_fewestBoys_57 ?_
        refine tr_iast (pc := 58) k_tl_fewestBoys_58 (mvin (hskh1.2.1 11 4 _ rfl) hv.1) ?_
        replace hv := hv.2
        refine tr_iload_n (pc := 59) 2 k_tl_fewestBoys_59 rfl rfl ?_
        refine tr_aload_n (pc := 60) 0 k_tl_fewestBoys_60 rfl rfl ?_
        refine tr_getP (pc := 61) k_tl_fewestBoys_61 fl_tl_32 rfl (Eq.trans (hP_setI) (hskh1.1 4 6 _ rfl)) ?_
        refine tr_iload (pc := 64) k_tl_fewestBoys_64 rfl ?_
        refine tr_ialdx (pc := 66) k_tl_fewestBoys_66 (mvin (hskh1.2.1 11 4 _ rfl) hv.1) (hI_eq) ?_
        replace hv := hv.2
        refine tr_max (pc := 67) k_tl_fewestBoys_67 ml_tl_87 (by omega) (Nat.le_of_ble_eq_true rfl) ?_
        refine tr_istore_n (pc := 70) 2 k_tl_fewestBoys_70 rfl (by decide) rfl ?_
        show mT g me_tl_fewestBoys (d + 2) 0 0 71 [some (vr 4 0), some (vi x1), some (vi (if x2 < ((1 : Int32) + y2) then ((1 : Int32) + y2) else x2)), some (vi x3), some (vi x4)] [] (setI h1 11 4 x4.toNatClampNeg ((1 : Int32) + y2)) _
        refine tr_iinc (pc := 71) (v := (x4 + 1)) k_tl_fewestBoys_71 rfl rfl (by decide) rfl ?_
        show mT g me_tl_fewestBoys (d + 2) 0 0 74 [some (vr 4 0), some (vi x1), some (vi (if x2 < ((1 : Int32) + y2) then ((1 : Int32) + y2) else x2)), some (vi x3), some (vi (x4 + 1))] [] (setI h1 11 4 x4.toNatClampNeg ((1 : Int32) + y2)) _
        refine tr_goto (pc := 74) 13 k_tl_fewestBoys_74 (by decide) ?_
        exact hv
theorem v_tl_mostApartAhead_0 {g : mG} {d : Nat} (x1 : Int32) (x2 : Int32) {h : mH} {Q : Option mV → mH → Prop} (hsk : mSK h) (hv : ((x1 < 0 → Q (some (vi (0 : Int32))) h) ∧ (¬ x1 < 0 → ((x1 < (576 : Int32) → mT g me_tl_mostApartAhead (d + 1) 0 0 20 [some (vr 4 0), some (vi x1), some (vi x2), some (vi (0 : Int32)), some (vi (0 : Int32)), none] [] h Q) ∧ (¬ x1 < (576 : Int32) → Q (some (vi (0 : Int32))) h))))) : mT g me_tl_mostApartAhead (d + 1) 0 0 0 [some (vr 4 0), some (vi x1), some (vi x2), none, none, none] [] h Q := by
  refine tr_iload_n (pc := 0) 1 k_tl_mostApartAhead_0 rfl rfl ?_
  refine tr_if_lt (pc := 1) 13 k_tl_mostApartAhead_1 (by decide) (fun q => ?_) (fun q => ?_)
  · replace hv := hv.1 q
    refine tr_iconst (pc := 13) (v := 0) k_tl_mostApartAhead_13 (by decide) ?_
    refine tr_ireturn (pc := 14) k_tl_mostApartAhead_14 rfl rfl ?_
    exact hv
  · replace hv := hv.2 q
    refine tr_iload_n (pc := 4) 1 k_tl_mostApartAhead_4 rfl rfl ?_
    refine tr_aload_n (pc := 5) 0 k_tl_mostApartAhead_5 rfl rfl ?_
    refine tr_getP (pc := 6) k_tl_mostApartAhead_6 fl_tl_32 rfl (Eq.trans rfl (hsk.1 4 6 _ rfl)) ?_
    refine tr_alen (pc := 9) (v := 576) (by decide) k_tl_mostApartAhead_9 (by rw [show hL _ 11 4 = 576 from hsk.2.1 11 4 _ rfl]; rfl) ?_
    refine tr_icmp_lt (pc := 10) 15 k_tl_mostApartAhead_10 (by decide) (fun q => ?_) (fun q => ?_)
    · replace hv := hv.1 q
      refine tr_iconst (pc := 15) (v := 0) k_tl_mostApartAhead_15 (by decide) ?_
      refine tr_istore_n (pc := 16) 3 k_tl_mostApartAhead_16 rfl (by decide) rfl ?_
      show mT g me_tl_mostApartAhead (d + 1) 0 0 17 [some (vr 4 0), some (vi x1), some (vi x2), some (vi (0 : Int32)), none, none] [] h _
      refine tr_iconst (pc := 17) (v := 0) k_tl_mostApartAhead_17 (by decide) ?_
      refine tr_istore (pc := 18) k_tl_mostApartAhead_18 (by decide) rfl ?_
      show mT g me_tl_mostApartAhead (d + 1) 0 0 20 [some (vr 4 0), some (vi x1), some (vi x2), some (vi (0 : Int32)), some (vi (0 : Int32)), none] [] h _
      exact hv
    · replace hv := hv.2 q
      refine tr_iconst (pc := 13) (v := 0) k_tl_mostApartAhead_13 (by decide) ?_
      refine tr_ireturn (pc := 14) k_tl_mostApartAhead_14 rfl rfl ?_
      exact hv
theorem v_tl_mostApartAhead_20 {g : mG} {d : Nat} (x1 : Int32) (x2 : Int32) (x3 : Int32) (x4 : Int32) (o5 : Option mV) {h : mH} {Q : Option mV → mH → Prop} (hsk : mSK h) (hv : (((hI h 4 0 7) ≤ x4 → Q (some (vi x3)) h) ∧ (¬ (hI h 4 0 7) ≤ x4 → (((576 : Int32) ≤ x4 → Q (some (vi x3)) h) ∧ (¬ (576 : Int32) ≤ x4 → (vp_in x1 576 ∧ (vp_in x4 576 ∧ (vp_in x1 576 ∧ (vp_in x4 576 ∧ (((((hI h 11 3 x1.toNatClampNeg) - (hI h 11 3 x4.toNatClampNeg)) * x2) ≤ (if 0 ≤ ((hI h 11 0 x1.toNatClampNeg) - (hI h 11 0 x4.toNatClampNeg)) then ((hI h 11 0 x1.toNatClampNeg) - (hI h 11 0 x4.toNatClampNeg)) else 0 - ((hI h 11 0 x1.toNatClampNeg) - (hI h 11 0 x4.toNatClampNeg))) → mT g me_tl_mostApartAhead (d + 1) 0 0 20 [some (vr 4 0), some (vi x1), some (vi x2), some (vi x3), some (vi (x4 + 1)), some (vi (((hI h 11 3 x1.toNatClampNeg) - (hI h 11 3 x4.toNatClampNeg)) * x2))] [] h Q) ∧ (¬ (((hI h 11 3 x1.toNatClampNeg) - (hI h 11 3 x4.toNatClampNeg)) * x2) ≤ (if 0 ≤ ((hI h 11 0 x1.toNatClampNeg) - (hI h 11 0 x4.toNatClampNeg)) then ((hI h 11 0 x1.toNatClampNeg) - (hI h 11 0 x4.toNatClampNeg)) else 0 - ((hI h 11 0 x1.toNatClampNeg) - (hI h 11 0 x4.toNatClampNeg))) → (vp_in x4 576 ∧ mT g me_tl_mostApartAhead (d + 1) 0 0 20 [some (vr 4 0), some (vi x1), some (vi x2), some (vi (if x3 < (hI h 11 4 x4.toNatClampNeg) then (hI h 11 4 x4.toNatClampNeg) else x3)), some (vi (x4 + 1)), some (vi (((hI h 11 3 x1.toNatClampNeg) - (hI h 11 3 x4.toNatClampNeg)) * x2))] [] h Q)))))))))))) : mT g me_tl_mostApartAhead (d + 1) 0 0 20 [some (vr 4 0), some (vi x1), some (vi x2), some (vi x3), some (vi x4), o5] [] h Q := by
  refine tr_iload (pc := 20) k_tl_mostApartAhead_20 rfl ?_
  refine tr_aload_n (pc := 22) 0 k_tl_mostApartAhead_22 rfl rfl ?_
  refine tr_getIx (pc := 23) k_tl_mostApartAhead_23 fl_tl_35 rfl rfl ?_
  refine tr_icmp_ge (pc := 26) 97 k_tl_mostApartAhead_26 (by decide) (fun q => ?_) (fun q => ?_)
  · replace hv := hv.1 q
    refine tr_iload_n (pc := 97) 3 k_tl_mostApartAhead_97 rfl rfl ?_
    refine tr_ireturn (pc := 98) k_tl_mostApartAhead_98 rfl rfl ?_
    exact hv
  · replace hv := hv.2 q
    refine tr_iload (pc := 29) k_tl_mostApartAhead_29 rfl ?_
    refine tr_aload_n (pc := 31) 0 k_tl_mostApartAhead_31 rfl rfl ?_
    refine tr_getP (pc := 32) k_tl_mostApartAhead_32 fl_tl_32 rfl (Eq.trans rfl (hsk.1 4 6 _ rfl)) ?_
    refine tr_alen (pc := 35) (v := 576) (by decide) k_tl_mostApartAhead_35 (by rw [show hL _ 11 4 = 576 from hsk.2.1 11 4 _ rfl]; rfl) ?_
    refine tr_icmp_ge (pc := 36) 97 k_tl_mostApartAhead_36 (by decide) (fun q => ?_) (fun q => ?_)
    · replace hv := hv.1 q
      refine tr_iload_n (pc := 97) 3 k_tl_mostApartAhead_97 rfl rfl ?_
      refine tr_ireturn (pc := 98) k_tl_mostApartAhead_98 rfl rfl ?_
      exact hv
    · replace hv := hv.2 q
      refine tr_aload_n (pc := 39) 0 k_tl_mostApartAhead_39 rfl rfl ?_
      refine tr_getP (pc := 40) k_tl_mostApartAhead_40 fl_tl_29 rfl (Eq.trans rfl (hsk.1 4 5 _ rfl)) ?_
      refine tr_iload_n (pc := 43) 1 k_tl_mostApartAhead_43 rfl rfl ?_
      refine tr_ialdx (pc := 44) k_tl_mostApartAhead_44 (mvin (hsk.2.1 11 3 _ rfl) hv.1) rfl ?_
      replace hv := hv.2
      refine tr_aload_n (pc := 45) 0 k_tl_mostApartAhead_45 rfl rfl ?_
      refine tr_getP (pc := 46) k_tl_mostApartAhead_46 fl_tl_29 rfl (Eq.trans rfl (hsk.1 4 5 _ rfl)) ?_
      refine tr_iload (pc := 49) k_tl_mostApartAhead_49 rfl ?_
      refine tr_ialdx (pc := 51) k_tl_mostApartAhead_51 (mvin (hsk.2.1 11 3 _ rfl) hv.1) rfl ?_
      replace hv := hv.2
      refine tr_isub (pc := 52) k_tl_mostApartAhead_52 ?_
      refine tr_iload_n (pc := 53) 2 k_tl_mostApartAhead_53 rfl rfl ?_
      refine tr_imul (pc := 54) k_tl_mostApartAhead_54 ?_
      refine tr_istore (pc := 55) k_tl_mostApartAhead_55 (by decide) rfl ?_
      show mT g me_tl_mostApartAhead (d + 1) 0 0 57 [some (vr 4 0), some (vi x1), some (vi x2), some (vi x3), some (vi x4), some (vi (((hI h 11 3 x1.toNatClampNeg) - (hI h 11 3 x4.toNatClampNeg)) * x2))] [] h _
      refine tr_aload_n (pc := 57) 0 k_tl_mostApartAhead_57 rfl rfl ?_
      refine tr_getP (pc := 58) k_tl_mostApartAhead_58 fl_tl_19 rfl (Eq.trans rfl (hsk.1 4 2 _ rfl)) ?_
      refine tr_iload_n (pc := 61) 1 k_tl_mostApartAhead_61 rfl rfl ?_
      refine tr_ialdx (pc := 62) k_tl_mostApartAhead_62 (mvin (hsk.2.1 11 0 _ rfl) hv.1) rfl ?_
      replace hv := hv.2
      refine tr_aload_n (pc := 63) 0 k_tl_mostApartAhead_63 rfl rfl ?_
      refine tr_getP (pc := 64) k_tl_mostApartAhead_64 fl_tl_19 rfl (Eq.trans rfl (hsk.1 4 2 _ rfl)) ?_
      refine tr_iload (pc := 67) k_tl_mostApartAhead_67 rfl ?_
      refine tr_ialdx (pc := 69) k_tl_mostApartAhead_69 (mvin (hsk.2.1 11 0 _ rfl) hv.1) rfl ?_
      replace hv := hv.2
      refine tr_isub (pc := 70) k_tl_mostApartAhead_70 ?_
      refine tr_abs (pc := 71) k_tl_mostApartAhead_71 ml_tl_92 (by omega) (Nat.le_of_ble_eq_true rfl) ?_
      refine tr_iload (pc := 74) k_tl_mostApartAhead_74 rfl ?_
      refine tr_icmp_ge (pc := 76) 91 k_tl_mostApartAhead_76 (by decide) (fun q => ?_) (fun q => ?_)
      · replace hv := hv.1 q
        refine tr_iinc (pc := 91) (v := (x4 + 1)) k_tl_mostApartAhead_91 rfl rfl (by decide) rfl ?_
        show mT g me_tl_mostApartAhead (d + 1) 0 0 94 [some (vr 4 0), some (vi x1), some (vi x2), some (vi x3), some (vi (x4 + 1)), some (vi (((hI h 11 3 x1.toNatClampNeg) - (hI h 11 3 x4.toNatClampNeg)) * x2))] [] h _
        refine tr_goto (pc := 94) 20 k_tl_mostApartAhead_94 (by decide) ?_
        exact hv
      · replace hv := hv.2 q
        refine tr_iload_n (pc := 79) 3 k_tl_mostApartAhead_79 rfl rfl ?_
        refine tr_aload_n (pc := 80) 0 k_tl_mostApartAhead_80 rfl rfl ?_
        refine tr_getP (pc := 81) k_tl_mostApartAhead_81 fl_tl_32 rfl (Eq.trans rfl (hsk.1 4 6 _ rfl)) ?_
        refine tr_iload (pc := 84) k_tl_mostApartAhead_84 rfl ?_
        refine tr_ialdx (pc := 86) k_tl_mostApartAhead_86 (mvin (hsk.2.1 11 4 _ rfl) hv.1) rfl ?_
        replace hv := hv.2
        refine tr_max (pc := 87) k_tl_mostApartAhead_87 ml_tl_87 (by omega) (Nat.le_of_ble_eq_true rfl) ?_
        refine tr_istore_n (pc := 90) 3 k_tl_mostApartAhead_90 rfl (by decide) rfl ?_
        show mT g me_tl_mostApartAhead (d + 1) 0 0 91 [some (vr 4 0), some (vi x1), some (vi x2), some (vi (if x3 < (hI h 11 4 x4.toNatClampNeg) then (hI h 11 4 x4.toNatClampNeg) else x3)), some (vi x4), some (vi (((hI h 11 3 x1.toNatClampNeg) - (hI h 11 3 x4.toNatClampNeg)) * x2))] [] h _
        refine tr_iinc (pc := 91) (v := (x4 + 1)) k_tl_mostApartAhead_91 rfl rfl (by decide) rfl ?_
        show mT g me_tl_mostApartAhead (d + 1) 0 0 94 [some (vr 4 0), some (vi x1), some (vi x2), some (vi (if x3 < (hI h 11 4 x4.toNatClampNeg) then (hI h 11 4 x4.toNatClampNeg) else x3)), some (vi (x4 + 1)), some (vi (((hI h 11 3 x1.toNatClampNeg) - (hI h 11 3 x4.toNatClampNeg)) * x2))] [] h _
        refine tr_goto (pc := 94) 20 k_tl_mostApartAhead_94 (by decide) ?_
        exact hv
theorem v_fn_gauge_0 {g : mG} {d : Nat} (x1 : Int32) (x2 : Int32) {h : mH} {Q : Option mV → mH → Prop} (hsk : mSK h) (hv : mT g me_ga_jetAt (d + 4) 0 0 0 [some (vr 1 0), some (vi x1)] [] h (fun v h1 => ∃ p2, v = some (vp p2) ∧ mSK h1 ∧ ((p2 = none → mT g me_fn_refuse (d + 3) 0 0 0 [some (vr 0 0), some (vi (-1 : Int32)), none] [] h1 (fun v h4 => ∃ y5, v = some (vi y5) ∧ mSK h4 ∧ Q (some (vi ((1000000000 : Int32) - y5))) h4)) ∧ (∀ kq n3, p2 = some (kq, n3) → kq = 8 ∧ (((-1 : Int32) ≤ x2 → ((x2 ≤ (500 : Int32) → Q (some (vi (hI h1 8 n3 4))) (setI h1 8 n3 4 x2)) ∧ (¬ x2 ≤ (500 : Int32) → mT g me_fn_refuse (d + 3) 0 0 0 [some (vr 0 0), some (vi (-6 : Int32)), none] [] h1 (fun v h6 => ∃ y7, v = some (vi y7) ∧ mSK h6 ∧ Q (some (vi ((1000000000 : Int32) - y7))) h6)))) ∧ (¬ (-1 : Int32) ≤ x2 → mT g me_fn_refuse (d + 3) 0 0 0 [some (vr 0 0), some (vi (-4 : Int32)), none] [] h1 (fun v h8 => ∃ y9, v = some (vi y9) ∧ mSK h8 ∧ Q (some (vi ((1000000000 : Int32) - y9))) h8))))))) : mT g me_fn_gauge (d + 5) 0 0 0 [some (vr 0 0), some (vi x1), some (vi x2), none, none] [] h Q := by
  refine tr_aload_n (pc := 0) 0 k_fn_gauge_0 rfl rfl ?_
  refine tr_getP (pc := 1) k_fn_gauge_1 fl_fn_12 rfl (Eq.trans rfl (hsk.1 0 0 _ rfl)) ?_
  refine tr_iload_n (pc := 4) 1 k_fn_gauge_4 rfl rfl ?_
  have hT := hv
  clear hv
  refine tr_callV (pc := 5) (d' := d + 4) (mc' := 0) (ms' := 0) [vi x1] k_fn_gauge_5 ca_ga_jetAt ml_fn_121 ii_ga_jetAt ⟨by decide, rfl⟩ pa_ga_jetAt (by omega) (by omega) (by omega) rfl (Nat.le_of_ble_eq_true rfl) (Nat.le_of_ble_eq_true rfl) hT (fun v h9 hv => ?_)
  clear hT
  obtain ⟨p2, rfl, hv⟩ := hv
  obtain ⟨h1, eh⟩ : ∃ z, z = h9 := ⟨_, rfl⟩
  subst eh
  obtain ⟨hskh1, hv⟩ := hv
  show mT g me_fn_gauge (d + 5) 0 0 8 [some (vr 0 0), some (vi x1), some (vi x2), none, none] [vp p2] h1 _
  refine tr_astore_n (pc := 8) 3 k_fn_gauge_8 rfl (by decide) rfl ?_
  show mT g me_fn_gauge (d + 5) 0 0 9 [some (vr 0 0), some (vi x1), some (vi x2), some (vp p2), none] [] h1 _
  refine tr_aload_n (pc := 9) 3 k_fn_gauge_9 rfl rfl ?_
  rcases p2 with _ | ⟨kq, n3⟩
  · replace hv := hv.1 rfl
    refine tr_ifnonnull (pc := 10) 19 k_fn_gauge_10 (by decide) (fun _ => ?_) (fun _ _ q => by cases q)
    refine tr_aload_n (pc := 13) 0 k_fn_gauge_13 rfl rfl ?_
    refine tr_iconst (pc := 14) (v := -1) k_fn_gauge_14 (by decide) ?_
    refine tr_callV (pc := 15) (d' := d + 4) (mc' := 0) (ms' := 0) [vi (-1 : Int32)] k_fn_gauge_15 ca_fn_refuseAsTold ml_fn_150 ii_fn_refuseAsTold ⟨by decide, rfl⟩ pa_fn_refuseAsTold (by omega) (by omega) (by omega) rfl (Nat.le_of_ble_eq_true rfl) (Nat.le_of_ble_eq_true rfl) (Qk := fun v h9 => mT g me_fn_gauge (d + 5) 0 0 18 [some (vr 0 0), some (vi x1), some (vi x2), some (vn), none] (v.toList ++ []) h9 _) ?_ (fun _ _ z => z)
    show mT g me_fn_refuseAsTold (d + 4) 0 0 0 [some (vr 0 0), some (vi (-1 : Int32))] [] h1 _
    refine tr_ldcw (pc := 0) (v := 1000000000) k_fn_refuseAsTold_0 co_fn_307 ?_
    refine tr_aload_n (pc := 3) 0 k_fn_refuseAsTold_3 rfl rfl ?_
    refine tr_iload_n (pc := 4) 1 k_fn_refuseAsTold_4 rfl rfl ?_
    have hT := hv
    clear hv
    refine tr_callV (pc := 5) (d' := d + 3) (mc' := 0) (ms' := 0) [vi (-1 : Int32)] k_fn_refuseAsTold_5 ca_fn_refuse ml_fn_56 ii_fn_refuse ⟨by decide, rfl⟩ pa_fn_refuse (by omega) (by omega) (by omega) rfl (Nat.le_of_ble_eq_true rfl) (Nat.le_of_ble_eq_true rfl) hT (fun v h9 hv => ?_)
    clear hT
    obtain ⟨y5, rfl, hv⟩ := hv
    obtain ⟨h4, eh⟩ : ∃ z, z = h9 := ⟨_, rfl⟩
    subst eh
    obtain ⟨hskh4, hv⟩ := hv
    show mT g me_fn_refuseAsTold (d + 4) 0 0 8 [some (vr 0 0), some (vi (-1 : Int32))] [vi y5, vi (1000000000 : Int32)] h4 _
    refine tr_isub (pc := 8) k_fn_refuseAsTold_8 ?_
    refine tr_ireturn (pc := 9) k_fn_refuseAsTold_9 rfl rfl ?_
    show mT g me_fn_gauge (d + 5) 0 0 18 [some (vr 0 0), some (vi x1), some (vi x2), some (vn), none] [vi ((1000000000 : Int32) - y5)] h4 _
    refine tr_ireturn (pc := 18) k_fn_gauge_18 rfl rfl ?_
    exact hv
  · have hw := hv.2 kq n3 rfl
    clear hv
    obtain ⟨tq, hv⟩ := hw
    subst tq
    refine tr_ifnonnull (pc := 10) 19 k_fn_gauge_10 (by decide) (fun q => by cases q) (fun _ _ _ => ?_)
    refine tr_iload_n (pc := 19) 2 k_fn_gauge_19 rfl rfl ?_
    refine tr_iconst (pc := 20) (v := -1) k_fn_gauge_20 (by decide) ?_
    refine tr_icmp_ge (pc := 21) 31 k_fn_gauge_21 (by decide) (fun q => ?_) (fun q => ?_)
    · replace hv := hv.1 q
      refine tr_iload_n (pc := 31) 2 k_fn_gauge_31 rfl rfl ?_
      refine tr_sipush (pc := 32) (v := 500) k_fn_gauge_32 (by decide) ?_
      refine tr_icmp_le (pc := 35) 45 k_fn_gauge_35 (by decide) (fun q => ?_) (fun q => ?_)
      · replace hv := hv.1 q
        refine tr_aload_n (pc := 45) 3 k_fn_gauge_45 rfl rfl ?_
        refine tr_getIx (pc := 46) k_fn_gauge_46 fl_fn_235 rfl rfl ?_
        refine tr_istore (pc := 49) k_fn_gauge_49 (by decide) rfl ?_
        show mT g me_fn_gauge (d + 5) 0 0 51 [some (vr 0 0), some (vi x1), some (vi x2), some (vr 8 n3), some (vi (hI h1 8 n3 4))] [] h1 _
        refine tr_aload_n (pc := 51) 3 k_fn_gauge_51 rfl rfl ?_
        refine tr_iload_n (pc := 52) 2 k_fn_gauge_52 rfl rfl ?_
        refine tr_putI (pc := 53) k_fn_gauge_53 fl_fn_235 (Or.inl rfl) rfl ⟨rfl, rfl⟩ ?_
        refine tr_iload (pc := 56) k_fn_gauge_56 rfl ?_
        refine tr_ireturn (pc := 58) k_fn_gauge_58 rfl rfl ?_
        exact hv
      · replace hv := hv.2 q
        refine tr_aload_n (pc := 38) 0 k_fn_gauge_38 rfl rfl ?_
        refine tr_bipush (pc := 39) (v := -6) k_fn_gauge_39 (by decide) ?_
        refine tr_callV (pc := 41) (d' := d + 4) (mc' := 0) (ms' := 0) [vi (-6 : Int32)] k_fn_gauge_41 ca_fn_refuseAsTold ml_fn_150 ii_fn_refuseAsTold ⟨by decide, rfl⟩ pa_fn_refuseAsTold (by omega) (by omega) (by omega) rfl (Nat.le_of_ble_eq_true rfl) (Nat.le_of_ble_eq_true rfl) (Qk := fun v h9 => mT g me_fn_gauge (d + 5) 0 0 44 [some (vr 0 0), some (vi x1), some (vi x2), some (vr 8 n3), none] (v.toList ++ []) h9 _) ?_ (fun _ _ z => z)
        show mT g me_fn_refuseAsTold (d + 4) 0 0 0 [some (vr 0 0), some (vi (-6 : Int32))] [] h1 _
        refine tr_ldcw (pc := 0) (v := 1000000000) k_fn_refuseAsTold_0 co_fn_307 ?_
        refine tr_aload_n (pc := 3) 0 k_fn_refuseAsTold_3 rfl rfl ?_
        refine tr_iload_n (pc := 4) 1 k_fn_refuseAsTold_4 rfl rfl ?_
        have hT := hv
        clear hv
        refine tr_callV (pc := 5) (d' := d + 3) (mc' := 0) (ms' := 0) [vi (-6 : Int32)] k_fn_refuseAsTold_5 ca_fn_refuse ml_fn_56 ii_fn_refuse ⟨by decide, rfl⟩ pa_fn_refuse (by omega) (by omega) (by omega) rfl (Nat.le_of_ble_eq_true rfl) (Nat.le_of_ble_eq_true rfl) hT (fun v h9 hv => ?_)
        clear hT
        obtain ⟨y7, rfl, hv⟩ := hv
        obtain ⟨h6, eh⟩ : ∃ z, z = h9 := ⟨_, rfl⟩
        subst eh
        obtain ⟨hskh6, hv⟩ := hv
        show mT g me_fn_refuseAsTold (d + 4) 0 0 8 [some (vr 0 0), some (vi (-6 : Int32))] [vi y7, vi (1000000000 : Int32)] h6 _
        refine tr_isub (pc := 8) k_fn_refuseAsTold_8 ?_
        refine tr_ireturn (pc := 9) k_fn_refuseAsTold_9 rfl rfl ?_
        show mT g me_fn_gauge (d + 5) 0 0 44 [some (vr 0 0), some (vi x1), some (vi x2), some (vr 8 n3), none] [vi ((1000000000 : Int32) - y7)] h6 _
        refine tr_ireturn (pc := 44) k_fn_gauge_44 rfl rfl ?_
        exact hv
    · replace hv := hv.2 q
      refine tr_aload_n (pc := 24) 0 k_fn_gauge_24 rfl rfl ?_
      refine tr_bipush (pc := 25) (v := -4) k_fn_gauge_25 (by decide) ?_
      refine tr_callV (pc := 27) (d' := d + 4) (mc' := 0) (ms' := 0) [vi (-4 : Int32)] k_fn_gauge_27 ca_fn_refuseAsTold ml_fn_150 ii_fn_refuseAsTold ⟨by decide, rfl⟩ pa_fn_refuseAsTold (by omega) (by omega) (by omega) rfl (Nat.le_of_ble_eq_true rfl) (Nat.le_of_ble_eq_true rfl) (Qk := fun v h9 => mT g me_fn_gauge (d + 5) 0 0 30 [some (vr 0 0), some (vi x1), some (vi x2), some (vr 8 n3), none] (v.toList ++ []) h9 _) ?_ (fun _ _ z => z)
      show mT g me_fn_refuseAsTold (d + 4) 0 0 0 [some (vr 0 0), some (vi (-4 : Int32))] [] h1 _
      refine tr_ldcw (pc := 0) (v := 1000000000) k_fn_refuseAsTold_0 co_fn_307 ?_
      refine tr_aload_n (pc := 3) 0 k_fn_refuseAsTold_3 rfl rfl ?_
      refine tr_iload_n (pc := 4) 1 k_fn_refuseAsTold_4 rfl rfl ?_
      have hT := hv
      clear hv
      refine tr_callV (pc := 5) (d' := d + 3) (mc' := 0) (ms' := 0) [vi (-4 : Int32)] k_fn_refuseAsTold_5 ca_fn_refuse ml_fn_56 ii_fn_refuse ⟨by decide, rfl⟩ pa_fn_refuse (by omega) (by omega) (by omega) rfl (Nat.le_of_ble_eq_true rfl) (Nat.le_of_ble_eq_true rfl) hT (fun v h9 hv => ?_)
      clear hT
      obtain ⟨y9, rfl, hv⟩ := hv
      obtain ⟨h8, eh⟩ : ∃ z, z = h9 := ⟨_, rfl⟩
      subst eh
      obtain ⟨hskh8, hv⟩ := hv
      show mT g me_fn_refuseAsTold (d + 4) 0 0 8 [some (vr 0 0), some (vi (-4 : Int32))] [vi y9, vi (1000000000 : Int32)] h8 _
      refine tr_isub (pc := 8) k_fn_refuseAsTold_8 ?_
      refine tr_ireturn (pc := 9) k_fn_refuseAsTold_9 rfl rfl ?_
      show mT g me_fn_gauge (d + 5) 0 0 30 [some (vr 0 0), some (vi x1), some (vi x2), some (vr 8 n3), none] [vi ((1000000000 : Int32) - y9)] h8 _
      refine tr_ireturn (pc := 30) k_fn_gauge_30 rfl rfl ?_
      exact hv
theorem v_fn_tol_0 {g : mG} {d : Nat} (x1 : Int32) {h : mH} {Q : Option mV → mH → Prop} (hsk : mSK h) (hv : ((0 ≤ x1 → ((x1 ≤ (50 : Int32) → Q (some (vi (hI h 5 0 1))) (setI h 5 0 1 x1)) ∧ (¬ x1 ≤ (50 : Int32) → mT g me_fn_refuse (d + 1) 0 0 0 [some (vr 0 0), some (vi (-6 : Int32)), none] [] h (fun v h1 => ∃ y2, v = some (vi y2) ∧ mSK h1 ∧ Q (some (vi y2)) h1)))) ∧ (¬ 0 ≤ x1 → mT g me_fn_refuse (d + 1) 0 0 0 [some (vr 0 0), some (vi (-4 : Int32)), none] [] h (fun v h3 => ∃ y4, v = some (vi y4) ∧ mSK h3 ∧ Q (some (vi y4)) h3)))) : mT g me_fn_tol (d + 2) 0 0 0 [some (vr 0 0), some (vi x1), none] [] h Q := by
  refine tr_iload_n (pc := 0) 1 k_fn_tol_0 rfl rfl ?_
  refine tr_if_ge (pc := 1) 11 k_fn_tol_1 (by decide) (fun q => ?_) (fun q => ?_)
  · replace hv := hv.1 q
    refine tr_iload_n (pc := 11) 1 k_fn_tol_11 rfl rfl ?_
    refine tr_bipush (pc := 12) (v := 50) k_fn_tol_12 (by decide) ?_
    refine tr_icmp_le (pc := 14) 24 k_fn_tol_14 (by decide) (fun q => ?_) (fun q => ?_)
    · replace hv := hv.1 q
      refine tr_aload_n (pc := 24) 0 k_fn_tol_24 rfl rfl ?_
      refine tr_getP (pc := 25) k_fn_tol_25 fl_fn_44 rfl (Eq.trans rfl (hsk.1 0 4 _ rfl)) ?_
      refine tr_getIx (pc := 28) k_fn_tol_28 fl_fn_238 rfl rfl ?_
      refine tr_istore_n (pc := 31) 2 k_fn_tol_31 rfl (by decide) rfl ?_
      show mT g me_fn_tol (d + 2) 0 0 32 [some (vr 0 0), some (vi x1), some (vi (hI h 5 0 1))] [] h _
      refine tr_aload_n (pc := 32) 0 k_fn_tol_32 rfl rfl ?_
      refine tr_getP (pc := 33) k_fn_tol_33 fl_fn_44 rfl (Eq.trans rfl (hsk.1 0 4 _ rfl)) ?_
      refine tr_iload_n (pc := 36) 1 k_fn_tol_36 rfl rfl ?_
      refine tr_putI (pc := 37) k_fn_tol_37 fl_fn_238 (Or.inl rfl) rfl ⟨rfl, rfl⟩ ?_
      refine tr_iload_n (pc := 40) 2 k_fn_tol_40 rfl rfl ?_
      refine tr_ireturn (pc := 41) k_fn_tol_41 rfl rfl ?_
      exact hv
    · replace hv := hv.2 q
      refine tr_aload_n (pc := 17) 0 k_fn_tol_17 rfl rfl ?_
      refine tr_bipush (pc := 18) (v := -6) k_fn_tol_18 (by decide) ?_
      have hT := hv
      clear hv
      refine tr_callV (pc := 20) (d' := d + 1) (mc' := 0) (ms' := 0) [vi (-6 : Int32)] k_fn_tol_20 ca_fn_refuse ml_fn_56 ii_fn_refuse ⟨by decide, rfl⟩ pa_fn_refuse (by omega) (by omega) (by omega) rfl (Nat.le_of_ble_eq_true rfl) (Nat.le_of_ble_eq_true rfl) hT (fun v h9 hv => ?_)
      clear hT
      obtain ⟨y2, rfl, hv⟩ := hv
      obtain ⟨h1, eh⟩ : ∃ z, z = h9 := ⟨_, rfl⟩
      subst eh
      obtain ⟨hskh1, hv⟩ := hv
      show mT g me_fn_tol (d + 2) 0 0 23 [some (vr 0 0), some (vi x1), none] [vi y2] h1 _
      refine tr_ireturn (pc := 23) k_fn_tol_23 rfl rfl ?_
      exact hv
  · replace hv := hv.2 q
    refine tr_aload_n (pc := 4) 0 k_fn_tol_4 rfl rfl ?_
    refine tr_bipush (pc := 5) (v := -4) k_fn_tol_5 (by decide) ?_
    have hT := hv
    clear hv
    refine tr_callV (pc := 7) (d' := d + 1) (mc' := 0) (ms' := 0) [vi (-4 : Int32)] k_fn_tol_7 ca_fn_refuse ml_fn_56 ii_fn_refuse ⟨by decide, rfl⟩ pa_fn_refuse (by omega) (by omega) (by omega) rfl (Nat.le_of_ble_eq_true rfl) (Nat.le_of_ble_eq_true rfl) hT (fun v h9 hv => ?_)
    clear hT
    obtain ⟨y4, rfl, hv⟩ := hv
    obtain ⟨h3, eh⟩ : ∃ z, z = h9 := ⟨_, rfl⟩
    subst eh
    obtain ⟨hskh3, hv⟩ := hv
    show mT g me_fn_tol (d + 2) 0 0 10 [some (vr 0 0), some (vi x1), none] [vi y4] h3 _
    refine tr_ireturn (pc := 10) k_fn_tol_10 rfl rfl ?_
    exact hv
theorem v_fn_explain_0 {g : mG} {d : Nat}  {h : mH} {Q : Option mV → mH → Prop} (hsk : mSK h) (hv : mT g me_lk_seek (d + 8) 0 0 0 [some (vr 5 0), none, none, none] [] h (fun v h1 => ∃ y2, v = some (vi y2) ∧ mSK h1 ∧ Q (some (vi y2)) h1)) : mT g me_fn_explain (d + 9) 0 0 0 [some (vr 0 0)] [] h Q := by
  refine tr_aload_n (pc := 0) 0 k_fn_explain_0 rfl rfl ?_
  refine tr_getP (pc := 1) k_fn_explain_1 fl_fn_44 rfl (Eq.trans rfl (hsk.1 0 4 _ rfl)) ?_
  have hT := hv
  clear hv
  refine tr_callV (pc := 4) (d' := d + 8) (mc' := 0) (ms' := 0) [] k_fn_explain_4 ca_lk_seek ml_fn_241 ii_lk_seek ⟨by decide, rfl⟩ pa_lk_seek (by omega) (by omega) (by omega) rfl (Nat.le_of_ble_eq_true rfl) (Nat.le_of_ble_eq_true rfl) hT (fun v h9 hv => ?_)
  clear hT
  obtain ⟨y2, rfl, hv⟩ := hv
  obtain ⟨h1, eh⟩ : ∃ z, z = h9 := ⟨_, rfl⟩
  subst eh
  obtain ⟨hskh1, hv⟩ := hv
  show mT g me_fn_explain (d + 9) 0 0 7 [some (vr 0 0)] [vi y2] h1 _
  refine tr_ireturn (pc := 7) k_fn_explain_7 rfl rfl ?_
  exact hv
theorem v_lk_seek_0 {g : mG} {d : Nat}  {h : mH} {Q : Option mV → mH → Prop} (hsk : mSK h) (hv : mT g me_lk_isAnyRead (d + 7) 0 0 0 [some (vr 5 0), none] [] (setI (setI (setI (setI h 5 0 2 (-9 : Int32)) 5 0 3 (-9 : Int32)) 5 0 4 (-9 : Int32)) 5 0 5 (-9 : Int32)) (fun v h1 => ∃ y2, v = some (vi y2) ∧ mSK h1 ∧ ((¬ y2 = 0 → mT g me_lk_misses (d + 7) 0 0 0 [some (vr 5 0), none, none, none, none] [] h1 (fun v h3 => ∃ y4, v = some (vi y4) ∧ mSK h3 ∧ ((¬ y4 = 0 → mT g me_lk_seek (d + 8) 0 0 35 [some (vr 5 0), some (vi (hI h3 2 1 1)), some (vi (0 : Int32)), none] [] h3 Q) ∧ (y4 = 0 → Q (some (vi (0 : Int32))) h3)))) ∧ (y2 = 0 → Q (some (vi (4 : Int32))) h1)))) : mT g me_lk_seek (d + 8) 0 0 0 [some (vr 5 0), none, none, none] [] h Q := by
  refine tr_aload_n (pc := 0) 0 k_lk_seek_0 rfl rfl ?_
  refine tr_callV (pc := 1) (d' := d + 7) (mc' := 0) (ms' := 0) [] k_lk_seek_1 ca_lk_forgetFound ml_lk_15 ii_lk_forgetFound ⟨by decide, rfl⟩ pa_lk_forgetFound (by omega) (by omega) (by omega) rfl (Nat.le_of_ble_eq_true rfl) (Nat.le_of_ble_eq_true rfl) (Qk := fun v h9 => mT g me_lk_seek (d + 8) 0 0 4 [some (vr 5 0), none, none, none] (v.toList ++ []) h9 _) ?_ (fun _ _ z => z)
  show mT g me_lk_forgetFound (d + 7) 0 0 0 [some (vr 5 0)] [] h _
  refine tr_aload_n (pc := 0) 0 k_lk_forgetFound_0 rfl rfl ?_
  refine tr_bipush (pc := 1) (v := -9) k_lk_forgetFound_1 (by decide) ?_
  refine tr_putI (pc := 3) k_lk_forgetFound_3 fl_lk_51 (Or.inl rfl) rfl ⟨rfl, rfl⟩ ?_
  refine tr_aload_n (pc := 6) 0 k_lk_forgetFound_6 rfl rfl ?_
  refine tr_bipush (pc := 7) (v := -9) k_lk_forgetFound_7 (by decide) ?_
  refine tr_putI (pc := 9) k_lk_forgetFound_9 fl_lk_55 (Or.inl rfl) rfl ⟨rfl, rfl⟩ ?_
  refine tr_aload_n (pc := 12) 0 k_lk_forgetFound_12 rfl rfl ?_
  refine tr_bipush (pc := 13) (v := -9) k_lk_forgetFound_13 (by decide) ?_
  refine tr_putI (pc := 15) k_lk_forgetFound_15 fl_lk_58 (Or.inl rfl) rfl ⟨rfl, rfl⟩ ?_
  refine tr_aload_n (pc := 18) 0 k_lk_forgetFound_18 rfl rfl ?_
  refine tr_bipush (pc := 19) (v := -9) k_lk_forgetFound_19 (by decide) ?_
  refine tr_putI (pc := 21) k_lk_forgetFound_21 fl_lk_61 (Or.inl rfl) rfl ⟨rfl, rfl⟩ ?_
  refine tr_return (pc := 24) k_lk_forgetFound_24 rfl ?_
  show mT g me_lk_seek (d + 8) 0 0 4 [some (vr 5 0), none, none, none] [] (setI (setI (setI (setI h 5 0 2 (-9 : Int32)) 5 0 3 (-9 : Int32)) 5 0 4 (-9 : Int32)) 5 0 5 (-9 : Int32)) _
  refine tr_aload_n (pc := 4) 0 k_lk_seek_4 rfl rfl ?_
  have hT := hv
  clear hv
  refine tr_callV (pc := 5) (d' := d + 7) (mc' := 0) (ms' := 0) [] k_lk_seek_5 ca_lk_isAnyRead ml_lk_18 ii_lk_isAnyRead ⟨by decide, rfl⟩ pa_lk_isAnyRead (by omega) (by omega) (by omega) rfl (Nat.le_of_ble_eq_true rfl) (Nat.le_of_ble_eq_true rfl) hT (fun v h9 hv => ?_)
  clear hT
  obtain ⟨y2, rfl, hv⟩ := hv
  obtain ⟨h1, eh⟩ : ∃ z, z = h9 := ⟨_, rfl⟩
  subst eh
  obtain ⟨hskh1, hv⟩ := hv
  show mT g me_lk_seek (d + 8) 0 0 8 [some (vr 5 0), none, none, none] [vi y2] h1 _
  refine tr_if_ne (pc := 8) 13 k_lk_seek_8 (by decide) (fun q => ?_) (fun q => ?_)
  · replace hv := hv.1 q
    refine tr_aload_n (pc := 13) 0 k_lk_seek_13 rfl rfl ?_
    have hT := hv
    clear hv
    refine tr_callV (pc := 14) (d' := d + 7) (mc' := 0) (ms' := 0) [] k_lk_seek_14 ca_lk_misses ml_lk_22 ii_lk_misses ⟨by decide, rfl⟩ pa_lk_misses (by omega) (by omega) (by omega) rfl (Nat.le_of_ble_eq_true rfl) (Nat.le_of_ble_eq_true rfl) hT (fun v h9 hv => ?_)
    clear hT
    obtain ⟨y4, rfl, hv⟩ := hv
    obtain ⟨h3, eh⟩ : ∃ z, z = h9 := ⟨_, rfl⟩
    subst eh
    obtain ⟨hskh3, hv⟩ := hv
    show mT g me_lk_seek (d + 8) 0 0 17 [some (vr 5 0), none, none, none] [vi y4] h3 _
    refine tr_if_ne (pc := 17) 22 k_lk_seek_17 (by decide) (fun q => ?_) (fun q => ?_)
    · replace hv := hv.1 q
      refine tr_aload_n (pc := 22) 0 k_lk_seek_22 rfl rfl ?_
      refine tr_getP (pc := 23) k_lk_seek_23 fl_lk_9 rfl (Eq.trans rfl (hskh3.1 5 0 _ rfl)) ?_
      refine tr_getP (pc := 26) k_lk_seek_26 fl_lk_26 rfl (Eq.trans rfl (hskh3.1 1 1 _ rfl)) ?_
      refine tr_callV (pc := 29) (d' := d + 7) (mc' := 0) (ms' := 0) [] k_lk_seek_29 ca_al_size ml_lk_32 ii_al_size ⟨by decide, rfl⟩ pa_al_size (by omega) (by omega) (by omega) rfl (Nat.le_of_ble_eq_true rfl) (Nat.le_of_ble_eq_true rfl) (Qk := fun v h9 => mT g me_lk_seek (d + 8) 0 0 32 [some (vr 5 0), none, none, none] (v.toList ++ []) h9 _) ?_ (fun _ _ z => z)
      show mT g me_al_size (d + 7) 0 0 0 [some (vr 2 1)] [] h3 _
      refine tr_aload_n (pc := 0) 0 k_al_size_0 rfl rfl ?_
      refine tr_getIx (pc := 1) k_al_size_1 fl_al_48 rfl rfl ?_
      refine tr_ireturn (pc := 4) k_al_size_4 rfl rfl ?_
      show mT g me_lk_seek (d + 8) 0 0 32 [some (vr 5 0), none, none, none] [vi (hI h3 2 1 1)] h3 _
      refine tr_istore_n (pc := 32) 1 k_lk_seek_32 rfl (by decide) rfl ?_
      show mT g me_lk_seek (d + 8) 0 0 33 [some (vr 5 0), some (vi (hI h3 2 1 1)), none, none] [] h3 _
      refine tr_iconst (pc := 33) (v := 0) k_lk_seek_33 (by decide) ?_
      refine tr_istore_n (pc := 34) 2 k_lk_seek_34 rfl (by decide) rfl ?_
      show mT g me_lk_seek (d + 8) 0 0 35 [some (vr 5 0), some (vi (hI h3 2 1 1)), some (vi (0 : Int32)), none] [] h3 _
      exact hv
    · replace hv := hv.2 q
      refine tr_iconst (pc := 20) (v := 0) k_lk_seek_20 (by decide) ?_
      refine tr_ireturn (pc := 21) k_lk_seek_21 rfl rfl ?_
      exact hv
  · replace hv := hv.2 q
    refine tr_iconst (pc := 11) (v := 4) k_lk_seek_11 (by decide) ?_
    refine tr_ireturn (pc := 12) k_lk_seek_12 rfl rfl ?_
    exact hv
theorem v_lk_seek_35 {g : mG} {d : Nat} (x1 : Int32) (x2 : Int32) (o3 : Option mV) {h : mH} {Q : Option mV → mH → Prop} (hsk : mSK h) (hv : ((x1 ≤ x2 → mT g me_lk_seek (d + 8) 0 0 71 [some (vr 5 0), some (vi x1), some (vi (0 : Int32)), o3] [] h Q) ∧ (¬ x1 ≤ x2 → (∃ n1, mGet h 1 x2 (some (7, n1)) ∧ mT g me_lk_explainsAlone (d + 7) 0 0 0 [some (vr 5 0), some (vr 7 n1), none, none, none, none] [] h (fun v h2 => ∃ y3, v = some (vi y3) ∧ mSK h2 ∧ ((y3 = 0 → mT g me_lk_seek (d + 8) 0 0 35 [some (vr 5 0), some (vi x1), some (vi (x2 + 1)), o3] [] h2 Q) ∧ (¬ y3 = 0 → Q (some (vi (1 : Int32))) h2))))))) : mT g me_lk_seek (d + 8) 0 0 35 [some (vr 5 0), some (vi x1), some (vi x2), o3] [] h Q := by
  refine tr_iload_n (pc := 35) 2 k_lk_seek_35 rfl rfl ?_
  refine tr_iload_n (pc := 36) 1 k_lk_seek_36 rfl rfl ?_
  refine tr_icmp_ge (pc := 37) 69 k_lk_seek_37 (by decide) (fun q => ?_) (fun q => ?_)
  · replace hv := hv.1 q
    refine tr_iconst (pc := 69) (v := 0) k_lk_seek_69 (by decide) ?_
    refine tr_istore_n (pc := 70) 2 k_lk_seek_70 rfl (by decide) rfl ?_
    show mT g me_lk_seek (d + 8) 0 0 71 [some (vr 5 0), some (vi x1), some (vi (0 : Int32)), o3] [] h _
    exact hv
  · replace hv := hv.2 q
    refine tr_aload_n (pc := 40) 0 k_lk_seek_40 rfl rfl ?_
    refine tr_aload_n (pc := 41) 0 k_lk_seek_41 rfl rfl ?_
    refine tr_getP (pc := 42) k_lk_seek_42 fl_lk_9 rfl (Eq.trans rfl (hsk.1 5 0 _ rfl)) ?_
    refine tr_getP (pc := 45) k_lk_seek_45 fl_lk_26 rfl (Eq.trans rfl (hsk.1 1 1 _ rfl)) ?_
    refine tr_iload_n (pc := 48) 2 k_lk_seek_48 rfl rfl ?_
    obtain ⟨n1, hg, hv⟩ := hv
    refine tr_alget (pc := 49) k_lk_seek_49 ml_lk_37 (by omega) (Nat.le_of_ble_eq_true rfl) (mGet.up hg rfl rfl) ?_
    refine tr_cast (pc := 52) k_lk_seek_52 (by decide) cl_lk_41 ?_
    have hT := hv
    clear hv
    refine tr_callV (pc := 55) (d' := d + 7) (mc' := 0) (ms' := 0) [vr 7 n1] k_lk_seek_55 ca_lk_explainsAlone ml_lk_43 ii_lk_explainsAlone ⟨by decide, rfl⟩ pa_lk_explainsAlone (by omega) (by omega) (by omega) rfl (Nat.le_of_ble_eq_true rfl) (Nat.le_of_ble_eq_true rfl) hT (fun v h9 hv => ?_)
    clear hT
    obtain ⟨y3, rfl, hv⟩ := hv
    obtain ⟨h2, eh⟩ : ∃ z, z = h9 := ⟨_, rfl⟩
    subst eh
    obtain ⟨hskh2, hv⟩ := hv
    show mT g me_lk_seek (d + 8) 0 0 58 [some (vr 5 0), some (vi x1), some (vi x2), o3] [vi y3] h2 _
    refine tr_if_eq (pc := 58) 63 k_lk_seek_58 (by decide) (fun q => ?_) (fun q => ?_)
    · replace hv := hv.1 q
      refine tr_iinc (pc := 63) (v := (x2 + 1)) k_lk_seek_63 rfl rfl (by decide) rfl ?_
      show mT g me_lk_seek (d + 8) 0 0 66 [some (vr 5 0), some (vi x1), some (vi (x2 + 1)), o3] [] h2 _
      refine tr_goto (pc := 66) 35 k_lk_seek_66 (by decide) ?_
      exact hv
    · replace hv := hv.2 q
      refine tr_iconst (pc := 61) (v := 1) k_lk_seek_61 (by decide) ?_
      refine tr_ireturn (pc := 62) k_lk_seek_62 rfl rfl ?_
      exact hv
theorem v_lk_seek_71 {g : mG} {d : Nat} (x1 : Int32) (x2 : Int32) (o3 : Option mV) {h : mH} {Q : Option mV → mH → Prop} (hsk : mSK h) (hv : ((x1 ≤ x2 → Q (some (vi (3 : Int32))) h) ∧ (¬ x1 ≤ x2 → mT g me_lk_seek (d + 8) 0 0 80 [some (vr 5 0), some (vi x1), some (vi x2), some (vi (x2 + (1 : Int32)))] [] h Q))) : mT g me_lk_seek (d + 8) 0 0 71 [some (vr 5 0), some (vi x1), some (vi x2), o3] [] h Q := by
  refine tr_iload_n (pc := 71) 2 k_lk_seek_71 rfl rfl ?_
  refine tr_iload_n (pc := 72) 1 k_lk_seek_72 rfl rfl ?_
  refine tr_icmp_ge (pc := 73) 134 k_lk_seek_73 (by decide) (fun q => ?_) (fun q => ?_)
  · replace hv := hv.1 q
    refine tr_iconst (pc := 134) (v := 3) k_lk_seek_134 (by decide) ?_
    refine tr_ireturn (pc := 135) k_lk_seek_135 rfl rfl ?_
    exact hv
  · replace hv := hv.2 q
    refine tr_iload_n (pc := 76) 2 k_lk_seek_76 rfl rfl ?_
    refine tr_iconst (pc := 77) (v := 1) k_lk_seek_77 (by decide) ?_
    refine tr_iadd (pc := 78) k_lk_seek_78 ?_
    refine tr_istore_n (pc := 79) 3 k_lk_seek_79 rfl (by decide) rfl ?_
    show mT g me_lk_seek (d + 8) 0 0 80 [some (vr 5 0), some (vi x1), some (vi x2), some (vi (x2 + (1 : Int32)))] [] h _
    exact hv
theorem v_lk_seek_80 {g : mG} {d : Nat} (x1 : Int32) (x2 : Int32) (x3 : Int32) {h : mH} {Q : Option mV → mH → Prop} (hsk : mSK h) (hv : ((x1 ≤ x3 → mT g me_lk_seek (d + 8) 0 0 71 [some (vr 5 0), some (vi x1), some (vi (x2 + 1)), some (vi x3)] [] h Q) ∧ (¬ x1 ≤ x3 → (∃ n1, mGet h 1 x2 (some (7, n1)) ∧ (∃ n2, mGet h 1 x3 (some (7, n2)) ∧ mT g me_lk_explainTogether (d + 7) 0 0 0 [some (vr 5 0), some (vr 7 n1), some (vr 7 n2), none, none, none, none, none, none] [] h (fun v h3 => ∃ y4, v = some (vi y4) ∧ mSK h3 ∧ ((y4 = 0 → mT g me_lk_seek (d + 8) 0 0 80 [some (vr 5 0), some (vi x1), some (vi x2), some (vi (x3 + 1))] [] h3 Q) ∧ (¬ y4 = 0 → Q (some (vi (2 : Int32))) h3)))))))) : mT g me_lk_seek (d + 8) 0 0 80 [some (vr 5 0), some (vi x1), some (vi x2), some (vi x3)] [] h Q := by
  refine tr_iload_n (pc := 80) 3 k_lk_seek_80 rfl rfl ?_
  refine tr_iload_n (pc := 81) 1 k_lk_seek_81 rfl rfl ?_
  refine tr_icmp_ge (pc := 82) 128 k_lk_seek_82 (by decide) (fun q => ?_) (fun q => ?_)
  · replace hv := hv.1 q
    refine tr_iinc (pc := 128) (v := (x2 + 1)) k_lk_seek_128 rfl rfl (by decide) rfl ?_
    show mT g me_lk_seek (d + 8) 0 0 131 [some (vr 5 0), some (vi x1), some (vi (x2 + 1)), some (vi x3)] [] h _
    refine tr_goto (pc := 131) 71 k_lk_seek_131 (by decide) ?_
    exact hv
  · replace hv := hv.2 q
    refine tr_aload_n (pc := 85) 0 k_lk_seek_85 rfl rfl ?_
    refine tr_aload_n (pc := 86) 0 k_lk_seek_86 rfl rfl ?_
    refine tr_getP (pc := 87) k_lk_seek_87 fl_lk_9 rfl (Eq.trans rfl (hsk.1 5 0 _ rfl)) ?_
    refine tr_getP (pc := 90) k_lk_seek_90 fl_lk_26 rfl (Eq.trans rfl (hsk.1 1 1 _ rfl)) ?_
    refine tr_iload_n (pc := 93) 2 k_lk_seek_93 rfl rfl ?_
    obtain ⟨n1, hg, hv⟩ := hv
    refine tr_alget (pc := 94) k_lk_seek_94 ml_lk_37 (by omega) (Nat.le_of_ble_eq_true rfl) (mGet.up hg rfl rfl) ?_
    refine tr_cast (pc := 97) k_lk_seek_97 (by decide) cl_lk_41 ?_
    refine tr_aload_n (pc := 100) 0 k_lk_seek_100 rfl rfl ?_
    refine tr_getP (pc := 101) k_lk_seek_101 fl_lk_9 rfl (Eq.trans rfl (hsk.1 5 0 _ rfl)) ?_
    refine tr_getP (pc := 104) k_lk_seek_104 fl_lk_26 rfl (Eq.trans rfl (hsk.1 1 1 _ rfl)) ?_
    refine tr_iload_n (pc := 107) 3 k_lk_seek_107 rfl rfl ?_
    obtain ⟨n2, hg, hv⟩ := hv
    refine tr_alget (pc := 108) k_lk_seek_108 ml_lk_37 (by omega) (Nat.le_of_ble_eq_true rfl) (mGet.up hg rfl rfl) ?_
    refine tr_cast (pc := 111) k_lk_seek_111 (by decide) cl_lk_41 ?_
    have hT := hv
    clear hv
    refine tr_callV (pc := 114) (d' := d + 7) (mc' := 0) (ms' := 0) [vr 7 n1, vr 7 n2] k_lk_seek_114 ca_lk_explainTogether ml_lk_47 ii_lk_explainTogether ⟨by decide, rfl⟩ pa_lk_explainTogether (by omega) (by omega) (by omega) rfl (Nat.le_of_ble_eq_true rfl) (Nat.le_of_ble_eq_true rfl) hT (fun v h9 hv => ?_)
    clear hT
    obtain ⟨y4, rfl, hv⟩ := hv
    obtain ⟨h3, eh⟩ : ∃ z, z = h9 := ⟨_, rfl⟩
    subst eh
    obtain ⟨hskh3, hv⟩ := hv
    show mT g me_lk_seek (d + 8) 0 0 117 [some (vr 5 0), some (vi x1), some (vi x2), some (vi x3)] [vi y4] h3 _
    refine tr_if_eq (pc := 117) 122 k_lk_seek_117 (by decide) (fun q => ?_) (fun q => ?_)
    · replace hv := hv.1 q
      refine tr_iinc (pc := 122) (v := (x3 + 1)) k_lk_seek_122 rfl rfl (by decide) rfl ?_
      show mT g me_lk_seek (d + 8) 0 0 125 [some (vr 5 0), some (vi x1), some (vi x2), some (vi (x3 + 1))] [] h3 _
      refine tr_goto (pc := 125) 80 k_lk_seek_125 (by decide) ?_
      exact hv
    · replace hv := hv.2 q
      refine tr_iconst (pc := 120) (v := 2) k_lk_seek_120 (by decide) ?_
      refine tr_ireturn (pc := 121) k_lk_seek_121 rfl rfl ?_
      exact hv
theorem v_lk_isAnyRead_0 {g : mG} {d : Nat}  {h : mH} {Q : Option mV → mH → Prop} (hsk : mSK h) (hv : mT g me_lk_isAnyRead (d + 4) 0 0 2 [some (vr 5 0), some (vi (0 : Int32))] [] h Q) : mT g me_lk_isAnyRead (d + 4) 0 0 0 [some (vr 5 0), none] [] h Q := by
  refine tr_iconst (pc := 0) (v := 0) k_lk_isAnyRead_0 (by decide) ?_
  refine tr_istore_n (pc := 1) 1 k_lk_isAnyRead_1 rfl (by decide) rfl ?_
  show mT g me_lk_isAnyRead (d + 4) 0 0 2 [some (vr 5 0), some (vi (0 : Int32))] [] h _
  exact hv
theorem v_lk_isAnyRead_2 {g : mG} {d : Nat} (x1 : Int32) {h : mH} {Q : Option mV → mH → Prop} (hsk : mSK h) (hv : (((hI h 2 2 1) ≤ x1 → Q (some (vi (0 : Int32))) h) ∧ (¬ (hI h 2 2 1) ≤ x1 → (∃ n1, mGet h 2 x1 (some (8, n1)) ∧ (((hI h 8 n1 4) < 0 → mT g me_lk_isAnyRead (d + 4) 0 0 2 [some (vr 5 0), some (vi (x1 + 1))] [] h Q) ∧ (¬ (hI h 8 n1 4) < 0 → Q (some (vi (1 : Int32))) h)))))) : mT g me_lk_isAnyRead (d + 4) 0 0 2 [some (vr 5 0), some (vi x1)] [] h Q := by
  refine tr_iload_n (pc := 2) 1 k_lk_isAnyRead_2 rfl rfl ?_
  refine tr_aload_n (pc := 3) 0 k_lk_isAnyRead_3 rfl rfl ?_
  refine tr_getP (pc := 4) k_lk_isAnyRead_4 fl_lk_9 rfl (Eq.trans rfl (hsk.1 5 0 _ rfl)) ?_
  refine tr_getP (pc := 7) k_lk_isAnyRead_7 fl_lk_64 rfl (Eq.trans rfl (hsk.1 1 2 _ rfl)) ?_
  refine tr_callV (pc := 10) (d' := d + 3) (mc' := 0) (ms' := 0) [] k_lk_isAnyRead_10 ca_al_size ml_lk_32 ii_al_size ⟨by decide, rfl⟩ pa_al_size (by omega) (by omega) (by omega) rfl (Nat.le_of_ble_eq_true rfl) (Nat.le_of_ble_eq_true rfl) (Qk := fun v h9 => mT g me_lk_isAnyRead (d + 4) 0 0 13 [some (vr 5 0), some (vi x1)] (v.toList ++ [vi x1]) h9 _) ?_ (fun _ _ z => z)
  show mT g me_al_size (d + 3) 0 0 0 [some (vr 2 2)] [] h _
  refine tr_aload_n (pc := 0) 0 k_al_size_0 rfl rfl ?_
  refine tr_getIx (pc := 1) k_al_size_1 fl_al_48 rfl rfl ?_
  refine tr_ireturn (pc := 4) k_al_size_4 rfl rfl ?_
  show mT g me_lk_isAnyRead (d + 4) 0 0 13 [some (vr 5 0), some (vi x1)] [vi (hI h 2 2 1), vi x1] h _
  refine tr_icmp_ge (pc := 13) 44 k_lk_isAnyRead_13 (by decide) (fun q => ?_) (fun q => ?_)
  · replace hv := hv.1 q
    refine tr_iconst (pc := 44) (v := 0) k_lk_isAnyRead_44 (by decide) ?_
    refine tr_ireturn (pc := 45) k_lk_isAnyRead_45 rfl rfl ?_
    exact hv
  · replace hv := hv.2 q
    refine tr_aload_n (pc := 16) 0 k_lk_isAnyRead_16 rfl rfl ?_
    refine tr_getP (pc := 17) k_lk_isAnyRead_17 fl_lk_9 rfl (Eq.trans rfl (hsk.1 5 0 _ rfl)) ?_
    refine tr_getP (pc := 20) k_lk_isAnyRead_20 fl_lk_64 rfl (Eq.trans rfl (hsk.1 1 2 _ rfl)) ?_
    refine tr_iload_n (pc := 23) 1 k_lk_isAnyRead_23 rfl rfl ?_
    obtain ⟨n1, hg, hv⟩ := hv
    refine tr_alget (pc := 24) k_lk_isAnyRead_24 ml_lk_37 (by omega) (Nat.le_of_ble_eq_true rfl) (mGet.up hg rfl rfl) ?_
    refine tr_cast (pc := 27) k_lk_isAnyRead_27 (by decide) cl_lk_67 ?_
    refine tr_getIx (pc := 30) k_lk_isAnyRead_30 fl_lk_69 rfl rfl ?_
    refine tr_if_lt (pc := 33) 38 k_lk_isAnyRead_33 (by decide) (fun q => ?_) (fun q => ?_)
    · replace hv := hv.1 q
      refine tr_iinc (pc := 38) (v := (x1 + 1)) k_lk_isAnyRead_38 rfl rfl (by decide) rfl ?_
      show mT g me_lk_isAnyRead (d + 4) 0 0 41 [some (vr 5 0), some (vi (x1 + 1))] [] h _
      refine tr_goto (pc := 41) 2 k_lk_isAnyRead_41 (by decide) ?_
      exact hv
    · replace hv := hv.2 q
      refine tr_iconst (pc := 36) (v := 1) k_lk_isAnyRead_36 (by decide) ?_
      refine tr_ireturn (pc := 37) k_lk_isAnyRead_37 rfl rfl ?_
      exact hv
theorem v_lk_misses_0 {g : mG} {d : Nat}  {h : mH} {Q : Option mV → mH → Prop} (hsk : mSK h) (hv : mT g me_ga_reckon (d + 5) 0 0 0 [some (vr 1 0), some (vi (hI h 1 0 3)), some (vi (1 : Int32)), none, none] [] h (fun v h1 => v = none ∧ mSK h1 ∧ mT g me_lk_misses (d + 6) 0 0 19 [some (vr 5 0), some (vi (0 : Int32)), some (vi (0 : Int32)), none, none] [] h1 Q)) : mT g me_lk_misses (d + 6) 0 0 0 [some (vr 5 0), none, none, none, none] [] h Q := by
  refine tr_aload_n (pc := 0) 0 k_lk_misses_0 rfl rfl ?_
  refine tr_getP (pc := 1) k_lk_misses_1 fl_lk_9 rfl (Eq.trans rfl (hsk.1 5 0 _ rfl)) ?_
  refine tr_aload_n (pc := 4) 0 k_lk_misses_4 rfl rfl ?_
  refine tr_getP (pc := 5) k_lk_misses_5 fl_lk_9 rfl (Eq.trans rfl (hsk.1 5 0 _ rfl)) ?_
  refine tr_getIx (pc := 8) k_lk_misses_8 fl_lk_82 rfl rfl ?_
  refine tr_iconst (pc := 11) (v := 1) k_lk_misses_11 (by decide) ?_
  have hT := hv
  clear hv
  refine tr_callV (pc := 12) (d' := d + 5) (mc' := 0) (ms' := 0) [vi (hI h 1 0 3), vi (1 : Int32)] k_lk_misses_12 ca_ga_reckon ml_lk_85 ii_ga_reckon ⟨by decide, rfl⟩ pa_ga_reckon (by omega) (by omega) (by omega) rfl (Nat.le_of_ble_eq_true rfl) (Nat.le_of_ble_eq_true rfl) hT (fun v h9 hv => ?_)
  clear hT
  obtain ⟨rfl, hv⟩ := hv
  obtain ⟨h1, eh⟩ : ∃ z, z = h9 := ⟨_, rfl⟩
  subst eh
  obtain ⟨hskh1, hv⟩ := hv
  show mT g me_lk_misses (d + 6) 0 0 15 [some (vr 5 0), none, none, none, none] [] h1 _
  refine tr_iconst (pc := 15) (v := 0) k_lk_misses_15 (by decide) ?_
  refine tr_istore_n (pc := 16) 1 k_lk_misses_16 rfl (by decide) rfl ?_
  show mT g me_lk_misses (d + 6) 0 0 17 [some (vr 5 0), some (vi (0 : Int32)), none, none, none] [] h1 _
  refine tr_iconst (pc := 17) (v := 0) k_lk_misses_17 (by decide) ?_
  refine tr_istore_n (pc := 18) 2 k_lk_misses_18 rfl (by decide) rfl ?_
  show mT g me_lk_misses (d + 6) 0 0 19 [some (vr 5 0), some (vi (0 : Int32)), some (vi (0 : Int32)), none, none] [] h1 _
  exact hv
theorem v_lk_misses_19 {g : mG} {d : Nat} (x1 : Int32) (x2 : Int32) (o3 : Option mV) (o4 : Option mV) {h : mH} {Q : Option mV → mH → Prop} (hsk : mSK h) (hv : (((hI h 2 2 1) ≤ x2 → Q (some (vi x1)) h) ∧ (¬ (hI h 2 2 1) ≤ x2 → (∃ n1, mGet h 2 x2 (some (8, n1)) ∧ (((hI h 8 n1 4) < 0 → mT g me_lk_misses (d + 6) 0 0 19 [some (vr 5 0), some (vi x1), some (vi (x2 + 1)), some (vr 8 n1), o4] [] h Q) ∧ (¬ (hI h 8 n1 4) < 0 → (∃ n2, hP h 8 n1 2 = some (7, n2) ∧ (∃ n4, hP h 7 n2 1 = some (6, n4) ∧ mT g me_je_riseAmong (d + 5) 0 0 0 [some (vr 8 n1), some (vi (hI h 1 0 3)), some (vi (hI h 6 n4 5))] [] h (fun v h6 => ∃ y7, v = some (vi y7) ∧ mSK h6 ∧ (((y7 - (hI h6 8 n1 4)) ≤ (hI h6 5 0 1) → (((-(hI h6 5 0 1)) ≤ (y7 - (hI h6 8 n1 4)) → mT g me_lk_misses (d + 6) 0 0 19 [some (vr 5 0), some (vi (x1 ||| (0 : Int32))), some (vi (x2 + 1)), some (vr 8 n1), some (vi (y7 - (hI h6 8 n1 4)))] [] h6 Q) ∧ (¬ (-(hI h6 5 0 1)) ≤ (y7 - (hI h6 8 n1 4)) → mT g me_lk_misses (d + 6) 0 0 19 [some (vr 5 0), some (vi (x1 ||| (1 : Int32))), some (vi (x2 + 1)), some (vr 8 n1), some (vi (y7 - (hI h6 8 n1 4)))] [] h6 Q))) ∧ (¬ (y7 - (hI h6 8 n1 4)) ≤ (hI h6 5 0 1) → mT g me_lk_misses (d + 6) 0 0 19 [some (vr 5 0), some (vi (x1 ||| (2 : Int32))), some (vi (x2 + 1)), some (vr 8 n1), some (vi (y7 - (hI h6 8 n1 4)))] [] h6 Q))))))))))) : mT g me_lk_misses (d + 6) 0 0 19 [some (vr 5 0), some (vi x1), some (vi x2), o3, o4] [] h Q := by
  refine tr_iload_n (pc := 19) 2 k_lk_misses_19 rfl rfl ?_
  refine tr_aload_n (pc := 20) 0 k_lk_misses_20 rfl rfl ?_
  refine tr_getP (pc := 21) k_lk_misses_21 fl_lk_9 rfl (Eq.trans rfl (hsk.1 5 0 _ rfl)) ?_
  refine tr_getP (pc := 24) k_lk_misses_24 fl_lk_64 rfl (Eq.trans rfl (hsk.1 1 2 _ rfl)) ?_
  refine tr_callV (pc := 27) (d' := d + 5) (mc' := 0) (ms' := 0) [] k_lk_misses_27 ca_al_size ml_lk_32 ii_al_size ⟨by decide, rfl⟩ pa_al_size (by omega) (by omega) (by omega) rfl (Nat.le_of_ble_eq_true rfl) (Nat.le_of_ble_eq_true rfl) (Qk := fun v h9 => mT g me_lk_misses (d + 6) 0 0 30 [some (vr 5 0), some (vi x1), some (vi x2), o3, o4] (v.toList ++ [vi x2]) h9 _) ?_ (fun _ _ z => z)
  show mT g me_al_size (d + 5) 0 0 0 [some (vr 2 2)] [] h _
  refine tr_aload_n (pc := 0) 0 k_al_size_0 rfl rfl ?_
  refine tr_getIx (pc := 1) k_al_size_1 fl_al_48 rfl rfl ?_
  refine tr_ireturn (pc := 4) k_al_size_4 rfl rfl ?_
  show mT g me_lk_misses (d + 6) 0 0 30 [some (vr 5 0), some (vi x1), some (vi x2), o3, o4] [vi (hI h 2 2 1), vi x2] h _
  refine tr_icmp_ge (pc := 30) 120 k_lk_misses_30 (by decide) (fun q => ?_) (fun q => ?_)
  · replace hv := hv.1 q
    refine tr_iload_n (pc := 120) 1 k_lk_misses_120 rfl rfl ?_
    refine tr_ireturn (pc := 121) k_lk_misses_121 rfl rfl ?_
    exact hv
  · replace hv := hv.2 q
    refine tr_aload_n (pc := 33) 0 k_lk_misses_33 rfl rfl ?_
    refine tr_getP (pc := 34) k_lk_misses_34 fl_lk_9 rfl (Eq.trans rfl (hsk.1 5 0 _ rfl)) ?_
    refine tr_getP (pc := 37) k_lk_misses_37 fl_lk_64 rfl (Eq.trans rfl (hsk.1 1 2 _ rfl)) ?_
    refine tr_iload_n (pc := 40) 2 k_lk_misses_40 rfl rfl ?_
    obtain ⟨n1, hg, hv⟩ := hv
    refine tr_alget (pc := 41) k_lk_misses_41 ml_lk_37 (by omega) (Nat.le_of_ble_eq_true rfl) (mGet.up hg rfl rfl) ?_
    refine tr_cast (pc := 44) k_lk_misses_44 (by decide) cl_lk_67 ?_
    refine tr_astore_n (pc := 47) 3 k_lk_misses_47 rfl (by decide) rfl ?_
    show mT g me_lk_misses (d + 6) 0 0 48 [some (vr 5 0), some (vi x1), some (vi x2), some (vr 8 n1), o4] [] h _
    refine tr_aload_n (pc := 48) 3 k_lk_misses_48 rfl rfl ?_
    refine tr_getIx (pc := 49) k_lk_misses_49 fl_lk_69 rfl rfl ?_
    refine tr_if_lt (pc := 52) 114 k_lk_misses_52 (by decide) (fun q => ?_) (fun q => ?_)
    · replace hv := hv.1 q
      refine tr_iinc (pc := 114) (v := (x2 + 1)) k_lk_misses_114 rfl rfl (by decide) rfl ?_
      show mT g me_lk_misses (d + 6) 0 0 117 [some (vr 5 0), some (vi x1), some (vi (x2 + 1)), some (vr 8 n1), o4] [] h _
      refine tr_goto (pc := 117) 19 k_lk_misses_117 (by decide) ?_
      exact hv
    · replace hv := hv.2 q
      refine tr_aload_n (pc := 55) 3 k_lk_misses_55 rfl rfl ?_
      refine tr_aload_n (pc := 56) 0 k_lk_misses_56 rfl rfl ?_
      refine tr_getP (pc := 57) k_lk_misses_57 fl_lk_9 rfl (Eq.trans rfl (hsk.1 5 0 _ rfl)) ?_
      refine tr_getIx (pc := 60) k_lk_misses_60 fl_lk_82 rfl rfl ?_
      refine tr_aload_n (pc := 63) 3 k_lk_misses_63 rfl rfl ?_
      obtain ⟨n2, e3, hv⟩ := hv
      refine tr_getP (pc := 64) k_lk_misses_64 fl_lk_89 rfl (Eq.trans rfl e3) ?_
      obtain ⟨n4, e5, hv⟩ := hv
      refine tr_getP (pc := 67) k_lk_misses_67 fl_lk_93 rfl (Eq.trans rfl e5) ?_
      refine tr_getIx (pc := 70) k_lk_misses_70 fl_lk_97 rfl rfl ?_
      have hT := hv
      clear hv
      refine tr_callV (pc := 73) (d' := d + 5) (mc' := 0) (ms' := 0) [vi (hI h 1 0 3), vi (hI h 6 n4 5)] k_lk_misses_73 ca_je_riseAmong ml_lk_102 ii_je_riseAmong ⟨by decide, rfl⟩ pa_je_riseAmong (by omega) (by omega) (by omega) rfl (Nat.le_of_ble_eq_true rfl) (Nat.le_of_ble_eq_true rfl) hT (fun v h9 hv => ?_)
      clear hT
      obtain ⟨y7, rfl, hv⟩ := hv
      obtain ⟨h6, eh⟩ : ∃ z, z = h9 := ⟨_, rfl⟩
      subst eh
      obtain ⟨hskh6, hv⟩ := hv
      show mT g me_lk_misses (d + 6) 0 0 76 [some (vr 5 0), some (vi x1), some (vi x2), some (vr 8 n1), o4] [vi y7] h6 _
      refine tr_aload_n (pc := 76) 3 k_lk_misses_76 rfl rfl ?_
      refine tr_getIx (pc := 77) k_lk_misses_77 fl_lk_69 rfl rfl ?_
      refine tr_isub (pc := 80) k_lk_misses_80 ?_
      refine tr_istore (pc := 81) k_lk_misses_81 (by decide) rfl ?_
      show mT g me_lk_misses (d + 6) 0 0 83 [some (vr 5 0), some (vi x1), some (vi x2), some (vr 8 n1), some (vi (y7 - (hI h6 8 n1 4)))] [] h6 _
      refine tr_iload_n (pc := 83) 1 k_lk_misses_83 rfl rfl ?_
      refine tr_iload (pc := 84) k_lk_misses_84 rfl ?_
      refine tr_aload_n (pc := 86) 0 k_lk_misses_86 rfl rfl ?_
      refine tr_getIx (pc := 87) k_lk_misses_87 fl_lk_106 rfl rfl ?_
      refine tr_icmp_le (pc := 90) 97 k_lk_misses_90 (by decide) (fun q => ?_) (fun q => ?_)
      · replace hv := hv.1 q
        refine tr_iload (pc := 97) k_lk_misses_97 rfl ?_
        refine tr_aload_n (pc := 99) 0 k_lk_misses_99 rfl rfl ?_
        refine tr_getIx (pc := 100) k_lk_misses_100 fl_lk_106 rfl rfl ?_
        refine tr_ineg (pc := 103) k_lk_misses_103 ?_
        refine tr_icmp_ge (pc := 104) 111 k_lk_misses_104 (by decide) (fun q => ?_) (fun q => ?_)
        · replace hv := hv.1 q
          refine tr_iconst (pc := 111) (v := 0) k_lk_misses_111 (by decide) ?_
          refine tr_ior (pc := 112) k_lk_misses_112 ?_
          refine tr_istore_n (pc := 113) 1 k_lk_misses_113 rfl (by decide) rfl ?_
          show mT g me_lk_misses (d + 6) 0 0 114 [some (vr 5 0), some (vi (x1 ||| (0 : Int32))), some (vi x2), some (vr 8 n1), some (vi (y7 - (hI h6 8 n1 4)))] [] h6 _
          refine tr_iinc (pc := 114) (v := (x2 + 1)) k_lk_misses_114 rfl rfl (by decide) rfl ?_
          show mT g me_lk_misses (d + 6) 0 0 117 [some (vr 5 0), some (vi (x1 ||| (0 : Int32))), some (vi (x2 + 1)), some (vr 8 n1), some (vi (y7 - (hI h6 8 n1 4)))] [] h6 _
          refine tr_goto (pc := 117) 19 k_lk_misses_117 (by decide) ?_
          exact hv
        · replace hv := hv.2 q
          refine tr_iconst (pc := 107) (v := 1) k_lk_misses_107 (by decide) ?_
          refine tr_goto (pc := 108) 112 k_lk_misses_108 (by decide) ?_
          refine tr_ior (pc := 112) k_lk_misses_112 ?_
          refine tr_istore_n (pc := 113) 1 k_lk_misses_113 rfl (by decide) rfl ?_
          show mT g me_lk_misses (d + 6) 0 0 114 [some (vr 5 0), some (vi (x1 ||| (1 : Int32))), some (vi x2), some (vr 8 n1), some (vi (y7 - (hI h6 8 n1 4)))] [] h6 _
          refine tr_iinc (pc := 114) (v := (x2 + 1)) k_lk_misses_114 rfl rfl (by decide) rfl ?_
          show mT g me_lk_misses (d + 6) 0 0 117 [some (vr 5 0), some (vi (x1 ||| (1 : Int32))), some (vi (x2 + 1)), some (vr 8 n1), some (vi (y7 - (hI h6 8 n1 4)))] [] h6 _
          refine tr_goto (pc := 117) 19 k_lk_misses_117 (by decide) ?_
          exact hv
      · replace hv := hv.2 q
        refine tr_iconst (pc := 93) (v := 2) k_lk_misses_93 (by decide) ?_
        refine tr_goto (pc := 94) 112 k_lk_misses_94 (by decide) ?_
        refine tr_ior (pc := 112) k_lk_misses_112 ?_
        refine tr_istore_n (pc := 113) 1 k_lk_misses_113 rfl (by decide) rfl ?_
        show mT g me_lk_misses (d + 6) 0 0 114 [some (vr 5 0), some (vi (x1 ||| (2 : Int32))), some (vi x2), some (vr 8 n1), some (vi (y7 - (hI h6 8 n1 4)))] [] h6 _
        refine tr_iinc (pc := 114) (v := (x2 + 1)) k_lk_misses_114 rfl rfl (by decide) rfl ?_
        show mT g me_lk_misses (d + 6) 0 0 117 [some (vr 5 0), some (vi (x1 ||| (2 : Int32))), some (vi (x2 + 1)), some (vr 8 n1), some (vi (y7 - (hI h6 8 n1 4)))] [] h6 _
        refine tr_goto (pc := 117) 19 k_lk_misses_117 (by decide) ?_
        exact hv
theorem v_lk_explainsAlone_0 {g : mG} {d : Nat} (a1 : Nat) {h : mH} {Q : Option mV → mH → Prop} (hsk : mSK h) (hv : mT g me_lk_explainsAlone (d + 7) 0 0 7 [some (vr 5 0), some (vr 7 a1), some (vi (0 : Int32)), some (vi (0 : Int32)), some (vi (1 : Int32)), none] [] h Q) : mT g me_lk_explainsAlone (d + 7) 0 0 0 [some (vr 5 0), some (vr 7 a1), none, none, none, none] [] h Q := by
  refine tr_iconst (pc := 0) (v := 0) k_lk_explainsAlone_0 (by decide) ?_
  refine tr_istore_n (pc := 1) 2 k_lk_explainsAlone_1 rfl (by decide) rfl ?_
  show mT g me_lk_explainsAlone (d + 7) 0 0 2 [some (vr 5 0), some (vr 7 a1), some (vi (0 : Int32)), none, none, none] [] h _
  refine tr_iconst (pc := 2) (v := 0) k_lk_explainsAlone_2 (by decide) ?_
  refine tr_istore_n (pc := 3) 3 k_lk_explainsAlone_3 rfl (by decide) rfl ?_
  show mT g me_lk_explainsAlone (d + 7) 0 0 4 [some (vr 5 0), some (vr 7 a1), some (vi (0 : Int32)), some (vi (0 : Int32)), none, none] [] h _
  refine tr_iconst (pc := 4) (v := 1) k_lk_explainsAlone_4 (by decide) ?_
  refine tr_istore (pc := 5) k_lk_explainsAlone_5 (by decide) rfl ?_
  show mT g me_lk_explainsAlone (d + 7) 0 0 7 [some (vr 5 0), some (vr 7 a1), some (vi (0 : Int32)), some (vi (0 : Int32)), some (vi (1 : Int32)), none] [] h _
  exact hv
theorem v_lk_explainsAlone_7 {g : mG} {d : Nat} (a1 : Nat) (x2 : Int32) (x3 : Int32) (x4 : Int32) (o5 : Option mV) {h : mH} {Q : Option mV → mH → Prop} (hsk : mSK h) (hv : (((60 : Int32) < x4 → ((x2 = 0 → (vp_nar .boolean x2 = x2 ∧ Q (some (vi x2)) (setI h 7 a1 7 (0 : Int32)))) ∧ (¬ x2 = 0 → (vp_nar .boolean x2 = x2 ∧ Q (some (vi x2)) (setI (setI (setI h 5 0 2 (hI h 7 a1 0)) 5 0 3 (hI h 7 a1 7)) 7 a1 7 (0 : Int32)))))) ∧ (¬ (60 : Int32) < x4 → ((¬ x2 = 0 → ((x2 = 0 → (vp_nar .boolean x2 = x2 ∧ Q (some (vi x2)) (setI h 7 a1 7 (0 : Int32)))) ∧ (¬ x2 = 0 → (vp_nar .boolean x2 = x2 ∧ Q (some (vi x2)) (setI (setI (setI h 5 0 2 (hI h 7 a1 0)) 5 0 3 (hI h 7 a1 7)) 7 a1 7 (0 : Int32)))))) ∧ (x2 = 0 → ((¬ x3 = 0 → ((x2 = 0 → (vp_nar .boolean x2 = x2 ∧ Q (some (vi x2)) (setI h 7 a1 7 (0 : Int32)))) ∧ (¬ x2 = 0 → (vp_nar .boolean x2 = x2 ∧ Q (some (vi x2)) (setI (setI (setI h 5 0 2 (hI h 7 a1 0)) 5 0 3 (hI h 7 a1 7)) 7 a1 7 (0 : Int32)))))) ∧ (x3 = 0 → mT g me_lk_misses (d + 6) 0 0 0 [some (vr 5 0), none, none, none, none] [] (setI h 7 a1 7 x4) (fun v h1 => ∃ y2, v = some (vi y2) ∧ mSK h1 ∧ (((y2 &&& (1 : Int32)) = 0 → ((¬ y2 = 0 → mT g me_lk_explainsAlone (d + 7) 0 0 7 [some (vr 5 0), some (vr 7 a1), some (vi (0 : Int32)), some (vi (0 : Int32)), some (vi (x4 + 1)), some (vi y2)] [] h1 Q) ∧ (y2 = 0 → mT g me_lk_explainsAlone (d + 7) 0 0 7 [some (vr 5 0), some (vr 7 a1), some (vi (1 : Int32)), some (vi (0 : Int32)), some (vi (x4 + 1)), some (vi y2)] [] h1 Q))) ∧ (¬ (y2 &&& (1 : Int32)) = 0 → ((¬ y2 = 0 → mT g me_lk_explainsAlone (d + 7) 0 0 7 [some (vr 5 0), some (vr 7 a1), some (vi (0 : Int32)), some (vi (1 : Int32)), some (vi (x4 + 1)), some (vi y2)] [] h1 Q) ∧ (y2 = 0 → mT g me_lk_explainsAlone (d + 7) 0 0 7 [some (vr 5 0), some (vr 7 a1), some (vi (1 : Int32)), some (vi (1 : Int32)), some (vi (x4 + 1)), some (vi y2)] [] h1 Q)))))))))))) : mT g me_lk_explainsAlone (d + 7) 0 0 7 [some (vr 5 0), some (vr 7 a1), some (vi x2), some (vi x3), some (vi x4), o5] [] h Q := by
  refine tr_iload (pc := 7) k_lk_explainsAlone_7 rfl ?_
  refine tr_bipush (pc := 9) (v := 60) k_lk_explainsAlone_9 (by decide) ?_
  refine tr_icmp_gt (pc := 11) 64 k_lk_explainsAlone_11 (by decide) (fun q => ?_) (fun q => ?_)
  · replace hv := hv.1 q
    refine tr_iload_n (pc := 64) 2 k_lk_explainsAlone_64 rfl rfl ?_
    refine tr_if_eq (pc := 65) 84 k_lk_explainsAlone_65 (by decide) (fun q => ?_) (fun q => ?_)
    · replace hv := hv.1 q
      refine tr_aload_n (pc := 84) 1 k_lk_explainsAlone_84 rfl rfl ?_
      refine tr_iconst (pc := 85) (v := 0) k_lk_explainsAlone_85 (by decide) ?_
      refine tr_putI (pc := 86) k_lk_explainsAlone_86 fl_lk_72 (Or.inl rfl) rfl ⟨rfl, rfl⟩ ?_
      refine tr_iload_n (pc := 89) 2 k_lk_explainsAlone_89 rfl rfl ?_
      refine tr_ireturn (pc := 90) k_lk_explainsAlone_90 rfl (mzret hv.1) ?_
      replace hv := hv.2
      exact hv
    · replace hv := hv.2 q
      refine tr_aload_n (pc := 68) 0 k_lk_explainsAlone_68 rfl rfl ?_
      refine tr_aload_n (pc := 69) 1 k_lk_explainsAlone_69 rfl rfl ?_
      refine tr_getIx (pc := 70) k_lk_explainsAlone_70 fl_lk_75 rfl rfl ?_
      refine tr_putI (pc := 73) k_lk_explainsAlone_73 fl_lk_51 (Or.inl rfl) rfl ⟨rfl, rfl⟩ ?_
      refine tr_aload_n (pc := 76) 0 k_lk_explainsAlone_76 rfl rfl ?_
      refine tr_aload_n (pc := 77) 1 k_lk_explainsAlone_77 rfl rfl ?_
      refine tr_getIx (pc := 78) k_lk_explainsAlone_78 fl_lk_72 rfl (hI_nk (by decide)) ?_
      refine tr_putI (pc := 81) k_lk_explainsAlone_81 fl_lk_55 (Or.inl rfl) rfl ⟨rfl, rfl⟩ ?_
      refine tr_aload_n (pc := 84) 1 k_lk_explainsAlone_84 rfl rfl ?_
      refine tr_iconst (pc := 85) (v := 0) k_lk_explainsAlone_85 (by decide) ?_
      refine tr_putI (pc := 86) k_lk_explainsAlone_86 fl_lk_72 (Or.inl rfl) rfl ⟨rfl, rfl⟩ ?_
      refine tr_iload_n (pc := 89) 2 k_lk_explainsAlone_89 rfl rfl ?_
      refine tr_ireturn (pc := 90) k_lk_explainsAlone_90 rfl (mzret hv.1) ?_
      replace hv := hv.2
      exact hv
  · replace hv := hv.2 q
    refine tr_iload_n (pc := 14) 2 k_lk_explainsAlone_14 rfl rfl ?_
    refine tr_if_ne (pc := 15) 64 k_lk_explainsAlone_15 (by decide) (fun q => ?_) (fun q => ?_)
    · replace hv := hv.1 q
      refine tr_iload_n (pc := 64) 2 k_lk_explainsAlone_64 rfl rfl ?_
      refine tr_if_eq (pc := 65) 84 k_lk_explainsAlone_65 (by decide) (fun q => ?_) (fun q => ?_)
      · replace hv := hv.1 q
        refine tr_aload_n (pc := 84) 1 k_lk_explainsAlone_84 rfl rfl ?_
        refine tr_iconst (pc := 85) (v := 0) k_lk_explainsAlone_85 (by decide) ?_
        refine tr_putI (pc := 86) k_lk_explainsAlone_86 fl_lk_72 (Or.inl rfl) rfl ⟨rfl, rfl⟩ ?_
        refine tr_iload_n (pc := 89) 2 k_lk_explainsAlone_89 rfl rfl ?_
        refine tr_ireturn (pc := 90) k_lk_explainsAlone_90 rfl (mzret hv.1) ?_
        replace hv := hv.2
        exact hv
      · replace hv := hv.2 q
        refine tr_aload_n (pc := 68) 0 k_lk_explainsAlone_68 rfl rfl ?_
        refine tr_aload_n (pc := 69) 1 k_lk_explainsAlone_69 rfl rfl ?_
        refine tr_getIx (pc := 70) k_lk_explainsAlone_70 fl_lk_75 rfl rfl ?_
        refine tr_putI (pc := 73) k_lk_explainsAlone_73 fl_lk_51 (Or.inl rfl) rfl ⟨rfl, rfl⟩ ?_
        refine tr_aload_n (pc := 76) 0 k_lk_explainsAlone_76 rfl rfl ?_
        refine tr_aload_n (pc := 77) 1 k_lk_explainsAlone_77 rfl rfl ?_
        refine tr_getIx (pc := 78) k_lk_explainsAlone_78 fl_lk_72 rfl (hI_nk (by decide)) ?_
        refine tr_putI (pc := 81) k_lk_explainsAlone_81 fl_lk_55 (Or.inl rfl) rfl ⟨rfl, rfl⟩ ?_
        refine tr_aload_n (pc := 84) 1 k_lk_explainsAlone_84 rfl rfl ?_
        refine tr_iconst (pc := 85) (v := 0) k_lk_explainsAlone_85 (by decide) ?_
        refine tr_putI (pc := 86) k_lk_explainsAlone_86 fl_lk_72 (Or.inl rfl) rfl ⟨rfl, rfl⟩ ?_
        refine tr_iload_n (pc := 89) 2 k_lk_explainsAlone_89 rfl rfl ?_
        refine tr_ireturn (pc := 90) k_lk_explainsAlone_90 rfl (mzret hv.1) ?_
        replace hv := hv.2
        exact hv
    · replace hv := hv.2 q
      refine tr_iload_n (pc := 18) 3 k_lk_explainsAlone_18 rfl rfl ?_
      refine tr_if_ne (pc := 19) 64 k_lk_explainsAlone_19 (by decide) (fun q => ?_) (fun q => ?_)
      · replace hv := hv.1 q
        refine tr_iload_n (pc := 64) 2 k_lk_explainsAlone_64 rfl rfl ?_
        refine tr_if_eq (pc := 65) 84 k_lk_explainsAlone_65 (by decide) (fun q => ?_) (fun q => ?_)
        · replace hv := hv.1 q
          refine tr_aload_n (pc := 84) 1 k_lk_explainsAlone_84 rfl rfl ?_
          refine tr_iconst (pc := 85) (v := 0) k_lk_explainsAlone_85 (by decide) ?_
          refine tr_putI (pc := 86) k_lk_explainsAlone_86 fl_lk_72 (Or.inl rfl) rfl ⟨rfl, rfl⟩ ?_
          refine tr_iload_n (pc := 89) 2 k_lk_explainsAlone_89 rfl rfl ?_
          refine tr_ireturn (pc := 90) k_lk_explainsAlone_90 rfl (mzret hv.1) ?_
          replace hv := hv.2
          exact hv
        · replace hv := hv.2 q
          refine tr_aload_n (pc := 68) 0 k_lk_explainsAlone_68 rfl rfl ?_
          refine tr_aload_n (pc := 69) 1 k_lk_explainsAlone_69 rfl rfl ?_
          refine tr_getIx (pc := 70) k_lk_explainsAlone_70 fl_lk_75 rfl rfl ?_
          refine tr_putI (pc := 73) k_lk_explainsAlone_73 fl_lk_51 (Or.inl rfl) rfl ⟨rfl, rfl⟩ ?_
          refine tr_aload_n (pc := 76) 0 k_lk_explainsAlone_76 rfl rfl ?_
          refine tr_aload_n (pc := 77) 1 k_lk_explainsAlone_77 rfl rfl ?_
          refine tr_getIx (pc := 78) k_lk_explainsAlone_78 fl_lk_72 rfl (hI_nk (by decide)) ?_
          refine tr_putI (pc := 81) k_lk_explainsAlone_81 fl_lk_55 (Or.inl rfl) rfl ⟨rfl, rfl⟩ ?_
          refine tr_aload_n (pc := 84) 1 k_lk_explainsAlone_84 rfl rfl ?_
          refine tr_iconst (pc := 85) (v := 0) k_lk_explainsAlone_85 (by decide) ?_
          refine tr_putI (pc := 86) k_lk_explainsAlone_86 fl_lk_72 (Or.inl rfl) rfl ⟨rfl, rfl⟩ ?_
          refine tr_iload_n (pc := 89) 2 k_lk_explainsAlone_89 rfl rfl ?_
          refine tr_ireturn (pc := 90) k_lk_explainsAlone_90 rfl (mzret hv.1) ?_
          replace hv := hv.2
          exact hv
      · replace hv := hv.2 q
        refine tr_aload_n (pc := 22) 1 k_lk_explainsAlone_22 rfl rfl ?_
        refine tr_iload (pc := 23) k_lk_explainsAlone_23 rfl ?_
        refine tr_putI (pc := 25) k_lk_explainsAlone_25 fl_lk_72 (Or.inl rfl) rfl ⟨rfl, rfl⟩ ?_
        refine tr_aload_n (pc := 28) 0 k_lk_explainsAlone_28 rfl rfl ?_
        have hT := hv
        clear hv
        refine tr_callV (pc := 29) (d' := d + 6) (mc' := 0) (ms' := 0) [] k_lk_explainsAlone_29 ca_lk_misses ml_lk_22 ii_lk_misses ⟨by decide, rfl⟩ pa_lk_misses (by omega) (by omega) (by omega) rfl (Nat.le_of_ble_eq_true rfl) (Nat.le_of_ble_eq_true rfl) hT (fun v h9 hv => ?_)
        clear hT
        obtain ⟨y2, rfl, hv⟩ := hv
        obtain ⟨h1, eh⟩ : ∃ z, z = h9 := ⟨_, rfl⟩
        subst eh
        obtain ⟨hskh1, hv⟩ := hv
        show mT g me_lk_explainsAlone (d + 7) 0 0 32 [some (vr 5 0), some (vr 7 a1), some (vi x2), some (vi x3), some (vi x4), o5] [vi y2] h1 _
        refine tr_istore (pc := 32) k_lk_explainsAlone_32 (by decide) rfl ?_
        show mT g me_lk_explainsAlone (d + 7) 0 0 34 [some (vr 5 0), some (vr 7 a1), some (vi x2), some (vi x3), some (vi x4), some (vi y2)] [] h1 _
        refine tr_iload (pc := 34) k_lk_explainsAlone_34 rfl ?_
        refine tr_iconst (pc := 36) (v := 1) k_lk_explainsAlone_36 (by decide) ?_
        refine tr_iand (pc := 37) k_lk_explainsAlone_37 ?_
        refine tr_if_eq (pc := 38) 45 k_lk_explainsAlone_38 (by decide) (fun q => ?_) (fun q => ?_)
        · replace hv := hv.1 q
          refine tr_iconst (pc := 45) (v := 0) k_lk_explainsAlone_45 (by decide) ?_
          refine tr_istore_n (pc := 46) 3 k_lk_explainsAlone_46 rfl (by decide) rfl ?_
          show mT g me_lk_explainsAlone (d + 7) 0 0 47 [some (vr 5 0), some (vr 7 a1), some (vi x2), some (vi (0 : Int32)), some (vi x4), some (vi y2)] [] h1 _
          refine tr_iload (pc := 47) k_lk_explainsAlone_47 rfl ?_
          refine tr_if_ne (pc := 49) 56 k_lk_explainsAlone_49 (by decide) (fun q => ?_) (fun q => ?_)
          · replace hv := hv.1 q
            refine tr_iconst (pc := 56) (v := 0) k_lk_explainsAlone_56 (by decide) ?_
            refine tr_istore_n (pc := 57) 2 k_lk_explainsAlone_57 rfl (by decide) rfl ?_
            show mT g me_lk_explainsAlone (d + 7) 0 0 58 [some (vr 5 0), some (vr 7 a1), some (vi (0 : Int32)), some (vi (0 : Int32)), some (vi x4), some (vi y2)] [] h1 _
            refine tr_iinc (pc := 58) (v := (x4 + 1)) k_lk_explainsAlone_58 rfl rfl (by decide) rfl ?_
            show mT g me_lk_explainsAlone (d + 7) 0 0 61 [some (vr 5 0), some (vr 7 a1), some (vi (0 : Int32)), some (vi (0 : Int32)), some (vi (x4 + 1)), some (vi y2)] [] h1 _
            refine tr_goto (pc := 61) 7 k_lk_explainsAlone_61 (by decide) ?_
            exact hv
          · replace hv := hv.2 q
            refine tr_iconst (pc := 52) (v := 1) k_lk_explainsAlone_52 (by decide) ?_
            refine tr_goto (pc := 53) 57 k_lk_explainsAlone_53 (by decide) ?_
            refine tr_istore_n (pc := 57) 2 k_lk_explainsAlone_57 rfl (by decide) rfl ?_
            show mT g me_lk_explainsAlone (d + 7) 0 0 58 [some (vr 5 0), some (vr 7 a1), some (vi (1 : Int32)), some (vi (0 : Int32)), some (vi x4), some (vi y2)] [] h1 _
            refine tr_iinc (pc := 58) (v := (x4 + 1)) k_lk_explainsAlone_58 rfl rfl (by decide) rfl ?_
            show mT g me_lk_explainsAlone (d + 7) 0 0 61 [some (vr 5 0), some (vr 7 a1), some (vi (1 : Int32)), some (vi (0 : Int32)), some (vi (x4 + 1)), some (vi y2)] [] h1 _
            refine tr_goto (pc := 61) 7 k_lk_explainsAlone_61 (by decide) ?_
            exact hv
        · replace hv := hv.2 q
          refine tr_iconst (pc := 41) (v := 1) k_lk_explainsAlone_41 (by decide) ?_
          refine tr_goto (pc := 42) 46 k_lk_explainsAlone_42 (by decide) ?_
          refine tr_istore_n (pc := 46) 3 k_lk_explainsAlone_46 rfl (by decide) rfl ?_
          show mT g me_lk_explainsAlone (d + 7) 0 0 47 [some (vr 5 0), some (vr 7 a1), some (vi x2), some (vi (1 : Int32)), some (vi x4), some (vi y2)] [] h1 _
          refine tr_iload (pc := 47) k_lk_explainsAlone_47 rfl ?_
          refine tr_if_ne (pc := 49) 56 k_lk_explainsAlone_49 (by decide) (fun q => ?_) (fun q => ?_)
          · replace hv := hv.1 q
            refine tr_iconst (pc := 56) (v := 0) k_lk_explainsAlone_56 (by decide) ?_
            refine tr_istore_n (pc := 57) 2 k_lk_explainsAlone_57 rfl (by decide) rfl ?_
            show mT g me_lk_explainsAlone (d + 7) 0 0 58 [some (vr 5 0), some (vr 7 a1), some (vi (0 : Int32)), some (vi (1 : Int32)), some (vi x4), some (vi y2)] [] h1 _
            refine tr_iinc (pc := 58) (v := (x4 + 1)) k_lk_explainsAlone_58 rfl rfl (by decide) rfl ?_
            show mT g me_lk_explainsAlone (d + 7) 0 0 61 [some (vr 5 0), some (vr 7 a1), some (vi (0 : Int32)), some (vi (1 : Int32)), some (vi (x4 + 1)), some (vi y2)] [] h1 _
            refine tr_goto (pc := 61) 7 k_lk_explainsAlone_61 (by decide) ?_
            exact hv
          · replace hv := hv.2 q
            refine tr_iconst (pc := 52) (v := 1) k_lk_explainsAlone_52 (by decide) ?_
            refine tr_goto (pc := 53) 57 k_lk_explainsAlone_53 (by decide) ?_
            refine tr_istore_n (pc := 57) 2 k_lk_explainsAlone_57 rfl (by decide) rfl ?_
            show mT g me_lk_explainsAlone (d + 7) 0 0 58 [some (vr 5 0), some (vr 7 a1), some (vi (1 : Int32)), some (vi (1 : Int32)), some (vi x4), some (vi y2)] [] h1 _
            refine tr_iinc (pc := 58) (v := (x4 + 1)) k_lk_explainsAlone_58 rfl rfl (by decide) rfl ?_
            show mT g me_lk_explainsAlone (d + 7) 0 0 61 [some (vr 5 0), some (vr 7 a1), some (vi (1 : Int32)), some (vi (1 : Int32)), some (vi (x4 + 1)), some (vi y2)] [] h1 _
            refine tr_goto (pc := 61) 7 k_lk_explainsAlone_61 (by decide) ?_
            exact hv
theorem v_lk_explainTogether_0 {g : mG} {d : Nat} (a1 : Nat) (a2 : Nat) {h : mH} {Q : Option mV → mH → Prop} (hsk : mSK h) (hv : mT g me_lk_misses (d + 6) 0 0 0 [some (vr 5 0), none, none, none, none] [] (setI (setI h 7 a1 7 (12 : Int32)) 7 a2 7 (12 : Int32)) (fun v h1 => ∃ y2, v = some (vi y2) ∧ mSK h1 ∧ (((y2 &&& (2 : Int32)) = 0 → mT g me_lk_explainTogether (d + 7) 0 0 33 [some (vr 5 0), some (vr 7 a1), some (vr 7 a2), some (vi (0 : Int32)), some (vi (0 : Int32)), some (vi (1 : Int32)), none, none, none] [] h1 Q) ∧ (¬ (y2 &&& (2 : Int32)) = 0 → mT g me_lk_explainTogether (d + 7) 0 0 33 [some (vr 5 0), some (vr 7 a1), some (vr 7 a2), some (vi (1 : Int32)), some (vi (0 : Int32)), some (vi (1 : Int32)), none, none, none] [] h1 Q)))) : mT g me_lk_explainTogether (d + 7) 0 0 0 [some (vr 5 0), some (vr 7 a1), some (vr 7 a2), none, none, none, none, none, none] [] h Q := by
  refine tr_aload_n (pc := 0) 1 k_lk_explainTogether_0 rfl rfl ?_
  refine tr_bipush (pc := 1) (v := 12) k_lk_explainTogether_1 (by decide) ?_
  refine tr_putI (pc := 3) k_lk_explainTogether_3 fl_lk_72 (Or.inl rfl) rfl ⟨rfl, rfl⟩ ?_
  refine tr_aload_n (pc := 6) 2 k_lk_explainTogether_6 rfl rfl ?_
  refine tr_bipush (pc := 7) (v := 12) k_lk_explainTogether_7 (by decide) ?_
  refine tr_putI (pc := 9) k_lk_explainTogether_9 fl_lk_72 (Or.inl rfl) rfl ⟨rfl, rfl⟩ ?_
  refine tr_aload_n (pc := 12) 0 k_lk_explainTogether_12 rfl rfl ?_
  have hT := hv
  clear hv
  refine tr_callV (pc := 13) (d' := d + 6) (mc' := 0) (ms' := 0) [] k_lk_explainTogether_13 ca_lk_misses ml_lk_22 ii_lk_misses ⟨by decide, rfl⟩ pa_lk_misses (by omega) (by omega) (by omega) rfl (Nat.le_of_ble_eq_true rfl) (Nat.le_of_ble_eq_true rfl) hT (fun v h9 hv => ?_)
  clear hT
  obtain ⟨y2, rfl, hv⟩ := hv
  obtain ⟨h1, eh⟩ : ∃ z, z = h9 := ⟨_, rfl⟩
  subst eh
  obtain ⟨hskh1, hv⟩ := hv
  show mT g me_lk_explainTogether (d + 7) 0 0 16 [some (vr 5 0), some (vr 7 a1), some (vr 7 a2), none, none, none, none, none, none] [vi y2] h1 _
  refine tr_iconst (pc := 16) (v := 2) k_lk_explainTogether_16 (by decide) ?_
  refine tr_iand (pc := 17) k_lk_explainTogether_17 ?_
  refine tr_if_eq (pc := 18) 25 k_lk_explainTogether_18 (by decide) (fun q => ?_) (fun q => ?_)
  · replace hv := hv.1 q
    refine tr_iconst (pc := 25) (v := 0) k_lk_explainTogether_25 (by decide) ?_
    refine tr_istore_n (pc := 26) 3 k_lk_explainTogether_26 rfl (by decide) rfl ?_
    show mT g me_lk_explainTogether (d + 7) 0 0 27 [some (vr 5 0), some (vr 7 a1), some (vr 7 a2), some (vi (0 : Int32)), none, none, none, none, none] [] h1 _
    refine tr_iconst (pc := 27) (v := 0) k_lk_explainTogether_27 (by decide) ?_
    refine tr_istore (pc := 28) k_lk_explainTogether_28 (by decide) rfl ?_
    show mT g me_lk_explainTogether (d + 7) 0 0 30 [some (vr 5 0), some (vr 7 a1), some (vr 7 a2), some (vi (0 : Int32)), some (vi (0 : Int32)), none, none, none, none] [] h1 _
    refine tr_iconst (pc := 30) (v := 1) k_lk_explainTogether_30 (by decide) ?_
    refine tr_istore (pc := 31) k_lk_explainTogether_31 (by decide) rfl ?_
    show mT g me_lk_explainTogether (d + 7) 0 0 33 [some (vr 5 0), some (vr 7 a1), some (vr 7 a2), some (vi (0 : Int32)), some (vi (0 : Int32)), some (vi (1 : Int32)), none, none, none] [] h1 _
    exact hv
  · replace hv := hv.2 q
    refine tr_iconst (pc := 21) (v := 1) k_lk_explainTogether_21 (by decide) ?_
    refine tr_goto (pc := 22) 26 k_lk_explainTogether_22 (by decide) ?_
    refine tr_istore_n (pc := 26) 3 k_lk_explainTogether_26 rfl (by decide) rfl ?_
    show mT g me_lk_explainTogether (d + 7) 0 0 27 [some (vr 5 0), some (vr 7 a1), some (vr 7 a2), some (vi (1 : Int32)), none, none, none, none, none] [] h1 _
    refine tr_iconst (pc := 27) (v := 0) k_lk_explainTogether_27 (by decide) ?_
    refine tr_istore (pc := 28) k_lk_explainTogether_28 (by decide) rfl ?_
    show mT g me_lk_explainTogether (d + 7) 0 0 30 [some (vr 5 0), some (vr 7 a1), some (vr 7 a2), some (vi (1 : Int32)), some (vi (0 : Int32)), none, none, none, none] [] h1 _
    refine tr_iconst (pc := 30) (v := 1) k_lk_explainTogether_30 (by decide) ?_
    refine tr_istore (pc := 31) k_lk_explainTogether_31 (by decide) rfl ?_
    show mT g me_lk_explainTogether (d + 7) 0 0 33 [some (vr 5 0), some (vr 7 a1), some (vr 7 a2), some (vi (1 : Int32)), some (vi (0 : Int32)), some (vi (1 : Int32)), none, none, none] [] h1 _
    exact hv
theorem v_lk_explainTogether_33 {g : mG} {d : Nat} (a1 : Nat) (a2 : Nat) (x3 : Int32) (x4 : Int32) (x5 : Int32) (o6 : Option mV) (o7 : Option mV) (o8 : Option mV) {h : mH} {Q : Option mV → mH → Prop} (hsk : mSK h) (hv : (((12 : Int32) < x5 → ((x4 = 0 → (vp_nar .boolean x4 = x4 ∧ Q (some (vi x4)) (setI (setI h 7 a1 7 (0 : Int32)) 7 a2 7 (0 : Int32)))) ∧ (¬ x4 = 0 → (vp_nar .boolean x4 = x4 ∧ Q (some (vi x4)) (setI (setI (setI (setI (setI (setI h 5 0 2 (hI h 7 a1 0)) 5 0 3 (hI h 7 a1 7)) 5 0 4 (hI h 7 a2 0)) 5 0 5 (hI h 7 a2 7)) 7 a1 7 (0 : Int32)) 7 a2 7 (0 : Int32)))))) ∧ (¬ (12 : Int32) < x5 → ((¬ x4 = 0 → ((x4 = 0 → (vp_nar .boolean x4 = x4 ∧ Q (some (vi x4)) (setI (setI h 7 a1 7 (0 : Int32)) 7 a2 7 (0 : Int32)))) ∧ (¬ x4 = 0 → (vp_nar .boolean x4 = x4 ∧ Q (some (vi x4)) (setI (setI (setI (setI (setI (setI h 5 0 2 (hI h 7 a1 0)) 5 0 3 (hI h 7 a1 7)) 5 0 4 (hI h 7 a2 0)) 5 0 5 (hI h 7 a2 7)) 7 a1 7 (0 : Int32)) 7 a2 7 (0 : Int32)))))) ∧ (x4 = 0 → ((¬ x3 = 0 → ((x4 = 0 → (vp_nar .boolean x4 = x4 ∧ Q (some (vi x4)) (setI (setI h 7 a1 7 (0 : Int32)) 7 a2 7 (0 : Int32)))) ∧ (¬ x4 = 0 → (vp_nar .boolean x4 = x4 ∧ Q (some (vi x4)) (setI (setI (setI (setI (setI (setI h 5 0 2 (hI h 7 a1 0)) 5 0 3 (hI h 7 a1 7)) 5 0 4 (hI h 7 a2 0)) 5 0 5 (hI h 7 a2 7)) 7 a1 7 (0 : Int32)) 7 a2 7 (0 : Int32)))))) ∧ (x3 = 0 → mT g me_lk_explainTogether (d + 7) 0 0 61 [some (vr 5 0), some (vr 7 a1), some (vr 7 a2), some (vi x3), some (vi x4), some (vi x5), some (vi (0 : Int32)), some (vi (1 : Int32)), o8] [] (setI h 7 a1 7 x5) Q))))))) : mT g me_lk_explainTogether (d + 7) 0 0 33 [some (vr 5 0), some (vr 7 a1), some (vr 7 a2), some (vi x3), some (vi x4), some (vi x5), o6, o7, o8] [] h Q := by
  refine tr_iload (pc := 33) k_lk_explainTogether_33 rfl ?_
  refine tr_bipush (pc := 35) (v := 12) k_lk_explainTogether_35 (by decide) ?_
  refine tr_icmp_gt (pc := 37) 128 k_lk_explainTogether_37 (by decide) (fun q => ?_) (fun q => ?_)
  · replace hv := hv.1 q
    refine tr_iload (pc := 128) k_lk_explainTogether_128 rfl ?_
    refine tr_if_eq (pc := 130) 139 k_lk_explainTogether_130 (by decide) (fun q => ?_) (fun q => ?_)
    · replace hv := hv.1 q
      refine tr_aload_n (pc := 139) 1 k_lk_explainTogether_139 rfl rfl ?_
      refine tr_iconst (pc := 140) (v := 0) k_lk_explainTogether_140 (by decide) ?_
      refine tr_putI (pc := 141) k_lk_explainTogether_141 fl_lk_72 (Or.inl rfl) rfl ⟨rfl, rfl⟩ ?_
      refine tr_aload_n (pc := 144) 2 k_lk_explainTogether_144 rfl rfl ?_
      refine tr_iconst (pc := 145) (v := 0) k_lk_explainTogether_145 (by decide) ?_
      refine tr_putI (pc := 146) k_lk_explainTogether_146 fl_lk_72 (Or.inl rfl) rfl ⟨rfl, rfl⟩ ?_
      refine tr_iload (pc := 149) k_lk_explainTogether_149 rfl ?_
      refine tr_ireturn (pc := 151) k_lk_explainTogether_151 rfl (mzret hv.1) ?_
      replace hv := hv.2
      exact hv
    · replace hv := hv.2 q
      refine tr_aload_n (pc := 133) 0 k_lk_explainTogether_133 rfl rfl ?_
      refine tr_aload_n (pc := 134) 1 k_lk_explainTogether_134 rfl rfl ?_
      refine tr_aload_n (pc := 135) 2 k_lk_explainTogether_135 rfl rfl ?_
      refine tr_callV (pc := 136) (d' := d + 6) (mc' := 0) (ms' := 0) [vr 7 a1, vr 7 a2] k_lk_explainTogether_136 ca_lk_keepTwo ml_lk_78 ii_lk_keepTwo ⟨by decide, rfl⟩ pa_lk_keepTwo (by omega) (by omega) (by omega) rfl (Nat.le_of_ble_eq_true rfl) (Nat.le_of_ble_eq_true rfl) (Qk := fun v h9 => mT g me_lk_explainTogether (d + 7) 0 0 139 [some (vr 5 0), some (vr 7 a1), some (vr 7 a2), some (vi x3), some (vi x4), some (vi x5), o6, o7, o8] (v.toList ++ []) h9 _) ?_ (fun _ _ z => z)
      show mT g me_lk_keepTwo (d + 6) 0 0 0 [some (vr 5 0), some (vr 7 a1), some (vr 7 a2)] [] h _
      refine tr_aload_n (pc := 0) 0 k_lk_keepTwo_0 rfl rfl ?_
      refine tr_aload_n (pc := 1) 1 k_lk_keepTwo_1 rfl rfl ?_
      refine tr_getIx (pc := 2) k_lk_keepTwo_2 fl_lk_75 rfl rfl ?_
      refine tr_putI (pc := 5) k_lk_keepTwo_5 fl_lk_51 (Or.inl rfl) rfl ⟨rfl, rfl⟩ ?_
      refine tr_aload_n (pc := 8) 0 k_lk_keepTwo_8 rfl rfl ?_
      refine tr_aload_n (pc := 9) 1 k_lk_keepTwo_9 rfl rfl ?_
      refine tr_getIx (pc := 10) k_lk_keepTwo_10 fl_lk_72 rfl (hI_nk (by decide)) ?_
      refine tr_putI (pc := 13) k_lk_keepTwo_13 fl_lk_55 (Or.inl rfl) rfl ⟨rfl, rfl⟩ ?_
      refine tr_aload_n (pc := 16) 0 k_lk_keepTwo_16 rfl rfl ?_
      refine tr_aload_n (pc := 17) 2 k_lk_keepTwo_17 rfl rfl ?_
      refine tr_getIx (pc := 18) k_lk_keepTwo_18 fl_lk_75 rfl (Eq.trans (hI_nk (by decide)) (hI_nk (by decide))) ?_
      refine tr_putI (pc := 21) k_lk_keepTwo_21 fl_lk_58 (Or.inl rfl) rfl ⟨rfl, rfl⟩ ?_
      refine tr_aload_n (pc := 24) 0 k_lk_keepTwo_24 rfl rfl ?_
      refine tr_aload_n (pc := 25) 2 k_lk_keepTwo_25 rfl rfl ?_
      refine tr_getIx (pc := 26) k_lk_keepTwo_26 fl_lk_72 rfl (Eq.trans (hI_nk (by decide)) (Eq.trans (hI_nk (by decide)) (hI_nk (by decide)))) ?_
      refine tr_putI (pc := 29) k_lk_keepTwo_29 fl_lk_61 (Or.inl rfl) rfl ⟨rfl, rfl⟩ ?_
      refine tr_return (pc := 32) k_lk_keepTwo_32 rfl ?_
      show mT g me_lk_explainTogether (d + 7) 0 0 139 [some (vr 5 0), some (vr 7 a1), some (vr 7 a2), some (vi x3), some (vi x4), some (vi x5), o6, o7, o8] [] (setI (setI (setI (setI h 5 0 2 (hI h 7 a1 0)) 5 0 3 (hI h 7 a1 7)) 5 0 4 (hI h 7 a2 0)) 5 0 5 (hI h 7 a2 7)) _
      refine tr_aload_n (pc := 139) 1 k_lk_explainTogether_139 rfl rfl ?_
      refine tr_iconst (pc := 140) (v := 0) k_lk_explainTogether_140 (by decide) ?_
      refine tr_putI (pc := 141) k_lk_explainTogether_141 fl_lk_72 (Or.inl rfl) rfl ⟨rfl, rfl⟩ ?_
      refine tr_aload_n (pc := 144) 2 k_lk_explainTogether_144 rfl rfl ?_
      refine tr_iconst (pc := 145) (v := 0) k_lk_explainTogether_145 (by decide) ?_
      refine tr_putI (pc := 146) k_lk_explainTogether_146 fl_lk_72 (Or.inl rfl) rfl ⟨rfl, rfl⟩ ?_
      refine tr_iload (pc := 149) k_lk_explainTogether_149 rfl ?_
      refine tr_ireturn (pc := 151) k_lk_explainTogether_151 rfl (mzret hv.1) ?_
      replace hv := hv.2
      exact hv
  · replace hv := hv.2 q
    refine tr_iload (pc := 40) k_lk_explainTogether_40 rfl ?_
    refine tr_if_ne (pc := 42) 128 k_lk_explainTogether_42 (by decide) (fun q => ?_) (fun q => ?_)
    · replace hv := hv.1 q
      refine tr_iload (pc := 128) k_lk_explainTogether_128 rfl ?_
      refine tr_if_eq (pc := 130) 139 k_lk_explainTogether_130 (by decide) (fun q => ?_) (fun q => ?_)
      · replace hv := hv.1 q
        refine tr_aload_n (pc := 139) 1 k_lk_explainTogether_139 rfl rfl ?_
        refine tr_iconst (pc := 140) (v := 0) k_lk_explainTogether_140 (by decide) ?_
        refine tr_putI (pc := 141) k_lk_explainTogether_141 fl_lk_72 (Or.inl rfl) rfl ⟨rfl, rfl⟩ ?_
        refine tr_aload_n (pc := 144) 2 k_lk_explainTogether_144 rfl rfl ?_
        refine tr_iconst (pc := 145) (v := 0) k_lk_explainTogether_145 (by decide) ?_
        refine tr_putI (pc := 146) k_lk_explainTogether_146 fl_lk_72 (Or.inl rfl) rfl ⟨rfl, rfl⟩ ?_
        refine tr_iload (pc := 149) k_lk_explainTogether_149 rfl ?_
        refine tr_ireturn (pc := 151) k_lk_explainTogether_151 rfl (mzret hv.1) ?_
        replace hv := hv.2
        exact hv
      · replace hv := hv.2 q
        refine tr_aload_n (pc := 133) 0 k_lk_explainTogether_133 rfl rfl ?_
        refine tr_aload_n (pc := 134) 1 k_lk_explainTogether_134 rfl rfl ?_
        refine tr_aload_n (pc := 135) 2 k_lk_explainTogether_135 rfl rfl ?_
        refine tr_callV (pc := 136) (d' := d + 6) (mc' := 0) (ms' := 0) [vr 7 a1, vr 7 a2] k_lk_explainTogether_136 ca_lk_keepTwo ml_lk_78 ii_lk_keepTwo ⟨by decide, rfl⟩ pa_lk_keepTwo (by omega) (by omega) (by omega) rfl (Nat.le_of_ble_eq_true rfl) (Nat.le_of_ble_eq_true rfl) (Qk := fun v h9 => mT g me_lk_explainTogether (d + 7) 0 0 139 [some (vr 5 0), some (vr 7 a1), some (vr 7 a2), some (vi x3), some (vi x4), some (vi x5), o6, o7, o8] (v.toList ++ []) h9 _) ?_ (fun _ _ z => z)
        show mT g me_lk_keepTwo (d + 6) 0 0 0 [some (vr 5 0), some (vr 7 a1), some (vr 7 a2)] [] h _
        refine tr_aload_n (pc := 0) 0 k_lk_keepTwo_0 rfl rfl ?_
        refine tr_aload_n (pc := 1) 1 k_lk_keepTwo_1 rfl rfl ?_
        refine tr_getIx (pc := 2) k_lk_keepTwo_2 fl_lk_75 rfl rfl ?_
        refine tr_putI (pc := 5) k_lk_keepTwo_5 fl_lk_51 (Or.inl rfl) rfl ⟨rfl, rfl⟩ ?_
        refine tr_aload_n (pc := 8) 0 k_lk_keepTwo_8 rfl rfl ?_
        refine tr_aload_n (pc := 9) 1 k_lk_keepTwo_9 rfl rfl ?_
        refine tr_getIx (pc := 10) k_lk_keepTwo_10 fl_lk_72 rfl (hI_nk (by decide)) ?_
        refine tr_putI (pc := 13) k_lk_keepTwo_13 fl_lk_55 (Or.inl rfl) rfl ⟨rfl, rfl⟩ ?_
        refine tr_aload_n (pc := 16) 0 k_lk_keepTwo_16 rfl rfl ?_
        refine tr_aload_n (pc := 17) 2 k_lk_keepTwo_17 rfl rfl ?_
        refine tr_getIx (pc := 18) k_lk_keepTwo_18 fl_lk_75 rfl (Eq.trans (hI_nk (by decide)) (hI_nk (by decide))) ?_
        refine tr_putI (pc := 21) k_lk_keepTwo_21 fl_lk_58 (Or.inl rfl) rfl ⟨rfl, rfl⟩ ?_
        refine tr_aload_n (pc := 24) 0 k_lk_keepTwo_24 rfl rfl ?_
        refine tr_aload_n (pc := 25) 2 k_lk_keepTwo_25 rfl rfl ?_
        refine tr_getIx (pc := 26) k_lk_keepTwo_26 fl_lk_72 rfl (Eq.trans (hI_nk (by decide)) (Eq.trans (hI_nk (by decide)) (hI_nk (by decide)))) ?_
        refine tr_putI (pc := 29) k_lk_keepTwo_29 fl_lk_61 (Or.inl rfl) rfl ⟨rfl, rfl⟩ ?_
        refine tr_return (pc := 32) k_lk_keepTwo_32 rfl ?_
        show mT g me_lk_explainTogether (d + 7) 0 0 139 [some (vr 5 0), some (vr 7 a1), some (vr 7 a2), some (vi x3), some (vi x4), some (vi x5), o6, o7, o8] [] (setI (setI (setI (setI h 5 0 2 (hI h 7 a1 0)) 5 0 3 (hI h 7 a1 7)) 5 0 4 (hI h 7 a2 0)) 5 0 5 (hI h 7 a2 7)) _
        refine tr_aload_n (pc := 139) 1 k_lk_explainTogether_139 rfl rfl ?_
        refine tr_iconst (pc := 140) (v := 0) k_lk_explainTogether_140 (by decide) ?_
        refine tr_putI (pc := 141) k_lk_explainTogether_141 fl_lk_72 (Or.inl rfl) rfl ⟨rfl, rfl⟩ ?_
        refine tr_aload_n (pc := 144) 2 k_lk_explainTogether_144 rfl rfl ?_
        refine tr_iconst (pc := 145) (v := 0) k_lk_explainTogether_145 (by decide) ?_
        refine tr_putI (pc := 146) k_lk_explainTogether_146 fl_lk_72 (Or.inl rfl) rfl ⟨rfl, rfl⟩ ?_
        refine tr_iload (pc := 149) k_lk_explainTogether_149 rfl ?_
        refine tr_ireturn (pc := 151) k_lk_explainTogether_151 rfl (mzret hv.1) ?_
        replace hv := hv.2
        exact hv
    · replace hv := hv.2 q
      refine tr_iload_n (pc := 45) 3 k_lk_explainTogether_45 rfl rfl ?_
      refine tr_if_ne (pc := 46) 128 k_lk_explainTogether_46 (by decide) (fun q => ?_) (fun q => ?_)
      · replace hv := hv.1 q
        refine tr_iload (pc := 128) k_lk_explainTogether_128 rfl ?_
        refine tr_if_eq (pc := 130) 139 k_lk_explainTogether_130 (by decide) (fun q => ?_) (fun q => ?_)
        · replace hv := hv.1 q
          refine tr_aload_n (pc := 139) 1 k_lk_explainTogether_139 rfl rfl ?_
          refine tr_iconst (pc := 140) (v := 0) k_lk_explainTogether_140 (by decide) ?_
          refine tr_putI (pc := 141) k_lk_explainTogether_141 fl_lk_72 (Or.inl rfl) rfl ⟨rfl, rfl⟩ ?_
          refine tr_aload_n (pc := 144) 2 k_lk_explainTogether_144 rfl rfl ?_
          refine tr_iconst (pc := 145) (v := 0) k_lk_explainTogether_145 (by decide) ?_
          refine tr_putI (pc := 146) k_lk_explainTogether_146 fl_lk_72 (Or.inl rfl) rfl ⟨rfl, rfl⟩ ?_
          refine tr_iload (pc := 149) k_lk_explainTogether_149 rfl ?_
          refine tr_ireturn (pc := 151) k_lk_explainTogether_151 rfl (mzret hv.1) ?_
          replace hv := hv.2
          exact hv
        · replace hv := hv.2 q
          refine tr_aload_n (pc := 133) 0 k_lk_explainTogether_133 rfl rfl ?_
          refine tr_aload_n (pc := 134) 1 k_lk_explainTogether_134 rfl rfl ?_
          refine tr_aload_n (pc := 135) 2 k_lk_explainTogether_135 rfl rfl ?_
          refine tr_callV (pc := 136) (d' := d + 6) (mc' := 0) (ms' := 0) [vr 7 a1, vr 7 a2] k_lk_explainTogether_136 ca_lk_keepTwo ml_lk_78 ii_lk_keepTwo ⟨by decide, rfl⟩ pa_lk_keepTwo (by omega) (by omega) (by omega) rfl (Nat.le_of_ble_eq_true rfl) (Nat.le_of_ble_eq_true rfl) (Qk := fun v h9 => mT g me_lk_explainTogether (d + 7) 0 0 139 [some (vr 5 0), some (vr 7 a1), some (vr 7 a2), some (vi x3), some (vi x4), some (vi x5), o6, o7, o8] (v.toList ++ []) h9 _) ?_ (fun _ _ z => z)
          show mT g me_lk_keepTwo (d + 6) 0 0 0 [some (vr 5 0), some (vr 7 a1), some (vr 7 a2)] [] h _
          refine tr_aload_n (pc := 0) 0 k_lk_keepTwo_0 rfl rfl ?_
          refine tr_aload_n (pc := 1) 1 k_lk_keepTwo_1 rfl rfl ?_
          refine tr_getIx (pc := 2) k_lk_keepTwo_2 fl_lk_75 rfl rfl ?_
          refine tr_putI (pc := 5) k_lk_keepTwo_5 fl_lk_51 (Or.inl rfl) rfl ⟨rfl, rfl⟩ ?_
          refine tr_aload_n (pc := 8) 0 k_lk_keepTwo_8 rfl rfl ?_
          refine tr_aload_n (pc := 9) 1 k_lk_keepTwo_9 rfl rfl ?_
          refine tr_getIx (pc := 10) k_lk_keepTwo_10 fl_lk_72 rfl (hI_nk (by decide)) ?_
          refine tr_putI (pc := 13) k_lk_keepTwo_13 fl_lk_55 (Or.inl rfl) rfl ⟨rfl, rfl⟩ ?_
          refine tr_aload_n (pc := 16) 0 k_lk_keepTwo_16 rfl rfl ?_
          refine tr_aload_n (pc := 17) 2 k_lk_keepTwo_17 rfl rfl ?_
          refine tr_getIx (pc := 18) k_lk_keepTwo_18 fl_lk_75 rfl (Eq.trans (hI_nk (by decide)) (hI_nk (by decide))) ?_
          refine tr_putI (pc := 21) k_lk_keepTwo_21 fl_lk_58 (Or.inl rfl) rfl ⟨rfl, rfl⟩ ?_
          refine tr_aload_n (pc := 24) 0 k_lk_keepTwo_24 rfl rfl ?_
          refine tr_aload_n (pc := 25) 2 k_lk_keepTwo_25 rfl rfl ?_
          refine tr_getIx (pc := 26) k_lk_keepTwo_26 fl_lk_72 rfl (Eq.trans (hI_nk (by decide)) (Eq.trans (hI_nk (by decide)) (hI_nk (by decide)))) ?_
          refine tr_putI (pc := 29) k_lk_keepTwo_29 fl_lk_61 (Or.inl rfl) rfl ⟨rfl, rfl⟩ ?_
          refine tr_return (pc := 32) k_lk_keepTwo_32 rfl ?_
          show mT g me_lk_explainTogether (d + 7) 0 0 139 [some (vr 5 0), some (vr 7 a1), some (vr 7 a2), some (vi x3), some (vi x4), some (vi x5), o6, o7, o8] [] (setI (setI (setI (setI h 5 0 2 (hI h 7 a1 0)) 5 0 3 (hI h 7 a1 7)) 5 0 4 (hI h 7 a2 0)) 5 0 5 (hI h 7 a2 7)) _
          refine tr_aload_n (pc := 139) 1 k_lk_explainTogether_139 rfl rfl ?_
          refine tr_iconst (pc := 140) (v := 0) k_lk_explainTogether_140 (by decide) ?_
          refine tr_putI (pc := 141) k_lk_explainTogether_141 fl_lk_72 (Or.inl rfl) rfl ⟨rfl, rfl⟩ ?_
          refine tr_aload_n (pc := 144) 2 k_lk_explainTogether_144 rfl rfl ?_
          refine tr_iconst (pc := 145) (v := 0) k_lk_explainTogether_145 (by decide) ?_
          refine tr_putI (pc := 146) k_lk_explainTogether_146 fl_lk_72 (Or.inl rfl) rfl ⟨rfl, rfl⟩ ?_
          refine tr_iload (pc := 149) k_lk_explainTogether_149 rfl ?_
          refine tr_ireturn (pc := 151) k_lk_explainTogether_151 rfl (mzret hv.1) ?_
          replace hv := hv.2
          exact hv
      · replace hv := hv.2 q
        refine tr_aload_n (pc := 49) 1 k_lk_explainTogether_49 rfl rfl ?_
        refine tr_iload (pc := 50) k_lk_explainTogether_50 rfl ?_
        refine tr_putI (pc := 52) k_lk_explainTogether_52 fl_lk_72 (Or.inl rfl) rfl ⟨rfl, rfl⟩ ?_
        refine tr_iconst (pc := 55) (v := 0) k_lk_explainTogether_55 (by decide) ?_
        refine tr_istore (pc := 56) k_lk_explainTogether_56 (by decide) rfl ?_
        show mT g me_lk_explainTogether (d + 7) 0 0 58 [some (vr 5 0), some (vr 7 a1), some (vr 7 a2), some (vi x3), some (vi x4), some (vi x5), some (vi (0 : Int32)), o7, o8] [] (setI h 7 a1 7 x5) _
        refine tr_iconst (pc := 58) (v := 1) k_lk_explainTogether_58 (by decide) ?_
        refine tr_istore (pc := 59) k_lk_explainTogether_59 (by decide) rfl ?_
        show mT g me_lk_explainTogether (d + 7) 0 0 61 [some (vr 5 0), some (vr 7 a1), some (vr 7 a2), some (vi x3), some (vi x4), some (vi x5), some (vi (0 : Int32)), some (vi (1 : Int32)), o8] [] (setI h 7 a1 7 x5) _
        exact hv
theorem v_lk_explainTogether_61 {g : mG} {d : Nat} (a1 : Nat) (a2 : Nat) (x3 : Int32) (x4 : Int32) (x5 : Int32) (x6 : Int32) (x7 : Int32) (o8 : Option mV) {h : mH} {Q : Option mV → mH → Prop} (hsk : mSK h) (hv : (((12 : Int32) < x7 → mT g me_lk_explainTogether (d + 7) 0 0 33 [some (vr 5 0), some (vr 7 a1), some (vr 7 a2), some (vi x3), some (vi x4), some (vi (x5 + 1)), some (vi x6), some (vi x7), o8] [] h Q) ∧ (¬ (12 : Int32) < x7 → ((¬ x4 = 0 → mT g me_lk_explainTogether (d + 7) 0 0 33 [some (vr 5 0), some (vr 7 a1), some (vr 7 a2), some (vi x3), some (vi x4), some (vi (x5 + 1)), some (vi x6), some (vi x7), o8] [] h Q) ∧ (x4 = 0 → ((¬ x6 = 0 → mT g me_lk_explainTogether (d + 7) 0 0 33 [some (vr 5 0), some (vr 7 a1), some (vr 7 a2), some (vi x3), some (vi x4), some (vi (x5 + 1)), some (vi x6), some (vi x7), o8] [] h Q) ∧ (x6 = 0 → mT g me_lk_misses (d + 6) 0 0 0 [some (vr 5 0), none, none, none, none] [] (setI h 7 a2 7 x7) (fun v h1 => ∃ y2, v = some (vi y2) ∧ mSK h1 ∧ (((y2 &&& (1 : Int32)) = 0 → ((¬ y2 = 0 → mT g me_lk_explainTogether (d + 7) 0 0 61 [some (vr 5 0), some (vr 7 a1), some (vr 7 a2), some (vi x3), some (vi (0 : Int32)), some (vi x5), some (vi (0 : Int32)), some (vi (x7 + 1)), some (vi y2)] [] h1 Q) ∧ (y2 = 0 → mT g me_lk_explainTogether (d + 7) 0 0 61 [some (vr 5 0), some (vr 7 a1), some (vr 7 a2), some (vi x3), some (vi (1 : Int32)), some (vi x5), some (vi (0 : Int32)), some (vi (x7 + 1)), some (vi y2)] [] h1 Q))) ∧ (¬ (y2 &&& (1 : Int32)) = 0 → ((¬ y2 = 0 → mT g me_lk_explainTogether (d + 7) 0 0 61 [some (vr 5 0), some (vr 7 a1), some (vr 7 a2), some (vi x3), some (vi (0 : Int32)), some (vi x5), some (vi (1 : Int32)), some (vi (x7 + 1)), some (vi y2)] [] h1 Q) ∧ (y2 = 0 → mT g me_lk_explainTogether (d + 7) 0 0 61 [some (vr 5 0), some (vr 7 a1), some (vr 7 a2), some (vi x3), some (vi (1 : Int32)), some (vi x5), some (vi (1 : Int32)), some (vi (x7 + 1)), some (vi y2)] [] h1 Q)))))))))))) : mT g me_lk_explainTogether (d + 7) 0 0 61 [some (vr 5 0), some (vr 7 a1), some (vr 7 a2), some (vi x3), some (vi x4), some (vi x5), some (vi x6), some (vi x7), o8] [] h Q := by
  refine tr_iload (pc := 61) k_lk_explainTogether_61 rfl ?_
  refine tr_bipush (pc := 63) (v := 12) k_lk_explainTogether_63 (by decide) ?_
  refine tr_icmp_gt (pc := 65) 122 k_lk_explainTogether_65 (by decide) (fun q => ?_) (fun q => ?_)
  · replace hv := hv.1 q
    refine tr_iinc (pc := 122) (v := (x5 + 1)) k_lk_explainTogether_122 rfl rfl (by decide) rfl ?_
    show mT g me_lk_explainTogether (d + 7) 0 0 125 [some (vr 5 0), some (vr 7 a1), some (vr 7 a2), some (vi x3), some (vi x4), some (vi (x5 + 1)), some (vi x6), some (vi x7), o8] [] h _
    refine tr_goto (pc := 125) 33 k_lk_explainTogether_125 (by decide) ?_
    exact hv
  · replace hv := hv.2 q
    refine tr_iload (pc := 68) k_lk_explainTogether_68 rfl ?_
    refine tr_if_ne (pc := 70) 122 k_lk_explainTogether_70 (by decide) (fun q => ?_) (fun q => ?_)
    · replace hv := hv.1 q
      refine tr_iinc (pc := 122) (v := (x5 + 1)) k_lk_explainTogether_122 rfl rfl (by decide) rfl ?_
      show mT g me_lk_explainTogether (d + 7) 0 0 125 [some (vr 5 0), some (vr 7 a1), some (vr 7 a2), some (vi x3), some (vi x4), some (vi (x5 + 1)), some (vi x6), some (vi x7), o8] [] h _
      refine tr_goto (pc := 125) 33 k_lk_explainTogether_125 (by decide) ?_
      exact hv
    · replace hv := hv.2 q
      refine tr_iload (pc := 73) k_lk_explainTogether_73 rfl ?_
      refine tr_if_ne (pc := 75) 122 k_lk_explainTogether_75 (by decide) (fun q => ?_) (fun q => ?_)
      · replace hv := hv.1 q
        refine tr_iinc (pc := 122) (v := (x5 + 1)) k_lk_explainTogether_122 rfl rfl (by decide) rfl ?_
        show mT g me_lk_explainTogether (d + 7) 0 0 125 [some (vr 5 0), some (vr 7 a1), some (vr 7 a2), some (vi x3), some (vi x4), some (vi (x5 + 1)), some (vi x6), some (vi x7), o8] [] h _
        refine tr_goto (pc := 125) 33 k_lk_explainTogether_125 (by decide) ?_
        exact hv
      · replace hv := hv.2 q
        refine tr_aload_n (pc := 78) 2 k_lk_explainTogether_78 rfl rfl ?_
        refine tr_iload (pc := 79) k_lk_explainTogether_79 rfl ?_
        refine tr_putI (pc := 81) k_lk_explainTogether_81 fl_lk_72 (Or.inl rfl) rfl ⟨rfl, rfl⟩ ?_
        refine tr_aload_n (pc := 84) 0 k_lk_explainTogether_84 rfl rfl ?_
        have hT := hv
        clear hv
        refine tr_callV (pc := 85) (d' := d + 6) (mc' := 0) (ms' := 0) [] k_lk_explainTogether_85 ca_lk_misses ml_lk_22 ii_lk_misses ⟨by decide, rfl⟩ pa_lk_misses (by omega) (by omega) (by omega) rfl (Nat.le_of_ble_eq_true rfl) (Nat.le_of_ble_eq_true rfl) hT (fun v h9 hv => ?_)
        clear hT
        obtain ⟨y2, rfl, hv⟩ := hv
        obtain ⟨h1, eh⟩ : ∃ z, z = h9 := ⟨_, rfl⟩
        subst eh
        obtain ⟨hskh1, hv⟩ := hv
        show mT g me_lk_explainTogether (d + 7) 0 0 88 [some (vr 5 0), some (vr 7 a1), some (vr 7 a2), some (vi x3), some (vi x4), some (vi x5), some (vi x6), some (vi x7), o8] [vi y2] h1 _
        refine tr_istore (pc := 88) k_lk_explainTogether_88 (by decide) rfl ?_
        show mT g me_lk_explainTogether (d + 7) 0 0 90 [some (vr 5 0), some (vr 7 a1), some (vr 7 a2), some (vi x3), some (vi x4), some (vi x5), some (vi x6), some (vi x7), some (vi y2)] [] h1 _
        refine tr_iload (pc := 90) k_lk_explainTogether_90 rfl ?_
        refine tr_iconst (pc := 92) (v := 1) k_lk_explainTogether_92 (by decide) ?_
        refine tr_iand (pc := 93) k_lk_explainTogether_93 ?_
        refine tr_if_eq (pc := 94) 101 k_lk_explainTogether_94 (by decide) (fun q => ?_) (fun q => ?_)
        · replace hv := hv.1 q
          refine tr_iconst (pc := 101) (v := 0) k_lk_explainTogether_101 (by decide) ?_
          refine tr_istore (pc := 102) k_lk_explainTogether_102 (by decide) rfl ?_
          show mT g me_lk_explainTogether (d + 7) 0 0 104 [some (vr 5 0), some (vr 7 a1), some (vr 7 a2), some (vi x3), some (vi x4), some (vi x5), some (vi (0 : Int32)), some (vi x7), some (vi y2)] [] h1 _
          refine tr_iload (pc := 104) k_lk_explainTogether_104 rfl ?_
          refine tr_if_ne (pc := 106) 113 k_lk_explainTogether_106 (by decide) (fun q => ?_) (fun q => ?_)
          · replace hv := hv.1 q
            refine tr_iconst (pc := 113) (v := 0) k_lk_explainTogether_113 (by decide) ?_
            refine tr_istore (pc := 114) k_lk_explainTogether_114 (by decide) rfl ?_
            show mT g me_lk_explainTogether (d + 7) 0 0 116 [some (vr 5 0), some (vr 7 a1), some (vr 7 a2), some (vi x3), some (vi (0 : Int32)), some (vi x5), some (vi (0 : Int32)), some (vi x7), some (vi y2)] [] h1 _
            refine tr_iinc (pc := 116) (v := (x7 + 1)) k_lk_explainTogether_116 rfl rfl (by decide) rfl ?_
            show mT g me_lk_explainTogether (d + 7) 0 0 119 [some (vr 5 0), some (vr 7 a1), some (vr 7 a2), some (vi x3), some (vi (0 : Int32)), some (vi x5), some (vi (0 : Int32)), some (vi (x7 + 1)), some (vi y2)] [] h1 _
            refine tr_goto (pc := 119) 61 k_lk_explainTogether_119 (by decide) ?_
            exact hv
          · replace hv := hv.2 q
            refine tr_iconst (pc := 109) (v := 1) k_lk_explainTogether_109 (by decide) ?_
            refine tr_goto (pc := 110) 114 k_lk_explainTogether_110 (by decide) ?_
            refine tr_istore (pc := 114) k_lk_explainTogether_114 (by decide) rfl ?_
            show mT g me_lk_explainTogether (d + 7) 0 0 116 [some (vr 5 0), some (vr 7 a1), some (vr 7 a2), some (vi x3), some (vi (1 : Int32)), some (vi x5), some (vi (0 : Int32)), some (vi x7), some (vi y2)] [] h1 _
            refine tr_iinc (pc := 116) (v := (x7 + 1)) k_lk_explainTogether_116 rfl rfl (by decide) rfl ?_
            show mT g me_lk_explainTogether (d + 7) 0 0 119 [some (vr 5 0), some (vr 7 a1), some (vr 7 a2), some (vi x3), some (vi (1 : Int32)), some (vi x5), some (vi (0 : Int32)), some (vi (x7 + 1)), some (vi y2)] [] h1 _
            refine tr_goto (pc := 119) 61 k_lk_explainTogether_119 (by decide) ?_
            exact hv
        · replace hv := hv.2 q
          refine tr_iconst (pc := 97) (v := 1) k_lk_explainTogether_97 (by decide) ?_
          refine tr_goto (pc := 98) 102 k_lk_explainTogether_98 (by decide) ?_
          refine tr_istore (pc := 102) k_lk_explainTogether_102 (by decide) rfl ?_
          show mT g me_lk_explainTogether (d + 7) 0 0 104 [some (vr 5 0), some (vr 7 a1), some (vr 7 a2), some (vi x3), some (vi x4), some (vi x5), some (vi (1 : Int32)), some (vi x7), some (vi y2)] [] h1 _
          refine tr_iload (pc := 104) k_lk_explainTogether_104 rfl ?_
          refine tr_if_ne (pc := 106) 113 k_lk_explainTogether_106 (by decide) (fun q => ?_) (fun q => ?_)
          · replace hv := hv.1 q
            refine tr_iconst (pc := 113) (v := 0) k_lk_explainTogether_113 (by decide) ?_
            refine tr_istore (pc := 114) k_lk_explainTogether_114 (by decide) rfl ?_
            show mT g me_lk_explainTogether (d + 7) 0 0 116 [some (vr 5 0), some (vr 7 a1), some (vr 7 a2), some (vi x3), some (vi (0 : Int32)), some (vi x5), some (vi (1 : Int32)), some (vi x7), some (vi y2)] [] h1 _
            refine tr_iinc (pc := 116) (v := (x7 + 1)) k_lk_explainTogether_116 rfl rfl (by decide) rfl ?_
            show mT g me_lk_explainTogether (d + 7) 0 0 119 [some (vr 5 0), some (vr 7 a1), some (vr 7 a2), some (vi x3), some (vi (0 : Int32)), some (vi x5), some (vi (1 : Int32)), some (vi (x7 + 1)), some (vi y2)] [] h1 _
            refine tr_goto (pc := 119) 61 k_lk_explainTogether_119 (by decide) ?_
            exact hv
          · replace hv := hv.2 q
            refine tr_iconst (pc := 109) (v := 1) k_lk_explainTogether_109 (by decide) ?_
            refine tr_goto (pc := 110) 114 k_lk_explainTogether_110 (by decide) ?_
            refine tr_istore (pc := 114) k_lk_explainTogether_114 (by decide) rfl ?_
            show mT g me_lk_explainTogether (d + 7) 0 0 116 [some (vr 5 0), some (vr 7 a1), some (vr 7 a2), some (vi x3), some (vi (1 : Int32)), some (vi x5), some (vi (1 : Int32)), some (vi x7), some (vi y2)] [] h1 _
            refine tr_iinc (pc := 116) (v := (x7 + 1)) k_lk_explainTogether_116 rfl rfl (by decide) rfl ?_
            show mT g me_lk_explainTogether (d + 7) 0 0 119 [some (vr 5 0), some (vr 7 a1), some (vr 7 a2), some (vi x3), some (vi (1 : Int32)), some (vi x5), some (vi (1 : Int32)), some (vi (x7 + 1)), some (vi y2)] [] h1 _
            refine tr_goto (pc := 119) 61 k_lk_explainTogether_119 (by decide) ?_
            exact hv
theorem v_fn_explained_0 {g : mG} {d : Nat} (x1 : Int32) {h : mH} {Q : Option mV → mH → Prop} (hsk : mSK h) (hv : ((x1 < 0 → mT g me_fn_refuse (d + 8) 0 0 0 [some (vr 0 0), some (vi (-2 : Int32)), none] [] h (fun v h1 => ∃ y2, v = some (vi y2) ∧ mSK h1 ∧ Q (some (vi y2)) h1)) ∧ (¬ x1 < 0 → ((x1 ≤ (3 : Int32) → mT g me_lk_seek (d + 8) 0 0 0 [some (vr 5 0), none, none, none] [] h (fun v h3 => ∃ y4, v = some (vi y4) ∧ mSK h3 ∧ ((x1 = 0 → Q (some (vi (hI h3 5 0 2))) h3) ∧ (x1 = 1 → Q (some (vi (hI h3 5 0 3))) h3) ∧ (x1 = 2 → Q (some (vi (hI h3 5 0 4))) h3) ∧ (¬ x1 = 0 → ¬ x1 = 1 → ¬ x1 = 2 → Q (some (vi (hI h3 5 0 5))) h3)))) ∧ (¬ x1 ≤ (3 : Int32) → mT g me_fn_refuse (d + 8) 0 0 0 [some (vr 0 0), some (vi (-2 : Int32)), none] [] h (fun v h5 => ∃ y6, v = some (vi y6) ∧ mSK h5 ∧ Q (some (vi y6)) h5)))))) : mT g me_fn_explained (d + 9) 0 0 0 [some (vr 0 0), some (vi x1)] [] h Q := by
  refine tr_iload_n (pc := 0) 1 k_fn_explained_0 rfl rfl ?_
  refine tr_if_lt (pc := 1) 9 k_fn_explained_1 (by decide) (fun q => ?_) (fun q => ?_)
  · replace hv := hv.1 q
    refine tr_aload_n (pc := 9) 0 k_fn_explained_9 rfl rfl ?_
    refine tr_bipush (pc := 10) (v := -2) k_fn_explained_10 (by decide) ?_
    have hT := hv
    clear hv
    refine tr_callV (pc := 12) (d' := d + 8) (mc' := 0) (ms' := 0) [vi (-2 : Int32)] k_fn_explained_12 ca_fn_refuse ml_fn_56 ii_fn_refuse ⟨by decide, rfl⟩ pa_fn_refuse (by omega) (by omega) (by omega) rfl (Nat.le_of_ble_eq_true rfl) (Nat.le_of_ble_eq_true rfl) hT (fun v h9 hv => ?_)
    clear hT
    obtain ⟨y2, rfl, hv⟩ := hv
    obtain ⟨h1, eh⟩ : ∃ z, z = h9 := ⟨_, rfl⟩
    subst eh
    obtain ⟨hskh1, hv⟩ := hv
    show mT g me_fn_explained (d + 9) 0 0 15 [some (vr 0 0), some (vi x1)] [vi y2] h1 _
    refine tr_ireturn (pc := 15) k_fn_explained_15 rfl rfl ?_
    exact hv
  · replace hv := hv.2 q
    refine tr_iload_n (pc := 4) 1 k_fn_explained_4 rfl rfl ?_
    refine tr_iconst (pc := 5) (v := 3) k_fn_explained_5 (by decide) ?_
    refine tr_icmp_le (pc := 6) 16 k_fn_explained_6 (by decide) (fun q => ?_) (fun q => ?_)
    · replace hv := hv.1 q
      refine tr_aload_n (pc := 16) 0 k_fn_explained_16 rfl rfl ?_
      refine tr_getP (pc := 17) k_fn_explained_17 fl_fn_44 rfl (Eq.trans rfl (hsk.1 0 4 _ rfl)) ?_
      have hT := hv
      clear hv
      refine tr_callV (pc := 20) (d' := d + 8) (mc' := 0) (ms' := 0) [] k_fn_explained_20 ca_lk_seek ml_fn_241 ii_lk_seek ⟨by decide, rfl⟩ pa_lk_seek (by omega) (by omega) (by omega) rfl (Nat.le_of_ble_eq_true rfl) (Nat.le_of_ble_eq_true rfl) hT (fun v h9 hv => ?_)
      clear hT
      obtain ⟨y4, rfl, hv⟩ := hv
      obtain ⟨h3, eh⟩ : ∃ z, z = h9 := ⟨_, rfl⟩
      subst eh
      obtain ⟨hskh3, hv⟩ := hv
      show mT g me_fn_explained (d + 9) 0 0 23 [some (vr 0 0), some (vi x1)] [vi y4] h3 _
      refine tr_pop (pc := 23) k_fn_explained_23 rfl ?_
      refine tr_iload_n (pc := 24) 1 k_fn_explained_24 rfl rfl ?_
      refine tr_table (pc := 25) [52, 60, 68] 76 k_fn_explained_25 (by decide) (by decide) (by decide) (fun i t hi hx => ?_) (fun hx => ?_)
      · rcases i with _ | _ | _ | i
        · cases hi
          replace hv := hv.1 (mtoI (hx.trans (by decide)))
          refine tr_aload_n (pc := 52) 0 k_fn_explained_52 rfl rfl ?_
          refine tr_getP (pc := 53) k_fn_explained_53 fl_fn_44 rfl (Eq.trans rfl (hskh3.1 0 4 _ rfl)) ?_
          refine tr_getIx (pc := 56) k_fn_explained_56 fl_fn_244 rfl rfl ?_
          refine tr_ireturn (pc := 59) k_fn_explained_59 rfl rfl ?_
          exact hv
        · cases hi
          replace hv := hv.2.1 (mtoI (hx.trans (by decide)))
          refine tr_aload_n (pc := 60) 0 k_fn_explained_60 rfl rfl ?_
          refine tr_getP (pc := 61) k_fn_explained_61 fl_fn_44 rfl (Eq.trans rfl (hskh3.1 0 4 _ rfl)) ?_
          refine tr_getIx (pc := 64) k_fn_explained_64 fl_fn_247 rfl rfl ?_
          refine tr_ireturn (pc := 67) k_fn_explained_67 rfl rfl ?_
          exact hv
        · cases hi
          replace hv := hv.2.2.1 (mtoI (hx.trans (by decide)))
          refine tr_aload_n (pc := 68) 0 k_fn_explained_68 rfl rfl ?_
          refine tr_getP (pc := 69) k_fn_explained_69 fl_fn_44 rfl (Eq.trans rfl (hskh3.1 0 4 _ rfl)) ?_
          refine tr_getIx (pc := 72) k_fn_explained_72 fl_fn_250 rfl rfl ?_
          refine tr_ireturn (pc := 75) k_fn_explained_75 rfl rfl ?_
          exact hv
        · exact absurd hi (by simp)
      · replace hv := hv.2.2.2 (fun e => hx 0 (by decide) (by rw [e]; decide)) (fun e => hx 1 (by decide) (by rw [e]; decide)) (fun e => hx 2 (by decide) (by rw [e]; decide))
        refine tr_aload_n (pc := 76) 0 k_fn_explained_76 rfl rfl ?_
        refine tr_getP (pc := 77) k_fn_explained_77 fl_fn_44 rfl (Eq.trans rfl (hskh3.1 0 4 _ rfl)) ?_
        refine tr_getIx (pc := 80) k_fn_explained_80 fl_fn_253 rfl rfl ?_
        refine tr_ireturn (pc := 83) k_fn_explained_83 rfl rfl ?_
        exact hv
    · replace hv := hv.2 q
      refine tr_aload_n (pc := 9) 0 k_fn_explained_9 rfl rfl ?_
      refine tr_bipush (pc := 10) (v := -2) k_fn_explained_10 (by decide) ?_
      have hT := hv
      clear hv
      refine tr_callV (pc := 12) (d' := d + 8) (mc' := 0) (ms' := 0) [vi (-2 : Int32)] k_fn_explained_12 ca_fn_refuse ml_fn_56 ii_fn_refuse ⟨by decide, rfl⟩ pa_fn_refuse (by omega) (by omega) (by omega) rfl (Nat.le_of_ble_eq_true rfl) (Nat.le_of_ble_eq_true rfl) hT (fun v h9 hv => ?_)
      clear hT
      obtain ⟨y6, rfl, hv⟩ := hv
      obtain ⟨h5, eh⟩ : ∃ z, z = h9 := ⟨_, rfl⟩
      subst eh
      obtain ⟨hskh5, hv⟩ := hv
      show mT g me_fn_explained (d + 9) 0 0 15 [some (vr 0 0), some (vi x1)] [vi y6] h5 _
      refine tr_ireturn (pc := 15) k_fn_explained_15 rfl rfl ?_
      exact hv
theorem v_fn_rivals_0 {g : mG} {d : Nat}  {h : mH} {Q : Option mV → mH → Prop} (hsk : mSK h) (hv : mT g me_lk_howManyAlone (d + 8) 0 0 0 [some (vr 5 0), none, none] [] h (fun v h1 => ∃ y2, v = some (vi y2) ∧ mSK h1 ∧ Q (some (vi y2)) h1)) : mT g me_fn_rivals (d + 9) 0 0 0 [some (vr 0 0)] [] h Q := by
  refine tr_aload_n (pc := 0) 0 k_fn_rivals_0 rfl rfl ?_
  refine tr_getP (pc := 1) k_fn_rivals_1 fl_fn_44 rfl (Eq.trans rfl (hsk.1 0 4 _ rfl)) ?_
  have hT := hv
  clear hv
  refine tr_callV (pc := 4) (d' := d + 8) (mc' := 0) (ms' := 0) [] k_fn_rivals_4 ca_lk_howManyAlone ml_fn_256 ii_lk_howManyAlone ⟨by decide, rfl⟩ pa_lk_howManyAlone (by omega) (by omega) (by omega) rfl (Nat.le_of_ble_eq_true rfl) (Nat.le_of_ble_eq_true rfl) hT (fun v h9 hv => ?_)
  clear hT
  obtain ⟨y2, rfl, hv⟩ := hv
  obtain ⟨h1, eh⟩ : ∃ z, z = h9 := ⟨_, rfl⟩
  subst eh
  obtain ⟨hskh1, hv⟩ := hv
  show mT g me_fn_rivals (d + 9) 0 0 7 [some (vr 0 0)] [vi y2] h1 _
  refine tr_ireturn (pc := 7) k_fn_rivals_7 rfl rfl ?_
  exact hv
theorem v_lk_howManyAlone_0 {g : mG} {d : Nat}  {h : mH} {Q : Option mV → mH → Prop} (hsk : mSK h) (hv : mT g me_lk_isAnyRead (d + 7) 0 0 0 [some (vr 5 0), none] [] h (fun v h1 => ∃ y2, v = some (vi y2) ∧ mSK h1 ∧ ((¬ y2 = 0 → mT g me_lk_howManyAlone (d + 8) 0 0 13 [some (vr 5 0), some (vi (0 : Int32)), some (vi (0 : Int32))] [] h1 Q) ∧ (y2 = 0 → Q (some (vi (0 : Int32))) h1)))) : mT g me_lk_howManyAlone (d + 8) 0 0 0 [some (vr 5 0), none, none] [] h Q := by
  refine tr_aload_n (pc := 0) 0 k_lk_howManyAlone_0 rfl rfl ?_
  have hT := hv
  clear hv
  refine tr_callV (pc := 1) (d' := d + 7) (mc' := 0) (ms' := 0) [] k_lk_howManyAlone_1 ca_lk_isAnyRead ml_lk_18 ii_lk_isAnyRead ⟨by decide, rfl⟩ pa_lk_isAnyRead (by omega) (by omega) (by omega) rfl (Nat.le_of_ble_eq_true rfl) (Nat.le_of_ble_eq_true rfl) hT (fun v h9 hv => ?_)
  clear hT
  obtain ⟨y2, rfl, hv⟩ := hv
  obtain ⟨h1, eh⟩ : ∃ z, z = h9 := ⟨_, rfl⟩
  subst eh
  obtain ⟨hskh1, hv⟩ := hv
  show mT g me_lk_howManyAlone (d + 8) 0 0 4 [some (vr 5 0), none, none] [vi y2] h1 _
  refine tr_if_ne (pc := 4) 9 k_lk_howManyAlone_4 (by decide) (fun q => ?_) (fun q => ?_)
  · replace hv := hv.1 q
    refine tr_iconst (pc := 9) (v := 0) k_lk_howManyAlone_9 (by decide) ?_
    refine tr_istore_n (pc := 10) 1 k_lk_howManyAlone_10 rfl (by decide) rfl ?_
    show mT g me_lk_howManyAlone (d + 8) 0 0 11 [some (vr 5 0), some (vi (0 : Int32)), none] [] h1 _
    refine tr_iconst (pc := 11) (v := 0) k_lk_howManyAlone_11 (by decide) ?_
    refine tr_istore_n (pc := 12) 2 k_lk_howManyAlone_12 rfl (by decide) rfl ?_
    show mT g me_lk_howManyAlone (d + 8) 0 0 13 [some (vr 5 0), some (vi (0 : Int32)), some (vi (0 : Int32))] [] h1 _
    exact hv
  · replace hv := hv.2 q
    refine tr_iconst (pc := 7) (v := 0) k_lk_howManyAlone_7 (by decide) ?_
    refine tr_ireturn (pc := 8) k_lk_howManyAlone_8 rfl rfl ?_
    exact hv
theorem v_lk_howManyAlone_13 {g : mG} {d : Nat} (x1 : Int32) (x2 : Int32) {h : mH} {Q : Option mV → mH → Prop} (hsk : mSK h) (hv : (((hI h 2 1 1) ≤ x2 → Q (some (vi x1)) h) ∧ (¬ (hI h 2 1 1) ≤ x2 → (∃ n1, mGet h 1 x2 (some (7, n1)) ∧ mT g me_lk_explainsAlone (d + 7) 0 0 0 [some (vr 5 0), some (vr 7 n1), none, none, none, none] [] h (fun v h2 => ∃ y3, v = some (vi y3) ∧ mSK h2 ∧ ((y3 = 0 → mT g me_lk_howManyAlone (d + 8) 0 0 13 [some (vr 5 0), some (vi (x1 + (0 : Int32))), some (vi (x2 + 1))] [] h2 Q) ∧ (¬ y3 = 0 → mT g me_lk_howManyAlone (d + 8) 0 0 13 [some (vr 5 0), some (vi (x1 + (1 : Int32))), some (vi (x2 + 1))] [] h2 Q))))))) : mT g me_lk_howManyAlone (d + 8) 0 0 13 [some (vr 5 0), some (vi x1), some (vi x2)] [] h Q := by
  refine tr_iload_n (pc := 13) 2 k_lk_howManyAlone_13 rfl rfl ?_
  refine tr_aload_n (pc := 14) 0 k_lk_howManyAlone_14 rfl rfl ?_
  refine tr_getP (pc := 15) k_lk_howManyAlone_15 fl_lk_9 rfl (Eq.trans rfl (hsk.1 5 0 _ rfl)) ?_
  refine tr_getP (pc := 18) k_lk_howManyAlone_18 fl_lk_26 rfl (Eq.trans rfl (hsk.1 1 1 _ rfl)) ?_
  refine tr_callV (pc := 21) (d' := d + 7) (mc' := 0) (ms' := 0) [] k_lk_howManyAlone_21 ca_al_size ml_lk_32 ii_al_size ⟨by decide, rfl⟩ pa_al_size (by omega) (by omega) (by omega) rfl (Nat.le_of_ble_eq_true rfl) (Nat.le_of_ble_eq_true rfl) (Qk := fun v h9 => mT g me_lk_howManyAlone (d + 8) 0 0 24 [some (vr 5 0), some (vi x1), some (vi x2)] (v.toList ++ [vi x2]) h9 _) ?_ (fun _ _ z => z)
  show mT g me_al_size (d + 7) 0 0 0 [some (vr 2 1)] [] h _
  refine tr_aload_n (pc := 0) 0 k_al_size_0 rfl rfl ?_
  refine tr_getIx (pc := 1) k_al_size_1 fl_al_48 rfl rfl ?_
  refine tr_ireturn (pc := 4) k_al_size_4 rfl rfl ?_
  show mT g me_lk_howManyAlone (d + 8) 0 0 24 [some (vr 5 0), some (vi x1), some (vi x2)] [vi (hI h 2 1 1), vi x2] h _
  refine tr_icmp_ge (pc := 24) 62 k_lk_howManyAlone_24 (by decide) (fun q => ?_) (fun q => ?_)
  · replace hv := hv.1 q
    refine tr_iload_n (pc := 62) 1 k_lk_howManyAlone_62 rfl rfl ?_
    refine tr_ireturn (pc := 63) k_lk_howManyAlone_63 rfl rfl ?_
    exact hv
  · replace hv := hv.2 q
    refine tr_iload_n (pc := 27) 1 k_lk_howManyAlone_27 rfl rfl ?_
    refine tr_aload_n (pc := 28) 0 k_lk_howManyAlone_28 rfl rfl ?_
    refine tr_aload_n (pc := 29) 0 k_lk_howManyAlone_29 rfl rfl ?_
    refine tr_getP (pc := 30) k_lk_howManyAlone_30 fl_lk_9 rfl (Eq.trans rfl (hsk.1 5 0 _ rfl)) ?_
    refine tr_getP (pc := 33) k_lk_howManyAlone_33 fl_lk_26 rfl (Eq.trans rfl (hsk.1 1 1 _ rfl)) ?_
    refine tr_iload_n (pc := 36) 2 k_lk_howManyAlone_36 rfl rfl ?_
    obtain ⟨n1, hg, hv⟩ := hv
    refine tr_alget (pc := 37) k_lk_howManyAlone_37 ml_lk_37 (by omega) (Nat.le_of_ble_eq_true rfl) (mGet.up hg rfl rfl) ?_
    refine tr_cast (pc := 40) k_lk_howManyAlone_40 (by decide) cl_lk_41 ?_
    have hT := hv
    clear hv
    refine tr_callV (pc := 43) (d' := d + 7) (mc' := 0) (ms' := 0) [vr 7 n1] k_lk_howManyAlone_43 ca_lk_explainsAlone ml_lk_43 ii_lk_explainsAlone ⟨by decide, rfl⟩ pa_lk_explainsAlone (by omega) (by omega) (by omega) rfl (Nat.le_of_ble_eq_true rfl) (Nat.le_of_ble_eq_true rfl) hT (fun v h9 hv => ?_)
    clear hT
    obtain ⟨y3, rfl, hv⟩ := hv
    obtain ⟨h2, eh⟩ : ∃ z, z = h9 := ⟨_, rfl⟩
    subst eh
    obtain ⟨hskh2, hv⟩ := hv
    show mT g me_lk_howManyAlone (d + 8) 0 0 46 [some (vr 5 0), some (vi x1), some (vi x2)] [vi y3, vi x1] h2 _
    refine tr_if_eq (pc := 46) 53 k_lk_howManyAlone_46 (by decide) (fun q => ?_) (fun q => ?_)
    · replace hv := hv.1 q
      refine tr_iconst (pc := 53) (v := 0) k_lk_howManyAlone_53 (by decide) ?_
      refine tr_iadd (pc := 54) k_lk_howManyAlone_54 ?_
      refine tr_istore_n (pc := 55) 1 k_lk_howManyAlone_55 rfl (by decide) rfl ?_
      show mT g me_lk_howManyAlone (d + 8) 0 0 56 [some (vr 5 0), some (vi (x1 + (0 : Int32))), some (vi x2)] [] h2 _
      refine tr_iinc (pc := 56) (v := (x2 + 1)) k_lk_howManyAlone_56 rfl rfl (by decide) rfl ?_
      show mT g me_lk_howManyAlone (d + 8) 0 0 59 [some (vr 5 0), some (vi (x1 + (0 : Int32))), some (vi (x2 + 1))] [] h2 _
      refine tr_goto (pc := 59) 13 k_lk_howManyAlone_59 (by decide) ?_
      exact hv
    · replace hv := hv.2 q
      refine tr_iconst (pc := 49) (v := 1) k_lk_howManyAlone_49 (by decide) ?_
      refine tr_goto (pc := 50) 54 k_lk_howManyAlone_50 (by decide) ?_
      refine tr_iadd (pc := 54) k_lk_howManyAlone_54 ?_
      refine tr_istore_n (pc := 55) 1 k_lk_howManyAlone_55 rfl (by decide) rfl ?_
      show mT g me_lk_howManyAlone (d + 8) 0 0 56 [some (vr 5 0), some (vi (x1 + (1 : Int32))), some (vi x2)] [] h2 _
      refine tr_iinc (pc := 56) (v := (x2 + 1)) k_lk_howManyAlone_56 rfl rfl (by decide) rfl ?_
      show mT g me_lk_howManyAlone (d + 8) 0 0 59 [some (vr 5 0), some (vi (x1 + (1 : Int32))), some (vi (x2 + 1))] [] h2 _
      refine tr_goto (pc := 59) 13 k_lk_howManyAlone_59 (by decide) ?_
      exact hv
theorem v_fn_empty_0 {g : mG} {d : Nat} (x1 : Int32) {h : mH} {Q : Option mV → mH → Prop} (hsk : mSK h) (hv : mT g me_ga_jointAt (d + 4) 0 0 0 [some (vr 1 0), some (vi x1)] [] h (fun v h1 => ∃ p2, v = some (vp p2) ∧ mSK h1 ∧ ((p2 = none → mT g me_fn_refuse (d + 4) 0 0 0 [some (vr 0 0), some (vi (-1 : Int32)), none] [] h1 (fun v h4 => ∃ y5, v = some (vi y5) ∧ mSK h4 ∧ Q (some (vi y5)) h4)) ∧ (∀ kq n3, p2 = some (kq, n3) → kq = 7 ∧ ((¬ (hI h1 7 n3 8) = 0 → mT g me_fn_refuse (d + 4) 0 0 0 [some (vr 0 0), some (vi (-3 : Int32)), none] [] h1 (fun v h6 => ∃ y7, v = some (vi y7) ∧ mSK h6 ∧ Q (some (vi y7)) h6)) ∧ ((hI h1 7 n3 8) = 0 → mT g me_ga_mayBeEmptied (d + 4) 0 0 0 [some (vr 1 0), some (vr 7 n3), none, none] [] h1 (fun v h8 => ∃ y9, v = some (vi y9) ∧ mSK h8 ∧ ((¬ y9 = 0 → Q (some (vi (1 : Int32))) (setI h8 7 n3 8 (1 : Int32))) ∧ (y9 = 0 → mT g me_fn_refuse (d + 4) 0 0 0 [some (vr 0 0), some (vi (-3 : Int32)), none] [] h8 (fun v h10 => ∃ y11, v = some (vi y11) ∧ mSK h10 ∧ Q (some (vi y11)) h10)))))))))) : mT g me_fn_empty (d + 5) 0 0 0 [some (vr 0 0), some (vi x1), none] [] h Q := by
  refine tr_aload_n (pc := 0) 0 k_fn_empty_0 rfl rfl ?_
  refine tr_getP (pc := 1) k_fn_empty_1 fl_fn_12 rfl (Eq.trans rfl (hsk.1 0 0 _ rfl)) ?_
  refine tr_iload_n (pc := 4) 1 k_fn_empty_4 rfl rfl ?_
  have hT := hv
  clear hv
  refine tr_callV (pc := 5) (d' := d + 4) (mc' := 0) (ms' := 0) [vi x1] k_fn_empty_5 ca_ga_jointAt ml_fn_89 ii_ga_jointAt ⟨by decide, rfl⟩ pa_ga_jointAt (by omega) (by omega) (by omega) rfl (Nat.le_of_ble_eq_true rfl) (Nat.le_of_ble_eq_true rfl) hT (fun v h9 hv => ?_)
  clear hT
  obtain ⟨p2, rfl, hv⟩ := hv
  obtain ⟨h1, eh⟩ : ∃ z, z = h9 := ⟨_, rfl⟩
  subst eh
  obtain ⟨hskh1, hv⟩ := hv
  show mT g me_fn_empty (d + 5) 0 0 8 [some (vr 0 0), some (vi x1), none] [vp p2] h1 _
  refine tr_astore_n (pc := 8) 2 k_fn_empty_8 rfl (by decide) rfl ?_
  show mT g me_fn_empty (d + 5) 0 0 9 [some (vr 0 0), some (vi x1), some (vp p2)] [] h1 _
  refine tr_aload_n (pc := 9) 2 k_fn_empty_9 rfl rfl ?_
  rcases p2 with _ | ⟨kq, n3⟩
  · replace hv := hv.1 rfl
    refine tr_ifnonnull (pc := 10) 19 k_fn_empty_10 (by decide) (fun _ => ?_) (fun _ _ q => by cases q)
    refine tr_aload_n (pc := 13) 0 k_fn_empty_13 rfl rfl ?_
    refine tr_iconst (pc := 14) (v := -1) k_fn_empty_14 (by decide) ?_
    have hT := hv
    clear hv
    refine tr_callV (pc := 15) (d' := d + 4) (mc' := 0) (ms' := 0) [vi (-1 : Int32)] k_fn_empty_15 ca_fn_refuse ml_fn_56 ii_fn_refuse ⟨by decide, rfl⟩ pa_fn_refuse (by omega) (by omega) (by omega) rfl (Nat.le_of_ble_eq_true rfl) (Nat.le_of_ble_eq_true rfl) hT (fun v h9 hv => ?_)
    clear hT
    obtain ⟨y5, rfl, hv⟩ := hv
    obtain ⟨h4, eh⟩ : ∃ z, z = h9 := ⟨_, rfl⟩
    subst eh
    obtain ⟨hskh4, hv⟩ := hv
    show mT g me_fn_empty (d + 5) 0 0 18 [some (vr 0 0), some (vi x1), some (vn)] [vi y5] h4 _
    refine tr_ireturn (pc := 18) k_fn_empty_18 rfl rfl ?_
    exact hv
  · have hw := hv.2 kq n3 rfl
    clear hv
    obtain ⟨tq, hv⟩ := hw
    subst tq
    refine tr_ifnonnull (pc := 10) 19 k_fn_empty_10 (by decide) (fun q => by cases q) (fun _ _ _ => ?_)
    refine tr_aload_n (pc := 19) 2 k_fn_empty_19 rfl rfl ?_
    refine tr_getIx (pc := 20) k_fn_empty_20 fl_fn_100 rfl rfl ?_
    refine tr_if_ne (pc := 23) 37 k_fn_empty_23 (by decide) (fun q => ?_) (fun q => ?_)
    · replace hv := hv.1 q
      refine tr_aload_n (pc := 37) 0 k_fn_empty_37 rfl rfl ?_
      refine tr_bipush (pc := 38) (v := -3) k_fn_empty_38 (by decide) ?_
      have hT := hv
      clear hv
      refine tr_callV (pc := 40) (d' := d + 4) (mc' := 0) (ms' := 0) [vi (-3 : Int32)] k_fn_empty_40 ca_fn_refuse ml_fn_56 ii_fn_refuse ⟨by decide, rfl⟩ pa_fn_refuse (by omega) (by omega) (by omega) rfl (Nat.le_of_ble_eq_true rfl) (Nat.le_of_ble_eq_true rfl) hT (fun v h9 hv => ?_)
      clear hT
      obtain ⟨y7, rfl, hv⟩ := hv
      obtain ⟨h6, eh⟩ : ∃ z, z = h9 := ⟨_, rfl⟩
      subst eh
      obtain ⟨hskh6, hv⟩ := hv
      show mT g me_fn_empty (d + 5) 0 0 43 [some (vr 0 0), some (vi x1), some (vr 7 n3)] [vi y7] h6 _
      refine tr_ireturn (pc := 43) k_fn_empty_43 rfl rfl ?_
      exact hv
    · replace hv := hv.2 q
      refine tr_aload_n (pc := 26) 0 k_fn_empty_26 rfl rfl ?_
      refine tr_getP (pc := 27) k_fn_empty_27 fl_fn_12 rfl (Eq.trans rfl (hskh1.1 0 0 _ rfl)) ?_
      refine tr_aload_n (pc := 30) 2 k_fn_empty_30 rfl rfl ?_
      have hT := hv
      clear hv
      refine tr_callV (pc := 31) (d' := d + 4) (mc' := 0) (ms' := 0) [vr 7 n3] k_fn_empty_31 ca_ga_mayBeEmptied ml_fn_259 ii_ga_mayBeEmptied ⟨by decide, rfl⟩ pa_ga_mayBeEmptied (by omega) (by omega) (by omega) rfl (Nat.le_of_ble_eq_true rfl) (Nat.le_of_ble_eq_true rfl) hT (fun v h9 hv => ?_)
      clear hT
      obtain ⟨y9, rfl, hv⟩ := hv
      obtain ⟨h8, eh⟩ : ∃ z, z = h9 := ⟨_, rfl⟩
      subst eh
      obtain ⟨hskh8, hv⟩ := hv
      show mT g me_fn_empty (d + 5) 0 0 34 [some (vr 0 0), some (vi x1), some (vr 7 n3)] [vi y9] h8 _
      refine tr_if_ne (pc := 34) 44 k_fn_empty_34 (by decide) (fun q => ?_) (fun q => ?_)
      · replace hv := hv.1 q
        refine tr_aload_n (pc := 44) 2 k_fn_empty_44 rfl rfl ?_
        refine tr_iconst (pc := 45) (v := 1) k_fn_empty_45 (by decide) ?_
        refine tr_putI (pc := 46) k_fn_empty_46 fl_fn_100 (Or.inl rfl) rfl ⟨rfl, rfl⟩ ?_
        refine tr_iconst (pc := 49) (v := 1) k_fn_empty_49 (by decide) ?_
        refine tr_ireturn (pc := 50) k_fn_empty_50 rfl rfl ?_
        exact hv
      · replace hv := hv.2 q
        refine tr_aload_n (pc := 37) 0 k_fn_empty_37 rfl rfl ?_
        refine tr_bipush (pc := 38) (v := -3) k_fn_empty_38 (by decide) ?_
        have hT := hv
        clear hv
        refine tr_callV (pc := 40) (d' := d + 4) (mc' := 0) (ms' := 0) [vi (-3 : Int32)] k_fn_empty_40 ca_fn_refuse ml_fn_56 ii_fn_refuse ⟨by decide, rfl⟩ pa_fn_refuse (by omega) (by omega) (by omega) rfl (Nat.le_of_ble_eq_true rfl) (Nat.le_of_ble_eq_true rfl) hT (fun v h9 hv => ?_)
        clear hT
        obtain ⟨y11, rfl, hv⟩ := hv
        obtain ⟨h10, eh⟩ : ∃ z, z = h9 := ⟨_, rfl⟩
        subst eh
        obtain ⟨hskh10, hv⟩ := hv
        show mT g me_fn_empty (d + 5) 0 0 43 [some (vr 0 0), some (vi x1), some (vr 7 n3)] [vi y11] h10 _
        refine tr_ireturn (pc := 43) k_fn_empty_43 rfl rfl ?_
        exact hv
theorem v_ga_mayBeEmptied_0 {g : mG} {d : Nat} (a1 : Nat) {h : mH} {Q : Option mV → mH → Prop} (hsk : mSK h) (hv : mT g me_ga_mayBeEmptied (d + 4) 0 0 2 [some (vr 1 0), some (vr 7 a1), some (vi (0 : Int32)), none] [] h Q) : mT g me_ga_mayBeEmptied (d + 4) 0 0 0 [some (vr 1 0), some (vr 7 a1), none, none] [] h Q := by
  refine tr_iconst (pc := 0) (v := 0) k_ga_mayBeEmptied_0 (by decide) ?_
  refine tr_istore_n (pc := 1) 2 k_ga_mayBeEmptied_1 rfl (by decide) rfl ?_
  show mT g me_ga_mayBeEmptied (d + 4) 0 0 2 [some (vr 1 0), some (vr 7 a1), some (vi (0 : Int32)), none] [] h _
  exact hv
theorem v_fn_fill_0 {g : mG} {d : Nat} (x1 : Int32) {h : mH} {Q : Option mV → mH → Prop} (hsk : mSK h) (hv : mT g me_ga_jointAt (d + 4) 0 0 0 [some (vr 1 0), some (vi x1)] [] h (fun v h1 => ∃ p2, v = some (vp p2) ∧ mSK h1 ∧ ((p2 = none → mT g me_fn_refuse (d + 4) 0 0 0 [some (vr 0 0), some (vi (-1 : Int32)), none] [] h1 (fun v h4 => ∃ y5, v = some (vi y5) ∧ mSK h4 ∧ Q (some (vi y5)) h4)) ∧ (∀ kq n3, p2 = some (kq, n3) → kq = 7 ∧ (((hI h1 7 n3 8) = 0 → mT g me_fn_refuse (d + 4) 0 0 0 [some (vr 0 0), some (vi (-3 : Int32)), none] [] h1 (fun v h6 => ∃ y7, v = some (vi y7) ∧ mSK h6 ∧ Q (some (vi y7)) h6)) ∧ (¬ (hI h1 7 n3 8) = 0 → ((hP h1 7 n3 2 = none → Q (some (vi (1 : Int32))) (setI h1 7 n3 8 (0 : Int32))) ∧ (∀ kq n8, hP h1 7 n3 2 = some (kq, n8) → kq = 7 ∧ (((hI h1 7 n8 8) = 0 → Q (some (vi (1 : Int32))) (setI h1 7 n3 8 (0 : Int32))) ∧ (¬ (hI h1 7 n8 8) = 0 → mT g me_fn_refuse (d + 4) 0 0 0 [some (vr 0 0), some (vi (-3 : Int32)), none] [] h1 (fun v h10 => ∃ y11, v = some (vi y11) ∧ mSK h10 ∧ Q (some (vi y11)) h10))))))))))) : mT g me_fn_fill (d + 5) 0 0 0 [some (vr 0 0), some (vi x1), none] [] h Q := by
  refine tr_aload_n (pc := 0) 0 k_fn_fill_0 rfl rfl ?_
  refine tr_getP (pc := 1) k_fn_fill_1 fl_fn_12 rfl (Eq.trans rfl (hsk.1 0 0 _ rfl)) ?_
  refine tr_iload_n (pc := 4) 1 k_fn_fill_4 rfl rfl ?_
  have hT := hv
  clear hv
  refine tr_callV (pc := 5) (d' := d + 4) (mc' := 0) (ms' := 0) [vi x1] k_fn_fill_5 ca_ga_jointAt ml_fn_89 ii_ga_jointAt ⟨by decide, rfl⟩ pa_ga_jointAt (by omega) (by omega) (by omega) rfl (Nat.le_of_ble_eq_true rfl) (Nat.le_of_ble_eq_true rfl) hT (fun v h9 hv => ?_)
  clear hT
  obtain ⟨p2, rfl, hv⟩ := hv
  obtain ⟨h1, eh⟩ : ∃ z, z = h9 := ⟨_, rfl⟩
  subst eh
  obtain ⟨hskh1, hv⟩ := hv
  show mT g me_fn_fill (d + 5) 0 0 8 [some (vr 0 0), some (vi x1), none] [vp p2] h1 _
  refine tr_astore_n (pc := 8) 2 k_fn_fill_8 rfl (by decide) rfl ?_
  show mT g me_fn_fill (d + 5) 0 0 9 [some (vr 0 0), some (vi x1), some (vp p2)] [] h1 _
  refine tr_aload_n (pc := 9) 2 k_fn_fill_9 rfl rfl ?_
  rcases p2 with _ | ⟨kq, n3⟩
  · replace hv := hv.1 rfl
    refine tr_ifnonnull (pc := 10) 19 k_fn_fill_10 (by decide) (fun _ => ?_) (fun _ _ q => by cases q)
    refine tr_aload_n (pc := 13) 0 k_fn_fill_13 rfl rfl ?_
    refine tr_iconst (pc := 14) (v := -1) k_fn_fill_14 (by decide) ?_
    have hT := hv
    clear hv
    refine tr_callV (pc := 15) (d' := d + 4) (mc' := 0) (ms' := 0) [vi (-1 : Int32)] k_fn_fill_15 ca_fn_refuse ml_fn_56 ii_fn_refuse ⟨by decide, rfl⟩ pa_fn_refuse (by omega) (by omega) (by omega) rfl (Nat.le_of_ble_eq_true rfl) (Nat.le_of_ble_eq_true rfl) hT (fun v h9 hv => ?_)
    clear hT
    obtain ⟨y5, rfl, hv⟩ := hv
    obtain ⟨h4, eh⟩ : ∃ z, z = h9 := ⟨_, rfl⟩
    subst eh
    obtain ⟨hskh4, hv⟩ := hv
    show mT g me_fn_fill (d + 5) 0 0 18 [some (vr 0 0), some (vi x1), some (vn)] [vi y5] h4 _
    refine tr_ireturn (pc := 18) k_fn_fill_18 rfl rfl ?_
    exact hv
  · have hw := hv.2 kq n3 rfl
    clear hv
    obtain ⟨tq, hv⟩ := hw
    subst tq
    refine tr_ifnonnull (pc := 10) 19 k_fn_fill_10 (by decide) (fun q => by cases q) (fun _ _ _ => ?_)
    refine tr_aload_n (pc := 19) 2 k_fn_fill_19 rfl rfl ?_
    refine tr_getIx (pc := 20) k_fn_fill_20 fl_fn_100 rfl rfl ?_
    refine tr_if_eq (pc := 23) 43 k_fn_fill_23 (by decide) (fun q => ?_) (fun q => ?_)
    · replace hv := hv.1 q
      refine tr_aload_n (pc := 43) 0 k_fn_fill_43 rfl rfl ?_
      refine tr_bipush (pc := 44) (v := -3) k_fn_fill_44 (by decide) ?_
      have hT := hv
      clear hv
      refine tr_callV (pc := 46) (d' := d + 4) (mc' := 0) (ms' := 0) [vi (-3 : Int32)] k_fn_fill_46 ca_fn_refuse ml_fn_56 ii_fn_refuse ⟨by decide, rfl⟩ pa_fn_refuse (by omega) (by omega) (by omega) rfl (Nat.le_of_ble_eq_true rfl) (Nat.le_of_ble_eq_true rfl) hT (fun v h9 hv => ?_)
      clear hT
      obtain ⟨y7, rfl, hv⟩ := hv
      obtain ⟨h6, eh⟩ : ∃ z, z = h9 := ⟨_, rfl⟩
      subst eh
      obtain ⟨hskh6, hv⟩ := hv
      show mT g me_fn_fill (d + 5) 0 0 49 [some (vr 0 0), some (vi x1), some (vr 7 n3)] [vi y7] h6 _
      refine tr_ireturn (pc := 49) k_fn_fill_49 rfl rfl ?_
      exact hv
    · replace hv := hv.2 q
      refine tr_aload_n (pc := 26) 2 k_fn_fill_26 rfl rfl ?_
      rcases e9 : hP h1 7 n3 2 with _ | ⟨kq, n8⟩
      · replace hv := hv.1 e9
        refine tr_getP (pc := 27) k_fn_fill_27 fl_fn_263 rfl (Eq.trans rfl e9) ?_
        refine tr_ifnull (pc := 30) 50 k_fn_fill_30 (by decide) (fun _ => ?_) (fun _ _ q => by cases q)
        refine tr_aload_n (pc := 50) 2 k_fn_fill_50 rfl rfl ?_
        refine tr_iconst (pc := 51) (v := 0) k_fn_fill_51 (by decide) ?_
        refine tr_putI (pc := 52) k_fn_fill_52 fl_fn_100 (Or.inl rfl) rfl ⟨rfl, rfl⟩ ?_
        refine tr_iconst (pc := 55) (v := 1) k_fn_fill_55 (by decide) ?_
        refine tr_ireturn (pc := 56) k_fn_fill_56 rfl rfl ?_
        exact hv
      · have hw := hv.2 kq n8 e9
        clear hv
        obtain ⟨tq, hv⟩ := hw
        subst tq
        refine tr_getP (pc := 27) k_fn_fill_27 fl_fn_263 rfl (Eq.trans rfl e9) ?_
        refine tr_ifnull (pc := 30) 50 k_fn_fill_30 (by decide) (fun q => by cases q) (fun _ _ _ => ?_)
        refine tr_aload_n (pc := 33) 2 k_fn_fill_33 rfl rfl ?_
        refine tr_getP (pc := 34) k_fn_fill_34 fl_fn_263 rfl (Eq.trans rfl e9) ?_
        refine tr_getIx (pc := 37) k_fn_fill_37 fl_fn_100 rfl rfl ?_
        refine tr_if_eq (pc := 40) 50 k_fn_fill_40 (by decide) (fun q => ?_) (fun q => ?_)
        · replace hv := hv.1 q
          refine tr_aload_n (pc := 50) 2 k_fn_fill_50 rfl rfl ?_
          refine tr_iconst (pc := 51) (v := 0) k_fn_fill_51 (by decide) ?_
          refine tr_putI (pc := 52) k_fn_fill_52 fl_fn_100 (Or.inl rfl) rfl ⟨rfl, rfl⟩ ?_
          refine tr_iconst (pc := 55) (v := 1) k_fn_fill_55 (by decide) ?_
          refine tr_ireturn (pc := 56) k_fn_fill_56 rfl rfl ?_
          exact hv
        · replace hv := hv.2 q
          refine tr_aload_n (pc := 43) 0 k_fn_fill_43 rfl rfl ?_
          refine tr_bipush (pc := 44) (v := -3) k_fn_fill_44 (by decide) ?_
          have hT := hv
          clear hv
          refine tr_callV (pc := 46) (d' := d + 4) (mc' := 0) (ms' := 0) [vi (-3 : Int32)] k_fn_fill_46 ca_fn_refuse ml_fn_56 ii_fn_refuse ⟨by decide, rfl⟩ pa_fn_refuse (by omega) (by omega) (by omega) rfl (Nat.le_of_ble_eq_true rfl) (Nat.le_of_ble_eq_true rfl) hT (fun v h9 hv => ?_)
          clear hT
          obtain ⟨y11, rfl, hv⟩ := hv
          obtain ⟨h10, eh⟩ : ∃ z, z = h9 := ⟨_, rfl⟩
          subst eh
          obtain ⟨hskh10, hv⟩ := hv
          show mT g me_fn_fill (d + 5) 0 0 49 [some (vr 0 0), some (vi x1), some (vr 7 n3)] [vi y11] h10 _
          refine tr_ireturn (pc := 49) k_fn_fill_49 rfl rfl ?_
          exact hv
theorem v_fn_order_0 {g : mG} {d : Nat} (x1 : Int32) {h : mH} {Q : Option mV → mH → Prop} (hsk : mSK h) (hv : mT g me_ga_jointInOrder (d + 5) 0 0 0 [some (vr 1 0), some (vi x1), none, none] [] h (fun v h1 => ∃ y2, v = some (vi y2) ∧ mSK h1 ∧ Q (some (vi y2)) h1)) : mT g me_fn_order (d + 6) 0 0 0 [some (vr 0 0), some (vi x1)] [] h Q := by
  refine tr_aload_n (pc := 0) 0 k_fn_order_0 rfl rfl ?_
  refine tr_getP (pc := 1) k_fn_order_1 fl_fn_12 rfl (Eq.trans rfl (hsk.1 0 0 _ rfl)) ?_
  refine tr_iload_n (pc := 4) 1 k_fn_order_4 rfl rfl ?_
  have hT := hv
  clear hv
  refine tr_callV (pc := 5) (d' := d + 5) (mc' := 0) (ms' := 0) [vi x1] k_fn_order_5 ca_ga_jointInOrder ml_fn_266 ii_ga_jointInOrder ⟨by decide, rfl⟩ pa_ga_jointInOrder (by omega) (by omega) (by omega) rfl (Nat.le_of_ble_eq_true rfl) (Nat.le_of_ble_eq_true rfl) hT (fun v h9 hv => ?_)
  clear hT
  obtain ⟨y2, rfl, hv⟩ := hv
  obtain ⟨h1, eh⟩ : ∃ z, z = h9 := ⟨_, rfl⟩
  subst eh
  obtain ⟨hskh1, hv⟩ := hv
  show mT g me_fn_order (d + 6) 0 0 8 [some (vr 0 0), some (vi x1)] [vi y2] h1 _
  refine tr_ireturn (pc := 8) k_fn_order_8 rfl rfl ?_
  exact hv
theorem v_ga_jointInOrder_0 {g : mG} {d : Nat} (x1 : Int32) {h : mH} {Q : Option mV → mH → Prop} (hsk : mSK h) (hv : mT g me_ga_beginOrder (d + 4) 0 0 0 [some (vr 1 0), none, none] [] h (fun v h1 => v = none ∧ mSK h1 ∧ mT g me_ga_jointInOrder (d + 5) 0 0 6 [some (vr 1 0), some (vi x1), some (vi (0 : Int32)), none] [] h1 Q)) : mT g me_ga_jointInOrder (d + 5) 0 0 0 [some (vr 1 0), some (vi x1), none, none] [] h Q := by
  refine tr_aload_n (pc := 0) 0 k_ga_jointInOrder_0 rfl rfl ?_
  have hT := hv
  clear hv
  refine tr_callV (pc := 1) (d' := d + 4) (mc' := 0) (ms' := 0) [] k_ga_jointInOrder_1 ca_ga_beginOrder ml_ga_85 ii_ga_beginOrder ⟨by decide, rfl⟩ pa_ga_beginOrder (by omega) (by omega) (by omega) rfl (Nat.le_of_ble_eq_true rfl) (Nat.le_of_ble_eq_true rfl) hT (fun v h9 hv => ?_)
  clear hT
  obtain ⟨rfl, hv⟩ := hv
  obtain ⟨h1, eh⟩ : ∃ z, z = h9 := ⟨_, rfl⟩
  subst eh
  obtain ⟨hskh1, hv⟩ := hv
  show mT g me_ga_jointInOrder (d + 5) 0 0 4 [some (vr 1 0), some (vi x1), none, none] [] h1 _
  refine tr_iconst (pc := 4) (v := 0) k_ga_jointInOrder_4 (by decide) ?_
  refine tr_istore_n (pc := 5) 2 k_ga_jointInOrder_5 rfl (by decide) rfl ?_
  show mT g me_ga_jointInOrder (d + 5) 0 0 6 [some (vr 1 0), some (vi x1), some (vi (0 : Int32)), none] [] h1 _
  exact hv
theorem v_ga_jointInOrder_6 {g : mG} {d : Nat} (x1 : Int32) (x2 : Int32) (o3 : Option mV) {h : mH} {Q : Option mV → mH → Prop} (hsk : mSK h) (hv : (((hI h 2 1 1) ≤ x2 → Q (some (vi (-9 : Int32))) h) ∧ (¬ (hI h 2 1 1) ≤ x2 → mT g me_ga_nextInOrder (d + 4) 0 0 0 [some (vr 1 0), none, none, none, none] [] h (fun v h1 => ∃ p2, v = some (vp p2) ∧ mSK h1 ∧ ((p2 = none → Q (some (vi (-9 : Int32))) h1) ∧ (∀ kq n3, p2 = some (kq, n3) → kq = 7 ∧ ((¬ x2 = x1 → ((hP h1 7 n3 2 = none → mT g me_ga_jointInOrder (d + 5) 0 0 6 [some (vr 1 0), some (vi x1), some (vi (x2 + 1)), some (vr 7 n3)] [] (setI h1 7 n3 12 (1 : Int32)) Q) ∧ (∀ kq n4, hP h1 7 n3 2 = some (kq, n4) → kq = 7 ∧ mT g me_ga_jointInOrder (d + 5) 0 0 6 [some (vr 1 0), some (vi x1), some (vi (x2 + 1)), some (vr 7 n3)] [] (setI (setI h1 7 n3 12 (1 : Int32)) 7 n4 13 ((hI h1 7 n4 13) - (1 : Int32))) Q))) ∧ (x2 = x1 → Q (some (vi (hI h1 7 n3 0))) h1)))))))) : mT g me_ga_jointInOrder (d + 5) 0 0 6 [some (vr 1 0), some (vi x1), some (vi x2), o3] [] h Q := by
  refine tr_iload_n (pc := 6) 2 k_ga_jointInOrder_6 rfl rfl ?_
  refine tr_aload_n (pc := 7) 0 k_ga_jointInOrder_7 rfl rfl ?_
  refine tr_getP (pc := 8) k_ga_jointInOrder_8 fl_ga_18 rfl (Eq.trans rfl (hsk.1 1 1 _ rfl)) ?_
  refine tr_callV (pc := 11) (d' := d + 4) (mc' := 0) (ms' := 0) [] k_ga_jointInOrder_11 ca_al_size ml_ga_24 ii_al_size ⟨by decide, rfl⟩ pa_al_size (by omega) (by omega) (by omega) rfl (Nat.le_of_ble_eq_true rfl) (Nat.le_of_ble_eq_true rfl) (Qk := fun v h9 => mT g me_ga_jointInOrder (d + 5) 0 0 14 [some (vr 1 0), some (vi x1), some (vi x2), o3] (v.toList ++ [vi x2]) h9 _) ?_ (fun _ _ z => z)
  show mT g me_al_size (d + 4) 0 0 0 [some (vr 2 1)] [] h _
  refine tr_aload_n (pc := 0) 0 k_al_size_0 rfl rfl ?_
  refine tr_getIx (pc := 1) k_al_size_1 fl_al_48 rfl rfl ?_
  refine tr_ireturn (pc := 4) k_al_size_4 rfl rfl ?_
  show mT g me_ga_jointInOrder (d + 5) 0 0 14 [some (vr 1 0), some (vi x1), some (vi x2), o3] [vi (hI h 2 1 1), vi x2] h _
  refine tr_icmp_ge (pc := 14) 70 k_ga_jointInOrder_14 (by decide) (fun q => ?_) (fun q => ?_)
  · replace hv := hv.1 q
    refine tr_bipush (pc := 70) (v := -9) k_ga_jointInOrder_70 (by decide) ?_
    refine tr_ireturn (pc := 72) k_ga_jointInOrder_72 rfl rfl ?_
    exact hv
  · replace hv := hv.2 q
    refine tr_aload_n (pc := 17) 0 k_ga_jointInOrder_17 rfl rfl ?_
    have hT := hv
    clear hv
    refine tr_callV (pc := 18) (d' := d + 4) (mc' := 0) (ms' := 0) [] k_ga_jointInOrder_18 ca_ga_nextInOrder ml_ga_88 ii_ga_nextInOrder ⟨by decide, rfl⟩ pa_ga_nextInOrder (by omega) (by omega) (by omega) rfl (Nat.le_of_ble_eq_true rfl) (Nat.le_of_ble_eq_true rfl) hT (fun v h9 hv => ?_)
    clear hT
    obtain ⟨p2, rfl, hv⟩ := hv
    obtain ⟨h1, eh⟩ : ∃ z, z = h9 := ⟨_, rfl⟩
    subst eh
    obtain ⟨hskh1, hv⟩ := hv
    show mT g me_ga_jointInOrder (d + 5) 0 0 21 [some (vr 1 0), some (vi x1), some (vi x2), o3] [vp p2] h1 _
    refine tr_astore_n (pc := 21) 3 k_ga_jointInOrder_21 rfl (by decide) rfl ?_
    show mT g me_ga_jointInOrder (d + 5) 0 0 22 [some (vr 1 0), some (vi x1), some (vi x2), some (vp p2)] [] h1 _
    refine tr_aload_n (pc := 22) 3 k_ga_jointInOrder_22 rfl rfl ?_
    rcases p2 with _ | ⟨kq, n3⟩
    · replace hv := hv.1 rfl
      refine tr_ifnonnull (pc := 23) 29 k_ga_jointInOrder_23 (by decide) (fun _ => ?_) (fun _ _ q => by cases q)
      refine tr_bipush (pc := 26) (v := -9) k_ga_jointInOrder_26 (by decide) ?_
      refine tr_ireturn (pc := 28) k_ga_jointInOrder_28 rfl rfl ?_
      exact hv
    · have hw := hv.2 kq n3 rfl
      clear hv
      obtain ⟨tq, hv⟩ := hw
      subst tq
      refine tr_ifnonnull (pc := 23) 29 k_ga_jointInOrder_23 (by decide) (fun q => by cases q) (fun _ _ _ => ?_)
      refine tr_iload_n (pc := 29) 2 k_ga_jointInOrder_29 rfl rfl ?_
      refine tr_iload_n (pc := 30) 1 k_ga_jointInOrder_30 rfl rfl ?_
      refine tr_icmp_ne (pc := 31) 39 k_ga_jointInOrder_31 (by decide) (fun q => ?_) (fun q => ?_)
      · replace hv := hv.1 q
        refine tr_aload_n (pc := 39) 3 k_ga_jointInOrder_39 rfl rfl ?_
        refine tr_iconst (pc := 40) (v := 1) k_ga_jointInOrder_40 (by decide) ?_
        refine tr_putI (pc := 41) k_ga_jointInOrder_41 fl_ga_95 (Or.inl rfl) rfl ⟨rfl, rfl⟩ ?_
        refine tr_aload_n (pc := 44) 3 k_ga_jointInOrder_44 rfl rfl ?_
        rcases e5 : hP h1 7 n3 2 with _ | ⟨kq, n4⟩
        · replace hv := hv.1 e5
          refine tr_getP (pc := 45) k_ga_jointInOrder_45 fl_ga_73 rfl (Eq.trans (hP_setI) e5) ?_
          refine tr_ifnull (pc := 48) 64 k_ga_jointInOrder_48 (by decide) (fun _ => ?_) (fun _ _ q => by cases q)
          refine tr_iinc (pc := 64) (v := (x2 + 1)) k_ga_jointInOrder_64 rfl rfl (by decide) rfl ?_
          show mT g me_ga_jointInOrder (d + 5) 0 0 67 [some (vr 1 0), some (vi x1), some (vi (x2 + 1)), some (vr 7 n3)] [] (setI h1 7 n3 12 (1 : Int32)) _
          refine tr_goto (pc := 67) 6 k_ga_jointInOrder_67 (by decide) ?_
          exact hv
        · have hw := hv.2 kq n4 e5
          clear hv
          obtain ⟨tq, hv⟩ := hw
          subst tq
          refine tr_getP (pc := 45) k_ga_jointInOrder_45 fl_ga_73 rfl (Eq.trans (hP_setI) e5) ?_
          refine tr_ifnull (pc := 48) 64 k_ga_jointInOrder_48 (by decide) (fun q => by cases q) (fun _ _ _ => ?_)
          refine tr_aload_n (pc := 51) 3 k_ga_jointInOrder_51 rfl rfl ?_
          refine tr_getP (pc := 52) k_ga_jointInOrder_52 fl_ga_73 rfl (Eq.trans (hP_setI) e5) ?_
          refine tr_dup (pc := 55) k_ga_jointInOrder_55 rfl ?_
          refine tr_getIx (pc := 56) k_ga_jointInOrder_56 fl_ga_98 rfl (hI_nf (by decide)) ?_
          refine tr_iconst (pc := 59) (v := 1) k_ga_jointInOrder_59 (by decide) ?_
          refine tr_isub (pc := 60) k_ga_jointInOrder_60 ?_
          refine tr_putI (pc := 61) k_ga_jointInOrder_61 fl_ga_98 (Or.inl rfl) rfl ⟨rfl, rfl⟩ ?_
          refine tr_iinc (pc := 64) (v := (x2 + 1)) k_ga_jointInOrder_64 rfl rfl (by decide) rfl ?_
          show mT g me_ga_jointInOrder (d + 5) 0 0 67 [some (vr 1 0), some (vi x1), some (vi (x2 + 1)), some (vr 7 n3)] [] (setI (setI h1 7 n3 12 (1 : Int32)) 7 n4 13 ((hI h1 7 n4 13) - (1 : Int32))) _
          refine tr_goto (pc := 67) 6 k_ga_jointInOrder_67 (by decide) ?_
          exact hv
      · replace hv := hv.2 q
        refine tr_aload_n (pc := 34) 3 k_ga_jointInOrder_34 rfl rfl ?_
        refine tr_getIx (pc := 35) k_ga_jointInOrder_35 fl_ga_92 rfl rfl ?_
        refine tr_ireturn (pc := 38) k_ga_jointInOrder_38 rfl rfl ?_
        exact hv
theorem v_ga_beginOrder_0 {g : mG} {d : Nat}  {h : mH} {Q : Option mV → mH → Prop} (hsk : mSK h) (hv : mT g me_ga_beginOrder (d + 4) 0 0 10 [some (vr 1 0), some (vi ((hI h 2 1 1) - (1 : Int32))), none] [] h Q) : mT g me_ga_beginOrder (d + 4) 0 0 0 [some (vr 1 0), none, none] [] h Q := by
  refine tr_aload_n (pc := 0) 0 k_ga_beginOrder_0 rfl rfl ?_
  refine tr_getP (pc := 1) k_ga_beginOrder_1 fl_ga_18 rfl (Eq.trans rfl (hsk.1 1 1 _ rfl)) ?_
  refine tr_callV (pc := 4) (d' := d + 3) (mc' := 0) (ms' := 0) [] k_ga_beginOrder_4 ca_al_size ml_ga_24 ii_al_size ⟨by decide, rfl⟩ pa_al_size (by omega) (by omega) (by omega) rfl (Nat.le_of_ble_eq_true rfl) (Nat.le_of_ble_eq_true rfl) (Qk := fun v h9 => mT g me_ga_beginOrder (d + 4) 0 0 7 [some (vr 1 0), none, none] (v.toList ++ []) h9 _) ?_ (fun _ _ z => z)
  show mT g me_al_size (d + 3) 0 0 0 [some (vr 2 1)] [] h _
  refine tr_aload_n (pc := 0) 0 k_al_size_0 rfl rfl ?_
  refine tr_getIx (pc := 1) k_al_size_1 fl_al_48 rfl rfl ?_
  refine tr_ireturn (pc := 4) k_al_size_4 rfl rfl ?_
  show mT g me_ga_beginOrder (d + 4) 0 0 7 [some (vr 1 0), none, none] [vi (hI h 2 1 1)] h _
  refine tr_iconst (pc := 7) (v := 1) k_ga_beginOrder_7 (by decide) ?_
  refine tr_isub (pc := 8) k_ga_beginOrder_8 ?_
  refine tr_istore_n (pc := 9) 1 k_ga_beginOrder_9 rfl (by decide) rfl ?_
  show mT g me_ga_beginOrder (d + 4) 0 0 10 [some (vr 1 0), some (vi ((hI h 2 1 1) - (1 : Int32))), none] [] h _
  exact hv
theorem v_ga_beginOrder_10 {g : mG} {d : Nat} (x1 : Int32) (o2 : Option mV) {h : mH} {Q : Option mV → mH → Prop} (hsk : mSK h) (hv : ((x1 < 0 → mT g me_ga_beginOrder (d + 4) 0 0 73 [some (vr 1 0), some (vi ((hI h 2 1 1) - (1 : Int32))), o2] [] h Q) ∧ (¬ x1 < 0 → (∃ n1, mGet h 1 x1 (some (7, n1)) ∧ (∃ n2, mGet h 1 x1 (some (7, n2)) ∧ (vp_nar .boolean (hI h 7 n2 8) = (hI h 7 n2 8) ∧ (∃ n3, mGet h 1 x1 (some (7, n3)) ∧ mT g me_ga_beginOrder (d + 4) 0 0 10 [some (vr 1 0), some (vi (x1 + (-1))), o2] [] (setI (setI h 7 n1 12 (hI h 7 n2 8)) 7 n3 13 (0 : Int32)) Q))))))) : mT g me_ga_beginOrder (d + 4) 0 0 10 [some (vr 1 0), some (vi x1), o2] [] h Q := by
  refine tr_iload_n (pc := 10) 1 k_ga_beginOrder_10 rfl rfl ?_
  refine tr_if_lt (pc := 11) 63 k_ga_beginOrder_11 (by decide) (fun q => ?_) (fun q => ?_)
  · replace hv := hv.1 q
    refine tr_aload_n (pc := 63) 0 k_ga_beginOrder_63 rfl rfl ?_
    refine tr_getP (pc := 64) k_ga_beginOrder_64 fl_ga_18 rfl (Eq.trans rfl (hsk.1 1 1 _ rfl)) ?_
    refine tr_callV (pc := 67) (d' := d + 3) (mc' := 0) (ms' := 0) [] k_ga_beginOrder_67 ca_al_size ml_ga_24 ii_al_size ⟨by decide, rfl⟩ pa_al_size (by omega) (by omega) (by omega) rfl (Nat.le_of_ble_eq_true rfl) (Nat.le_of_ble_eq_true rfl) (Qk := fun v h9 => mT g me_ga_beginOrder (d + 4) 0 0 70 [some (vr 1 0), some (vi x1), o2] (v.toList ++ []) h9 _) ?_ (fun _ _ z => z)
    show mT g me_al_size (d + 3) 0 0 0 [some (vr 2 1)] [] h _
    refine tr_aload_n (pc := 0) 0 k_al_size_0 rfl rfl ?_
    refine tr_getIx (pc := 1) k_al_size_1 fl_al_48 rfl rfl ?_
    refine tr_ireturn (pc := 4) k_al_size_4 rfl rfl ?_
    show mT g me_ga_beginOrder (d + 4) 0 0 70 [some (vr 1 0), some (vi x1), o2] [vi (hI h 2 1 1)] h _
    refine tr_iconst (pc := 70) (v := 1) k_ga_beginOrder_70 (by decide) ?_
    refine tr_isub (pc := 71) k_ga_beginOrder_71 ?_
    refine tr_istore_n (pc := 72) 1 k_ga_beginOrder_72 rfl (by decide) rfl ?_
    show mT g me_ga_beginOrder (d + 4) 0 0 73 [some (vr 1 0), some (vi ((hI h 2 1 1) - (1 : Int32))), o2] [] h _
    exact hv
  · replace hv := hv.2 q
    refine tr_aload_n (pc := 14) 0 k_ga_beginOrder_14 rfl rfl ?_
    refine tr_getP (pc := 15) k_ga_beginOrder_15 fl_ga_18 rfl (Eq.trans rfl (hsk.1 1 1 _ rfl)) ?_
    refine tr_iload_n (pc := 18) 1 k_ga_beginOrder_18 rfl rfl ?_
    obtain ⟨n1, hg, hv⟩ := hv
    refine tr_alget (pc := 19) k_ga_beginOrder_19 ml_ga_28 (by omega) (Nat.le_of_ble_eq_true rfl) (mGet.up hg rfl rfl) ?_
    refine tr_cast (pc := 22) k_ga_beginOrder_22 (by decide) cl_ga_34 ?_
    refine tr_aload_n (pc := 25) 0 k_ga_beginOrder_25 rfl rfl ?_
    refine tr_getP (pc := 26) k_ga_beginOrder_26 fl_ga_18 rfl (Eq.trans rfl (hsk.1 1 1 _ rfl)) ?_
    refine tr_iload_n (pc := 29) 1 k_ga_beginOrder_29 rfl rfl ?_
    obtain ⟨n2, hg, hv⟩ := hv
    refine tr_alget (pc := 30) k_ga_beginOrder_30 ml_ga_28 (by omega) (Nat.le_of_ble_eq_true rfl) (mGet.up hg rfl rfl) ?_
    refine tr_cast (pc := 33) k_ga_beginOrder_33 (by decide) cl_ga_34 ?_
    refine tr_getIx (pc := 36) k_ga_beginOrder_36 fl_ga_49 rfl rfl ?_
    refine tr_putI (pc := 39) k_ga_beginOrder_39 fl_ga_95 (Or.inl rfl) rfl (mzput hv.1) ?_
    replace hv := hv.2
    refine tr_aload_n (pc := 42) 0 k_ga_beginOrder_42 rfl rfl ?_
    refine tr_getP (pc := 43) k_ga_beginOrder_43 fl_ga_18 rfl (Eq.trans (hP_setI) (hsk.1 1 1 _ rfl)) ?_
    refine tr_iload_n (pc := 46) 1 k_ga_beginOrder_46 rfl rfl ?_
    obtain ⟨n3, hg, hv⟩ := hv
    refine tr_alget (pc := 47) k_ga_beginOrder_47 ml_ga_28 (by omega) (Nat.le_of_ble_eq_true rfl) (mGet.up hg rfl rfl) ?_
    refine tr_cast (pc := 50) k_ga_beginOrder_50 (by decide) cl_ga_34 ?_
    refine tr_iconst (pc := 53) (v := 0) k_ga_beginOrder_53 (by decide) ?_
    refine tr_putI (pc := 54) k_ga_beginOrder_54 fl_ga_98 (Or.inl rfl) rfl ⟨rfl, rfl⟩ ?_
    refine tr_iinc (pc := 57) (v := (x1 + (-1))) k_ga_beginOrder_57 rfl rfl (by decide) rfl ?_
    show mT g me_ga_beginOrder (d + 4) 0 0 60 [some (vr 1 0), some (vi (x1 + (-1))), o2] [] (setI (setI h 7 n1 12 (hI h 7 n2 8)) 7 n3 13 (0 : Int32)) _
    refine tr_goto (pc := 60) 10 k_ga_beginOrder_60 (by decide) ?_
    exact hv
theorem v_ga_beginOrder_73 {g : mG} {d : Nat} (x1 : Int32) (o2 : Option mV) {h : mH} {Q : Option mV → mH → Prop} (hsk : mSK h) (hv : ((x1 < 0 → Q none h) ∧ (¬ x1 < 0 → (∃ n1, mGet h 1 x1 (some (7, n1)) ∧ ((¬ (hI h 7 n1 12) = 0 → mT g me_ga_beginOrder (d + 4) 0 0 73 [some (vr 1 0), some (vi (x1 + (-1))), some (vr 7 n1)] [] h Q) ∧ ((hI h 7 n1 12) = 0 → ((hP h 7 n1 2 = none → mT g me_ga_beginOrder (d + 4) 0 0 73 [some (vr 1 0), some (vi (x1 + (-1))), some (vr 7 n1)] [] h Q) ∧ (∀ kq n2, hP h 7 n1 2 = some (kq, n2) → kq = 7 ∧ mT g me_ga_beginOrder (d + 4) 0 0 73 [some (vr 1 0), some (vi (x1 + (-1))), some (vr 7 n1)] [] (setI h 7 n2 13 ((hI h 7 n2 13) + (1 : Int32))) Q)))))))) : mT g me_ga_beginOrder (d + 4) 0 0 73 [some (vr 1 0), some (vi x1), o2] [] h Q := by
  refine tr_iload_n (pc := 73) 1 k_ga_beginOrder_73 rfl rfl ?_
  refine tr_if_lt (pc := 74) 122 k_ga_beginOrder_74 (by decide) (fun q => ?_) (fun q => ?_)
  · replace hv := hv.1 q
    refine tr_return (pc := 122) k_ga_beginOrder_122 rfl ?_
    exact hv
  · replace hv := hv.2 q
    refine tr_aload_n (pc := 77) 0 k_ga_beginOrder_77 rfl rfl ?_
    refine tr_getP (pc := 78) k_ga_beginOrder_78 fl_ga_18 rfl (Eq.trans rfl (hsk.1 1 1 _ rfl)) ?_
    refine tr_iload_n (pc := 81) 1 k_ga_beginOrder_81 rfl rfl ?_
    obtain ⟨n1, hg, hv⟩ := hv
    refine tr_alget (pc := 82) k_ga_beginOrder_82 ml_ga_28 (by omega) (Nat.le_of_ble_eq_true rfl) (mGet.up hg rfl rfl) ?_
    refine tr_cast (pc := 85) k_ga_beginOrder_85 (by decide) cl_ga_34 ?_
    refine tr_astore_n (pc := 88) 2 k_ga_beginOrder_88 rfl (by decide) rfl ?_
    show mT g me_ga_beginOrder (d + 4) 0 0 89 [some (vr 1 0), some (vi x1), some (vr 7 n1)] [] h _
    refine tr_aload_n (pc := 89) 2 k_ga_beginOrder_89 rfl rfl ?_
    refine tr_getIx (pc := 90) k_ga_beginOrder_90 fl_ga_95 rfl rfl ?_
    refine tr_if_ne (pc := 93) 116 k_ga_beginOrder_93 (by decide) (fun q => ?_) (fun q => ?_)
    · replace hv := hv.1 q
      refine tr_iinc (pc := 116) (v := (x1 + (-1))) k_ga_beginOrder_116 rfl rfl (by decide) rfl ?_
      show mT g me_ga_beginOrder (d + 4) 0 0 119 [some (vr 1 0), some (vi (x1 + (-1))), some (vr 7 n1)] [] h _
      refine tr_goto (pc := 119) 73 k_ga_beginOrder_119 (by decide) ?_
      exact hv
    · replace hv := hv.2 q
      refine tr_aload_n (pc := 96) 2 k_ga_beginOrder_96 rfl rfl ?_
      rcases e3 : hP h 7 n1 2 with _ | ⟨kq, n2⟩
      · replace hv := hv.1 e3
        refine tr_getP (pc := 97) k_ga_beginOrder_97 fl_ga_73 rfl (Eq.trans rfl e3) ?_
        refine tr_ifnull (pc := 100) 116 k_ga_beginOrder_100 (by decide) (fun _ => ?_) (fun _ _ q => by cases q)
        refine tr_iinc (pc := 116) (v := (x1 + (-1))) k_ga_beginOrder_116 rfl rfl (by decide) rfl ?_
        show mT g me_ga_beginOrder (d + 4) 0 0 119 [some (vr 1 0), some (vi (x1 + (-1))), some (vr 7 n1)] [] h _
        refine tr_goto (pc := 119) 73 k_ga_beginOrder_119 (by decide) ?_
        exact hv
      · have hw := hv.2 kq n2 e3
        clear hv
        obtain ⟨tq, hv⟩ := hw
        subst tq
        refine tr_getP (pc := 97) k_ga_beginOrder_97 fl_ga_73 rfl (Eq.trans rfl e3) ?_
        refine tr_ifnull (pc := 100) 116 k_ga_beginOrder_100 (by decide) (fun q => by cases q) (fun _ _ _ => ?_)
        refine tr_aload_n (pc := 103) 2 k_ga_beginOrder_103 rfl rfl ?_
        refine tr_getP (pc := 104) k_ga_beginOrder_104 fl_ga_73 rfl (Eq.trans rfl e3) ?_
        refine tr_dup (pc := 107) k_ga_beginOrder_107 rfl ?_
        refine tr_getIx (pc := 108) k_ga_beginOrder_108 fl_ga_98 rfl rfl ?_
        refine tr_iconst (pc := 111) (v := 1) k_ga_beginOrder_111 (by decide) ?_
        refine tr_iadd (pc := 112) k_ga_beginOrder_112 ?_
        refine tr_putI (pc := 113) k_ga_beginOrder_113 fl_ga_98 (Or.inl rfl) rfl ⟨rfl, rfl⟩ ?_
        refine tr_iinc (pc := 116) (v := (x1 + (-1))) k_ga_beginOrder_116 rfl rfl (by decide) rfl ?_
        show mT g me_ga_beginOrder (d + 4) 0 0 119 [some (vr 1 0), some (vi (x1 + (-1))), some (vr 7 n1)] [] (setI h 7 n2 13 ((hI h 7 n2 13) + (1 : Int32))) _
        refine tr_goto (pc := 119) 73 k_ga_beginOrder_119 (by decide) ?_
        exact hv
theorem v_ga_nextInOrder_0 {g : mG} {d : Nat}  {h : mH} {Q : Option mV → mH → Prop} (hsk : mSK h) (hv : mT g me_ga_nextInOrder (d + 4) 0 0 4 [some (vr 1 0), some (vn), some (vi (0 : Int32)), none, none] [] h Q) : mT g me_ga_nextInOrder (d + 4) 0 0 0 [some (vr 1 0), none, none, none, none] [] h Q := by
  refine tr_null (pc := 0) k_ga_nextInOrder_0 ?_
  refine tr_astore_n (pc := 1) 1 k_ga_nextInOrder_1 rfl (by decide) rfl ?_
  show mT g me_ga_nextInOrder (d + 4) 0 0 2 [some (vr 1 0), some (vn), none, none, none] [] h _
  refine tr_iconst (pc := 2) (v := 0) k_ga_nextInOrder_2 (by decide) ?_
  refine tr_istore_n (pc := 3) 2 k_ga_nextInOrder_3 rfl (by decide) rfl ?_
  show mT g me_ga_nextInOrder (d + 4) 0 0 4 [some (vr 1 0), some (vn), some (vi (0 : Int32)), none, none] [] h _
  exact hv
theorem v_ga_nextInOrder_4 {g : mG} {d : Nat} (r1 : Option (Nat × Nat)) (x2 : Int32) (o3 : Option mV) (o4 : Option mV) {h : mH} {Q : Option mV → mH → Prop} (hsk : mSK h) (hv : (((hI h 2 1 1) ≤ x2 → Q (some (vp r1)) h) ∧ (¬ (hI h 2 1 1) ≤ x2 → (∃ n1, mGet h 1 x2 (some (7, n1)) ∧ ((¬ (hI h 7 n1 12) = 0 → mT g me_ga_nextInOrder (d + 4) 0 0 4 [some (vr 1 0), some (vp r1), some (vi (x2 + 1)), some (vr 7 n1), some (vi (0 : Int32))] [] h Q) ∧ ((hI h 7 n1 12) = 0 → ((¬ (hI h 7 n1 13) = 0 → mT g me_ga_nextInOrder (d + 4) 0 0 4 [some (vr 1 0), some (vp r1), some (vi (x2 + 1)), some (vr 7 n1), some (vi (0 : Int32))] [] h Q) ∧ ((hI h 7 n1 13) = 0 → ((r1 = none → mT g me_ga_nextInOrder (d + 4) 0 0 4 [some (vr 1 0), some (vr 7 n1), some (vi (x2 + 1)), some (vr 7 n1), some (vi (1 : Int32))] [] h Q) ∧ (∀ kq n2, r1 = some (kq, n2) → kq = 7 ∧ (((hI h 7 n1 3) ≤ (hI h 7 n2 3) → mT g me_ga_nextInOrder (d + 4) 0 0 4 [some (vr 1 0), some (vr 7 n2), some (vi (x2 + 1)), some (vr 7 n1), some (vi (1 : Int32))] [] h Q) ∧ (¬ (hI h 7 n1 3) ≤ (hI h 7 n2 3) → mT g me_ga_nextInOrder (d + 4) 0 0 4 [some (vr 1 0), some (vr 7 n1), some (vi (x2 + 1)), some (vr 7 n1), some (vi (1 : Int32))] [] h Q)))))))))))) : mT g me_ga_nextInOrder (d + 4) 0 0 4 [some (vr 1 0), some (vp r1), some (vi x2), o3, o4] [] h Q := by
  refine tr_iload_n (pc := 4) 2 k_ga_nextInOrder_4 rfl rfl ?_
  refine tr_aload_n (pc := 5) 0 k_ga_nextInOrder_5 rfl rfl ?_
  refine tr_getP (pc := 6) k_ga_nextInOrder_6 fl_ga_18 rfl (Eq.trans rfl (hsk.1 1 1 _ rfl)) ?_
  refine tr_callV (pc := 9) (d' := d + 3) (mc' := 0) (ms' := 0) [] k_ga_nextInOrder_9 ca_al_size ml_ga_24 ii_al_size ⟨by decide, rfl⟩ pa_al_size (by omega) (by omega) (by omega) rfl (Nat.le_of_ble_eq_true rfl) (Nat.le_of_ble_eq_true rfl) (Qk := fun v h9 => mT g me_ga_nextInOrder (d + 4) 0 0 12 [some (vr 1 0), some (vp r1), some (vi x2), o3, o4] (v.toList ++ [vi x2]) h9 _) ?_ (fun _ _ z => z)
  show mT g me_al_size (d + 3) 0 0 0 [some (vr 2 1)] [] h _
  refine tr_aload_n (pc := 0) 0 k_al_size_0 rfl rfl ?_
  refine tr_getIx (pc := 1) k_al_size_1 fl_al_48 rfl rfl ?_
  refine tr_ireturn (pc := 4) k_al_size_4 rfl rfl ?_
  show mT g me_ga_nextInOrder (d + 4) 0 0 12 [some (vr 1 0), some (vp r1), some (vi x2), o3, o4] [vi (hI h 2 1 1), vi x2] h _
  refine tr_icmp_ge (pc := 12) 76 k_ga_nextInOrder_12 (by decide) (fun q => ?_) (fun q => ?_)
  · replace hv := hv.1 q
    refine tr_aload_n (pc := 76) 1 k_ga_nextInOrder_76 rfl rfl ?_
    refine tr_areturn (pc := 77) k_ga_nextInOrder_77 rfl rfl ?_
    exact hv
  · replace hv := hv.2 q
    refine tr_aload_n (pc := 15) 0 k_ga_nextInOrder_15 rfl rfl ?_
    refine tr_getP (pc := 16) k_ga_nextInOrder_16 fl_ga_18 rfl (Eq.trans rfl (hsk.1 1 1 _ rfl)) ?_
    refine tr_iload_n (pc := 19) 2 k_ga_nextInOrder_19 rfl rfl ?_
    obtain ⟨n1, hg, hv⟩ := hv
    refine tr_alget (pc := 20) k_ga_nextInOrder_20 ml_ga_28 (by omega) (Nat.le_of_ble_eq_true rfl) (mGet.up hg rfl rfl) ?_
    refine tr_cast (pc := 23) k_ga_nextInOrder_23 (by decide) cl_ga_34 ?_
    refine tr_astore_n (pc := 26) 3 k_ga_nextInOrder_26 rfl (by decide) rfl ?_
    show mT g me_ga_nextInOrder (d + 4) 0 0 27 [some (vr 1 0), some (vp r1), some (vi x2), some (vr 7 n1), o4] [] h _
    refine tr_aload_n (pc := 27) 3 k_ga_nextInOrder_27 rfl rfl ?_
    refine tr_getIx (pc := 28) k_ga_nextInOrder_28 fl_ga_95 rfl rfl ?_
    refine tr_if_ne (pc := 31) 45 k_ga_nextInOrder_31 (by decide) (fun q => ?_) (fun q => ?_)
    · replace hv := hv.1 q
      refine tr_iconst (pc := 45) (v := 0) k_ga_nextInOrder_45 (by decide) ?_
      refine tr_istore (pc := 46) k_ga_nextInOrder_46 (by decide) rfl ?_
      show mT g me_ga_nextInOrder (d + 4) 0 0 48 [some (vr 1 0), some (vp r1), some (vi x2), some (vr 7 n1), some (vi (0 : Int32))] [] h _
      refine tr_iload (pc := 48) k_ga_nextInOrder_48 rfl ?_
      refine tr_if_eq (pc := 50) 70 k_ga_nextInOrder_50 (by decide) (fun _ => ?_) (fun q => absurd q (by decide))
      refine tr_iinc (pc := 70) (v := (x2 + 1)) k_ga_nextInOrder_70 rfl rfl (by decide) rfl ?_
      show mT g me_ga_nextInOrder (d + 4) 0 0 73 [some (vr 1 0), some (vp r1), some (vi (x2 + 1)), some (vr 7 n1), some (vi (0 : Int32))] [] h _
      refine tr_goto (pc := 73) 4 k_ga_nextInOrder_73 (by decide) ?_
      exact hv
    · replace hv := hv.2 q
      refine tr_aload_n (pc := 34) 3 k_ga_nextInOrder_34 rfl rfl ?_
      refine tr_getIx (pc := 35) k_ga_nextInOrder_35 fl_ga_98 rfl rfl ?_
      refine tr_if_ne (pc := 38) 45 k_ga_nextInOrder_38 (by decide) (fun q => ?_) (fun q => ?_)
      · replace hv := hv.1 q
        refine tr_iconst (pc := 45) (v := 0) k_ga_nextInOrder_45 (by decide) ?_
        refine tr_istore (pc := 46) k_ga_nextInOrder_46 (by decide) rfl ?_
        show mT g me_ga_nextInOrder (d + 4) 0 0 48 [some (vr 1 0), some (vp r1), some (vi x2), some (vr 7 n1), some (vi (0 : Int32))] [] h _
        refine tr_iload (pc := 48) k_ga_nextInOrder_48 rfl ?_
        refine tr_if_eq (pc := 50) 70 k_ga_nextInOrder_50 (by decide) (fun _ => ?_) (fun q => absurd q (by decide))
        refine tr_iinc (pc := 70) (v := (x2 + 1)) k_ga_nextInOrder_70 rfl rfl (by decide) rfl ?_
        show mT g me_ga_nextInOrder (d + 4) 0 0 73 [some (vr 1 0), some (vp r1), some (vi (x2 + 1)), some (vr 7 n1), some (vi (0 : Int32))] [] h _
        refine tr_goto (pc := 73) 4 k_ga_nextInOrder_73 (by decide) ?_
        exact hv
      · replace hv := hv.2 q
        refine tr_iconst (pc := 41) (v := 1) k_ga_nextInOrder_41 (by decide) ?_
        refine tr_goto (pc := 42) 46 k_ga_nextInOrder_42 (by decide) ?_
        refine tr_istore (pc := 46) k_ga_nextInOrder_46 (by decide) rfl ?_
        show mT g me_ga_nextInOrder (d + 4) 0 0 48 [some (vr 1 0), some (vp r1), some (vi x2), some (vr 7 n1), some (vi (1 : Int32))] [] h _
        refine tr_iload (pc := 48) k_ga_nextInOrder_48 rfl ?_
        refine tr_if_eq (pc := 50) 70 k_ga_nextInOrder_50 (by decide) (fun q => absurd q (by decide)) (fun _ => ?_)
        refine tr_aload_n (pc := 53) 1 k_ga_nextInOrder_53 rfl rfl ?_
        rcases r1 with _ | ⟨kq, n2⟩
        · replace hv := hv.1 rfl
          refine tr_ifnull (pc := 54) 68 k_ga_nextInOrder_54 (by decide) (fun _ => ?_) (fun _ _ q => by cases q)
          refine tr_aload_n (pc := 68) 3 k_ga_nextInOrder_68 rfl rfl ?_
          refine tr_astore_n (pc := 69) 1 k_ga_nextInOrder_69 rfl (by decide) rfl ?_
          show mT g me_ga_nextInOrder (d + 4) 0 0 70 [some (vr 1 0), some (vr 7 n1), some (vi x2), some (vr 7 n1), some (vi (1 : Int32))] [] h _
          refine tr_iinc (pc := 70) (v := (x2 + 1)) k_ga_nextInOrder_70 rfl rfl (by decide) rfl ?_
          show mT g me_ga_nextInOrder (d + 4) 0 0 73 [some (vr 1 0), some (vr 7 n1), some (vi (x2 + 1)), some (vr 7 n1), some (vi (1 : Int32))] [] h _
          refine tr_goto (pc := 73) 4 k_ga_nextInOrder_73 (by decide) ?_
          exact hv
        · have hw := hv.2 kq n2 rfl
          clear hv
          obtain ⟨tq, hv⟩ := hw
          subst tq
          refine tr_ifnull (pc := 54) 68 k_ga_nextInOrder_54 (by decide) (fun q => by cases q) (fun _ _ _ => ?_)
          refine tr_aload_n (pc := 57) 3 k_ga_nextInOrder_57 rfl rfl ?_
          refine tr_getIx (pc := 58) k_ga_nextInOrder_58 fl_ga_101 rfl rfl ?_
          refine tr_aload_n (pc := 61) 1 k_ga_nextInOrder_61 rfl rfl ?_
          refine tr_getIx (pc := 62) k_ga_nextInOrder_62 fl_ga_101 rfl rfl ?_
          refine tr_icmp_le (pc := 65) 70 k_ga_nextInOrder_65 (by decide) (fun q => ?_) (fun q => ?_)
          · replace hv := hv.1 q
            refine tr_iinc (pc := 70) (v := (x2 + 1)) k_ga_nextInOrder_70 rfl rfl (by decide) rfl ?_
            show mT g me_ga_nextInOrder (d + 4) 0 0 73 [some (vr 1 0), some (vr 7 n2), some (vi (x2 + 1)), some (vr 7 n1), some (vi (1 : Int32))] [] h _
            refine tr_goto (pc := 73) 4 k_ga_nextInOrder_73 (by decide) ?_
            exact hv
          · replace hv := hv.2 q
            refine tr_aload_n (pc := 68) 3 k_ga_nextInOrder_68 rfl rfl ?_
            refine tr_astore_n (pc := 69) 1 k_ga_nextInOrder_69 rfl (by decide) rfl ?_
            show mT g me_ga_nextInOrder (d + 4) 0 0 70 [some (vr 1 0), some (vr 7 n1), some (vi x2), some (vr 7 n1), some (vi (1 : Int32))] [] h _
            refine tr_iinc (pc := 70) (v := (x2 + 1)) k_ga_nextInOrder_70 rfl rfl (by decide) rfl ?_
            show mT g me_ga_nextInOrder (d + 4) 0 0 73 [some (vr 1 0), some (vr 7 n1), some (vi (x2 + 1)), some (vr 7 n1), some (vi (1 : Int32))] [] h _
            refine tr_goto (pc := 73) 4 k_ga_nextInOrder_73 (by decide) ?_
            exact hv
