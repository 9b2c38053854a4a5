/-! printed by my own program: walks between loop heads -/
theorem v_fm_fill_0 {g : mG} {d : Nat} (x1 : Int32) {h : mH} {Q : Option mV → mH → Prop} (hsk : mSK h) (hv : ((x1 < 0 → mT g me_fm_refuse (d + 2) 0 0 0 [some (vr 10 0), some (vi (-1 : Int32))] [] h (fun v h1 => ∃ y2, v = some (vi y2) ∧ mSK h1 ∧ Q (some (vi y2)) h1)) ∧ (¬ x1 < 0 → (((hI h 10 0 3) ≤ x1 → mT g me_fm_refuse (d + 2) 0 0 0 [some (vr 10 0), some (vi (-1 : Int32))] [] h (fun v h3 => ∃ y4, v = some (vi y4) ∧ mSK h3 ∧ Q (some (vi y4)) h3)) ∧ (¬ (hI h 10 0 3) ≤ x1 → (vp_in x1 30 ∧ (((hI h 12 0 x1.toNatClampNeg) = 0 → mT g me_fm_refuse (d + 2) 0 0 0 [some (vr 10 0), some (vi (-3 : Int32))] [] h (fun v h5 => ∃ y6, v = some (vi y6) ∧ mSK h5 ∧ Q (some (vi y6)) h5)) ∧ (¬ (hI h 12 0 x1.toNatClampNeg) = 0 → (vp_in x1 30 ∧ (((hI h 11 14 x1.toNatClampNeg) < 0 → (vp_in x1 30 ∧ Q (some (vi (1 : Int32))) (setI (setI h 12 0 x1.toNatClampNeg (0 : Int32)) 10 0 55 (0 : Int32)))) ∧ (¬ (hI h 11 14 x1.toNatClampNeg) < 0 → (vp_in x1 30 ∧ (vp_in (hI h 11 14 x1.toNatClampNeg) 30 ∧ (((hI h 12 0 ((hI h 11 14 x1.toNatClampNeg).toNatClampNeg)) = 0 → (vp_in x1 30 ∧ Q (some (vi (1 : Int32))) (setI (setI h 12 0 x1.toNatClampNeg (0 : Int32)) 10 0 55 (0 : Int32)))) ∧ (¬ (hI h 12 0 ((hI h 11 14 x1.toNatClampNeg).toNatClampNeg)) = 0 → mT g me_fm_refuse (d + 2) 0 0 0 [some (vr 10 0), some (vi (-3 : Int32))] [] h (fun v h7 => ∃ y8, v = some (vi y8) ∧ mSK h7 ∧ Q (some (vi y8)) h7)))))))))))))))) : mT g me_fm_fill (d + 3) 0 0 0 [some (vr 10 0), some (vi x1)] [] h Q := by
  refine tr_aload_n (pc := 0) 0 k_fm_fill_0 rfl rfl ?_
  refine tr_iload_n (pc := 1) 1 k_fm_fill_1 rfl rfl ?_
  refine tr_callV (pc := 2) (d' := d + 2) (mc' := 0) (ms' := 0) [vi x1] k_fm_fill_2 ca_fm_isJoint ml_fm_161 ii_fm_isJoint ⟨by decide, rfl⟩ pa_fm_isJoint (by omega) (by omega) (by omega) rfl (Nat.le_of_ble_eq_true rfl) (Nat.le_of_ble_eq_true rfl) (Qk := fun v h9 => mT g me_fm_fill (d + 3) 0 0 5 [some (vr 10 0), some (vi x1)] (v.toList ++ []) h9 _) ?_ (fun _ _ z => z)
  show mT g me_fm_isJoint (d + 2) 0 0 0 [some (vr 10 0), some (vi x1)] [] h _
  refine tr_iload_n (pc := 0) 1 k_fm_isJoint_0 rfl rfl ?_
  refine tr_aload_n (pc := 1) 0 k_fm_isJoint_1 rfl rfl ?_
  refine tr_getIx (pc := 2) k_fm_isJoint_2 fl_fm_155 rfl rfl ?_
  refine tr_callS (pc := 5) (d' := d + 1) (mc' := 0) (ms' := 0) [vi x1, vi (hI h 10 0 3)] k_fm_isJoint_5 ca_fm_isIn ml_fm_144 is_fm_isIn pa_fm_isIn (by omega) (by omega) (by omega) rfl (Nat.le_of_ble_eq_true rfl) (Nat.le_of_ble_eq_true rfl) (Qk := fun v h9 => mT g me_fm_isJoint (d + 2) 0 0 8 [some (vr 10 0), some (vi x1)] (v.toList ++ []) h9 _) ?_ (fun _ _ z => z)
  show mT g me_fm_isIn (d + 1) 0 0 0 [some (vi x1), some (vi (hI h 10 0 3))] [] h _
  refine tr_iload_n (pc := 0) 0 k_fm_isIn_0 rfl rfl ?_
  refine tr_if_lt (pc := 1) 13 k_fm_isIn_1 (by decide) (fun q => ?_) (fun q => ?_)
  · replace hv := hv.1 q
    refine tr_iconst (pc := 13) (v := 0) k_fm_isIn_13 (by decide) ?_
    refine tr_ireturn (pc := 14) k_fm_isIn_14 rfl rfl ?_
    show mT g me_fm_isJoint (d + 2) 0 0 8 [some (vr 10 0), some (vi x1)] [vi (0 : Int32)] h _
    refine tr_ireturn (pc := 8) k_fm_isJoint_8 rfl rfl ?_
    show mT g me_fm_fill (d + 3) 0 0 5 [some (vr 10 0), some (vi x1)] [vi (0 : Int32)] h _
    refine tr_if_ne (pc := 5) 14 k_fm_fill_5 (by decide) (fun q => absurd q (by decide)) (fun _ => ?_)
    refine tr_aload_n (pc := 8) 0 k_fm_fill_8 rfl rfl ?_
    refine tr_iconst (pc := 9) (v := -1) k_fm_fill_9 (by decide) ?_
    have hT := hv
    clear hv
    refine tr_callV (pc := 10) (d' := d + 2) (mc' := 0) (ms' := 0) [vi (-1 : Int32)] k_fm_fill_10 ca_fm_refuse ml_fm_133 ii_fm_refuse ⟨by decide, rfl⟩ pa_fm_refuse (by omega) (by omega) (by omega) rfl (Nat.le_of_ble_eq_true rfl) (Nat.le_of_ble_eq_true rfl) hT (fun v h9 hv => ?_)
    clear hT
    obtain ⟨y2, rfl, hv⟩ := hv
    obtain ⟨h1, eh⟩ : ∃ z, z = h9 := ⟨_, rfl⟩
    subst eh
    obtain ⟨hskh1, hv⟩ := hv
    show mT g me_fm_fill (d + 3) 0 0 13 [some (vr 10 0), some (vi x1)] [vi y2] h1 _
    refine tr_ireturn (pc := 13) k_fm_fill_13 rfl rfl ?_
    exact hv
  · replace hv := hv.2 q
    refine tr_iload_n (pc := 4) 0 k_fm_isIn_4 rfl rfl ?_
    refine tr_iload_n (pc := 5) 1 k_fm_isIn_5 rfl rfl ?_
    refine tr_icmp_ge (pc := 6) 13 k_fm_isIn_6 (by decide) (fun q => ?_) (fun q => ?_)
    · replace hv := hv.1 q
      refine tr_iconst (pc := 13) (v := 0) k_fm_isIn_13 (by decide) ?_
      refine tr_ireturn (pc := 14) k_fm_isIn_14 rfl rfl ?_
      show mT g me_fm_isJoint (d + 2) 0 0 8 [some (vr 10 0), some (vi x1)] [vi (0 : Int32)] h _
      refine tr_ireturn (pc := 8) k_fm_isJoint_8 rfl rfl ?_
      show mT g me_fm_fill (d + 3) 0 0 5 [some (vr 10 0), some (vi x1)] [vi (0 : Int32)] h _
      refine tr_if_ne (pc := 5) 14 k_fm_fill_5 (by decide) (fun q => absurd q (by decide)) (fun _ => ?_)
      refine tr_aload_n (pc := 8) 0 k_fm_fill_8 rfl rfl ?_
      refine tr_iconst (pc := 9) (v := -1) k_fm_fill_9 (by decide) ?_
      have hT := hv
      clear hv
      refine tr_callV (pc := 10) (d' := d + 2) (mc' := 0) (ms' := 0) [vi (-1 : Int32)] k_fm_fill_10 ca_fm_refuse ml_fm_133 ii_fm_refuse ⟨by decide, rfl⟩ pa_fm_refuse (by omega) (by omega) (by omega) rfl (Nat.le_of_ble_eq_true rfl) (Nat.le_of_ble_eq_true rfl) hT (fun v h9 hv => ?_)
      clear hT
      obtain ⟨y4, rfl, hv⟩ := hv
      obtain ⟨h3, eh⟩ : ∃ z, z = h9 := ⟨_, rfl⟩
      subst eh
      obtain ⟨hskh3, hv⟩ := hv
      show mT g me_fm_fill (d + 3) 0 0 13 [some (vr 10 0), some (vi x1)] [vi y4] h3 _
      refine tr_ireturn (pc := 13) k_fm_fill_13 rfl rfl ?_
      exact hv
    · replace hv := hv.2 q
      refine tr_iconst (pc := 9) (v := 1) k_fm_isIn_9 (by decide) ?_
      refine tr_goto (pc := 10) 14 k_fm_isIn_10 (by decide) ?_
      refine tr_ireturn (pc := 14) k_fm_isIn_14 rfl rfl ?_
      show mT g me_fm_isJoint (d + 2) 0 0 8 [some (vr 10 0), some (vi x1)] [vi (1 : Int32)] h _
      refine tr_ireturn (pc := 8) k_fm_isJoint_8 rfl rfl ?_
      show mT g me_fm_fill (d + 3) 0 0 5 [some (vr 10 0), some (vi x1)] [vi (1 : Int32)] h _
      refine tr_if_ne (pc := 5) 14 k_fm_fill_5 (by decide) (fun _ => ?_) (fun q => absurd q (by decide))
      refine tr_aload_n (pc := 14) 0 k_fm_fill_14 rfl rfl ?_
      refine tr_getP (pc := 15) k_fm_fill_15 fl_fm_59 rfl (Eq.trans rfl (hsk.1 10 22 _ rfl)) ?_
      refine tr_iload_n (pc := 18) 1 k_fm_fill_18 rfl rfl ?_
      refine tr_zaldx (pc := 19) k_fm_fill_19 (mvin (hsk.2.1 12 0 _ rfl) hv.1) rfl ?_
      replace hv := hv.2
      refine tr_if_eq (pc := 20) 46 k_fm_fill_20 (by decide) (fun q => ?_) (fun q => ?_)
      · replace hv := hv.1 q
        refine tr_aload_n (pc := 46) 0 k_fm_fill_46 rfl rfl ?_
        refine tr_bipush (pc := 47) (v := -3) k_fm_fill_47 (by decide) ?_
        have hT := hv
        clear hv
        refine tr_callV (pc := 49) (d' := d + 2) (mc' := 0) (ms' := 0) [vi (-3 : Int32)] k_fm_fill_49 ca_fm_refuse ml_fm_133 ii_fm_refuse ⟨by decide, rfl⟩ pa_fm_refuse (by omega) (by omega) (by omega) rfl (Nat.le_of_ble_eq_true rfl) (Nat.le_of_ble_eq_true rfl) hT (fun v h9 hv => ?_)
        clear hT
        obtain ⟨y6, rfl, hv⟩ := hv
        obtain ⟨h5, eh⟩ : ∃ z, z = h9 := ⟨_, rfl⟩
        subst eh
        obtain ⟨hskh5, hv⟩ := hv
        show mT g me_fm_fill (d + 3) 0 0 52 [some (vr 10 0), some (vi x1)] [vi y6] h5 _
        refine tr_ireturn (pc := 52) k_fm_fill_52 rfl rfl ?_
        exact hv
      · replace hv := hv.2 q
        refine tr_aload_n (pc := 23) 0 k_fm_fill_23 rfl rfl ?_
        refine tr_getP (pc := 24) k_fm_fill_24 fl_fm_38 rfl (Eq.trans rfl (hsk.1 10 15 _ rfl)) ?_
        refine tr_iload_n (pc := 27) 1 k_fm_fill_27 rfl rfl ?_
        refine tr_ialdx (pc := 28) k_fm_fill_28 (mvin (hsk.2.1 11 14 _ rfl) hv.1) rfl ?_
        replace hv := hv.2
        refine tr_if_lt (pc := 29) 53 k_fm_fill_29 (by decide) (fun q => ?_) (fun q => ?_)
        · replace hv := hv.1 q
          refine tr_aload_n (pc := 53) 0 k_fm_fill_53 rfl rfl ?_
          refine tr_getP (pc := 54) k_fm_fill_54 fl_fm_59 rfl (Eq.trans rfl (hsk.1 10 22 _ rfl)) ?_
          refine tr_iload_n (pc := 57) 1 k_fm_fill_57 rfl rfl ?_
          refine tr_iconst (pc := 58) (v := 0) k_fm_fill_58 (by decide) ?_
          refine tr_zast (pc := 59) k_fm_fill_59 (mvin (hsk.2.1 12 0 _ rfl) hv.1) rfl ?_
          replace hv := hv.2
          refine tr_aload_n (pc := 60) 0 k_fm_fill_60 rfl rfl ?_
          refine tr_callV (pc := 61) (d' := d + 2) (mc' := 0) (ms' := 0) [] k_fm_fill_61 ca_fm_changes ml_fm_152 ii_fm_changes ⟨by decide, rfl⟩ pa_fm_changes (by omega) (by omega) (by omega) rfl (Nat.le_of_ble_eq_true rfl) (Nat.le_of_ble_eq_true rfl) (Qk := fun v h9 => mT g me_fm_fill (d + 3) 0 0 64 [some (vr 10 0), some (vi x1)] (v.toList ++ []) h9 _) ?_ (fun _ _ z => z)
          show mT g me_fm_changes (d + 2) 0 0 0 [some (vr 10 0)] [] (setI h 12 0 x1.toNatClampNeg (0 : Int32)) _
          refine tr_aload_n (pc := 0) 0 k_fm_changes_0 rfl rfl ?_
          refine tr_iconst (pc := 1) (v := 0) k_fm_changes_1 (by decide) ?_
          refine tr_putI (pc := 2) k_fm_changes_2 fl_fm_137 (Or.inl rfl) rfl ⟨rfl, rfl⟩ ?_
          refine tr_return (pc := 5) k_fm_changes_5 rfl ?_
          show mT g me_fm_fill (d + 3) 0 0 64 [some (vr 10 0), some (vi x1)] [] (setI (setI h 12 0 x1.toNatClampNeg (0 : Int32)) 10 0 55 (0 : Int32)) _
          refine tr_iconst (pc := 64) (v := 1) k_fm_fill_64 (by decide) ?_
          refine tr_ireturn (pc := 65) k_fm_fill_65 rfl rfl ?_
          exact hv
        · replace hv := hv.2 q
          refine tr_aload_n (pc := 32) 0 k_fm_fill_32 rfl rfl ?_
          refine tr_getP (pc := 33) k_fm_fill_33 fl_fm_59 rfl (Eq.trans rfl (hsk.1 10 22 _ rfl)) ?_
          refine tr_aload_n (pc := 36) 0 k_fm_fill_36 rfl rfl ?_
          refine tr_getP (pc := 37) k_fm_fill_37 fl_fm_38 rfl (Eq.trans rfl (hsk.1 10 15 _ rfl)) ?_
          refine tr_iload_n (pc := 40) 1 k_fm_fill_40 rfl rfl ?_
          refine tr_ialdx (pc := 41) k_fm_fill_41 (mvin (hsk.2.1 11 14 _ rfl) hv.1) rfl ?_
          replace hv := hv.2
          refine tr_zaldx (pc := 42) k_fm_fill_42 (mvin (hsk.2.1 12 0 _ rfl) hv.1) rfl ?_
          replace hv := hv.2
          refine tr_if_eq (pc := 43) 53 k_fm_fill_43 (by decide) (fun q => ?_) (fun q => ?_)
          · replace hv := hv.1 q
            refine tr_aload_n (pc := 53) 0 k_fm_fill_53 rfl rfl ?_
            refine tr_getP (pc := 54) k_fm_fill_54 fl_fm_59 rfl (Eq.trans rfl (hsk.1 10 22 _ rfl)) ?_
            refine tr_iload_n (pc := 57) 1 k_fm_fill_57 rfl rfl ?_
            refine tr_iconst (pc := 58) (v := 0) k_fm_fill_58 (by decide) ?_
            refine tr_zast (pc := 59) k_fm_fill_59 (mvin (hsk.2.1 12 0 _ rfl) hv.1) rfl ?_
            replace hv := hv.2
            refine tr_aload_n (pc := 60) 0 k_fm_fill_60 rfl rfl ?_
            refine tr_callV (pc := 61) (d' := d + 2) (mc' := 0) (ms' := 0) [] k_fm_fill_61 ca_fm_changes ml_fm_152 ii_fm_changes ⟨by decide, rfl⟩ pa_fm_changes (by omega) (by omega) (by omega) rfl (Nat.le_of_ble_eq_true rfl) (Nat.le_of_ble_eq_true rfl) (Qk := fun v h9 => mT g me_fm_fill (d + 3) 0 0 64 [some (vr 10 0), some (vi x1)] (v.toList ++ []) h9 _) ?_ (fun _ _ z => z)
            show mT g me_fm_changes (d + 2) 0 0 0 [some (vr 10 0)] [] (setI h 12 0 x1.toNatClampNeg (0 : Int32)) _
            refine tr_aload_n (pc := 0) 0 k_fm_changes_0 rfl rfl ?_
            refine tr_iconst (pc := 1) (v := 0) k_fm_changes_1 (by decide) ?_
            refine tr_putI (pc := 2) k_fm_changes_2 fl_fm_137 (Or.inl rfl) rfl ⟨rfl, rfl⟩ ?_
            refine tr_return (pc := 5) k_fm_changes_5 rfl ?_
            show mT g me_fm_fill (d + 3) 0 0 64 [some (vr 10 0), some (vi x1)] [] (setI (setI h 12 0 x1.toNatClampNeg (0 : Int32)) 10 0 55 (0 : Int32)) _
            refine tr_iconst (pc := 64) (v := 1) k_fm_fill_64 (by decide) ?_
            refine tr_ireturn (pc := 65) k_fm_fill_65 rfl rfl ?_
            exact hv
          · replace hv := hv.2 q
            refine tr_aload_n (pc := 46) 0 k_fm_fill_46 rfl rfl ?_
            refine tr_bipush (pc := 47) (v := -3) k_fm_fill_47 (by decide) ?_
            have hT := hv
            clear hv
            refine tr_callV (pc := 49) (d' := d + 2) (mc' := 0) (ms' := 0) [vi (-3 : Int32)] k_fm_fill_49 ca_fm_refuse ml_fm_133 ii_fm_refuse ⟨by decide, rfl⟩ pa_fm_refuse (by omega) (by omega) (by omega) rfl (Nat.le_of_ble_eq_true rfl) (Nat.le_of_ble_eq_true rfl) hT (fun v h9 hv => ?_)
            clear hT
            obtain ⟨y8, rfl, hv⟩ := hv
            obtain ⟨h7, eh⟩ : ∃ z, z = h9 := ⟨_, rfl⟩
            subst eh
            obtain ⟨hskh7, hv⟩ := hv
            show mT g me_fm_fill (d + 3) 0 0 52 [some (vr 10 0), some (vi x1)] [vi y8] h7 _
            refine tr_ireturn (pc := 52) k_fm_fill_52 rfl rfl ?_
            exact hv
theorem v_fm_order_0 {g : mG} {d : Nat} (x1 : Int32) {h : mH} {Q : Option mV → mH → Prop} (hsk : mSK h) (hv : mT g me_fm_order (d + 2) 0 0 2 [some (vr 10 0), some (vi x1), some (vi (0 : Int32)), none, none] [] h Q) : mT g me_fm_order (d + 2) 0 0 0 [some (vr 10 0), some (vi x1), none, none, none] [] h Q := by
  refine tr_iconst (pc := 0) (v := 0) k_fm_order_0 (by decide) ?_
  refine tr_istore_n (pc := 1) 2 k_fm_order_1 rfl (by decide) rfl ?_
  show mT g me_fm_order (d + 2) 0 0 2 [some (vr 10 0), some (vi x1), some (vi (0 : Int32)), none, none] [] h _
  exact hv
theorem v_fm_order_2 {g : mG} {d : Nat} (x1 : Int32) (x2 : Int32) (o3 : Option mV) (o4 : Option mV) {h : mH} {Q : Option mV → mH → Prop} (hsk : mSK h) (hv : (((hI h 10 0 3) ≤ x2 → mT g me_fm_order (d + 2) 0 0 33 [some (vr 10 0), some (vi x1), some (vi (-9 : Int32)), some (vi (0 : Int32)), o4] [] h Q) ∧ (¬ (hI h 10 0 3) ≤ x2 → (vp_in x2 30 ∧ (vp_in x2 30 ∧ vp_nar .boolean (hI h 12 0 x2.toNatClampNeg) = (hI h 12 0 x2.toNatClampNeg) ∧ mT g me_fm_order (d + 2) 0 0 2 [some (vr 10 0), some (vi x1), some (vi (x2 + 1)), o3, o4] [] (setI h 12 4 x2.toNatClampNeg (hI h 12 0 x2.toNatClampNeg)) Q))))) : mT g me_fm_order (d + 2) 0 0 2 [some (vr 10 0), some (vi x1), some (vi x2), o3, o4] [] h Q := by
  refine tr_iload_n (pc := 2) 2 k_fm_order_2 rfl rfl ?_
  refine tr_aload_n (pc := 3) 0 k_fm_order_3 rfl rfl ?_
  refine tr_getIx (pc := 4) k_fm_order_4 fl_fm_155 rfl rfl ?_
  refine tr_icmp_ge (pc := 7) 28 k_fm_order_7 (by decide) (fun q => ?_) (fun q => ?_)
  · replace hv := hv.1 q
    refine tr_bipush (pc := 28) (v := -9) k_fm_order_28 (by decide) ?_
    refine tr_istore_n (pc := 30) 2 k_fm_order_30 rfl (by decide) rfl ?_
    show mT g me_fm_order (d + 2) 0 0 31 [some (vr 10 0), some (vi x1), some (vi (-9 : Int32)), o3, o4] [] h _
    refine tr_iconst (pc := 31) (v := 0) k_fm_order_31 (by decide) ?_
    refine tr_istore_n (pc := 32) 3 k_fm_order_32 rfl (by decide) rfl ?_
    show mT g me_fm_order (d + 2) 0 0 33 [some (vr 10 0), some (vi x1), some (vi (-9 : Int32)), some (vi (0 : Int32)), o4] [] h _
    exact hv
  · replace hv := hv.2 q
    refine tr_aload_n (pc := 10) 0 k_fm_order_10 rfl rfl ?_
    refine tr_getP (pc := 11) k_fm_order_11 fl_fm_129 rfl (Eq.trans rfl (hsk.1 10 62 _ rfl)) ?_
    refine tr_iload_n (pc := 14) 2 k_fm_order_14 rfl rfl ?_
    refine tr_aload_n (pc := 15) 0 k_fm_order_15 rfl rfl ?_
    refine tr_getP (pc := 16) k_fm_order_16 fl_fm_59 rfl (Eq.trans rfl (hsk.1 10 22 _ rfl)) ?_
    refine tr_iload_n (pc := 19) 2 k_fm_order_19 rfl rfl ?_
    refine tr_zaldx (pc := 20) k_fm_order_20 (mvin (hsk.2.1 12 0 _ rfl) hv.1) rfl ?_
    replace hv := hv.2
    refine tr_zast (pc := 21) k_fm_order_21 (mvin (hsk.2.1 12 4 _ rfl) hv.1) hv.2.1 ?_
    replace hv := hv.2.2
    refine tr_iinc (pc := 22) (v := (x2 + 1)) k_fm_order_22 rfl rfl (by decide) rfl ?_
    show mT g me_fm_order (d + 2) 0 0 25 [some (vr 10 0), some (vi x1), some (vi (x2 + 1)), o3, o4] [] (setI h 12 4 x2.toNatClampNeg (hI h 12 0 x2.toNatClampNeg)) _
    refine tr_goto (pc := 25) 2 k_fm_order_25 (by decide) ?_
    exact hv
theorem v_fm_order_33 {g : mG} {d : Nat} (x1 : Int32) (x2 : Int32) (x3 : Int32) (o4 : Option mV) {h : mH} {Q : Option mV → mH → Prop} (hsk : mSK h) (hv : ((x1 < x3 → Q (some (vi x2)) h) ∧ (¬ x1 < x3 → mT g me_fm_order (d + 2) 0 0 44 [some (vr 10 0), some (vi x1), some (vi (-9 : Int32)), some (vi x3), some (vi (0 : Int32))] [] h Q))) : mT g me_fm_order (d + 2) 0 0 33 [some (vr 10 0), some (vi x1), some (vi x2), some (vi x3), o4] [] h Q := by
  refine tr_iload_n (pc := 33) 3 k_fm_order_33 rfl rfl ?_
  refine tr_iload_n (pc := 34) 1 k_fm_order_34 rfl rfl ?_
  refine tr_icmp_gt (pc := 35) 115 k_fm_order_35 (by decide) (fun q => ?_) (fun q => ?_)
  · replace hv := hv.1 q
    refine tr_iload_n (pc := 115) 2 k_fm_order_115 rfl rfl ?_
    refine tr_ireturn (pc := 116) k_fm_order_116 rfl rfl ?_
    exact hv
  · replace hv := hv.2 q
    refine tr_bipush (pc := 38) (v := -9) k_fm_order_38 (by decide) ?_
    refine tr_istore_n (pc := 40) 2 k_fm_order_40 rfl (by decide) rfl ?_
    show mT g me_fm_order (d + 2) 0 0 41 [some (vr 10 0), some (vi x1), some (vi (-9 : Int32)), some (vi x3), o4] [] h _
    refine tr_iconst (pc := 41) (v := 0) k_fm_order_41 (by decide) ?_
    refine tr_istore (pc := 42) k_fm_order_42 (by decide) rfl ?_
    show mT g me_fm_order (d + 2) 0 0 44 [some (vr 10 0), some (vi x1), some (vi (-9 : Int32)), some (vi x3), some (vi (0 : Int32))] [] h _
    exact hv
theorem v_fm_order_44 {g : mG} {d : Nat} (x1 : Int32) (x2 : Int32) (x3 : Int32) (x4 : Int32) {h : mH} {Q : Option mV → mH → Prop} (hsk : mSK h) (hv : (((hI h 10 0 3) ≤ x4 → ((0 ≤ x2 → (vp_in x2 30 ∧ mT g me_fm_order (d + 2) 0 0 33 [some (vr 10 0), some (vi x1), some (vi x2), some (vi (x3 + 1)), some (vi x4)] [] (setI h 12 4 x2.toNatClampNeg (1 : Int32)) Q)) ∧ (¬ 0 ≤ x2 → Q (some (vi (-9 : Int32))) h))) ∧ (¬ (hI h 10 0 3) ≤ x4 → mT g me_fm_mayEmpty (d + 1) 0 0 0 [some (vr 10 0), some (vi x4), some (vr 12 4), none, none] [] h (fun v h1 => ∃ y2, v = some (vi y2) ∧ mSK h1 ∧ ((y2 = 0 → mT g me_fm_order (d + 2) 0 0 44 [some (vr 10 0), some (vi x1), some (vi x2), some (vi x3), some (vi (x4 + 1))] [] h1 Q) ∧ (¬ y2 = 0 → ((x2 < 0 → mT g me_fm_order (d + 2) 0 0 44 [some (vr 10 0), some (vi x1), some (vi x4), some (vi x3), some (vi (x4 + 1))] [] h1 Q) ∧ (¬ x2 < 0 → (vp_in x4 30 ∧ (vp_in x2 30 ∧ (((hI h1 11 16 x4.toNatClampNeg) ≤ (hI h1 11 16 x2.toNatClampNeg) → mT g me_fm_order (d + 2) 0 0 44 [some (vr 10 0), some (vi x1), some (vi x2), some (vi x3), some (vi (x4 + 1))] [] h1 Q) ∧ (¬ (hI h1 11 16 x4.toNatClampNeg) ≤ (hI h1 11 16 x2.toNatClampNeg) → mT g me_fm_order (d + 2) 0 0 44 [some (vr 10 0), some (vi x1), some (vi x4), some (vi x3), some (vi (x4 + 1))] [] h1 Q)))))))))))) : mT g me_fm_order (d + 2) 0 0 44 [some (vr 10 0), some (vi x1), some (vi x2), some (vi x3), some (vi x4)] [] h Q := by
  refine tr_iload (pc := 44) k_fm_order_44 rfl ?_
  refine tr_aload_n (pc := 46) 0 k_fm_order_46 rfl rfl ?_
  refine tr_getIx (pc := 47) k_fm_order_47 fl_fm_155 rfl rfl ?_
  refine tr_icmp_ge (pc := 50) 95 k_fm_order_50 (by decide) (fun q => ?_) (fun q => ?_)
  · replace hv := hv.1 q
    refine tr_iload_n (pc := 95) 2 k_fm_order_95 rfl rfl ?_
    refine tr_if_ge (pc := 96) 102 k_fm_order_96 (by decide) (fun q => ?_) (fun q => ?_)
    · replace hv := hv.1 q
      refine tr_aload_n (pc := 102) 0 k_fm_order_102 rfl rfl ?_
      refine tr_getP (pc := 103) k_fm_order_103 fl_fm_129 rfl (Eq.trans rfl (hsk.1 10 62 _ rfl)) ?_
      refine tr_iload_n (pc := 106) 2 k_fm_order_106 rfl rfl ?_
      refine tr_iconst (pc := 107) (v := 1) k_fm_order_107 (by decide) ?_
      refine tr_zast (pc := 108) k_fm_order_108 (mvin (hsk.2.1 12 4 _ rfl) hv.1) rfl ?_
      replace hv := hv.2
      refine tr_iinc (pc := 109) (v := (x3 + 1)) k_fm_order_109 rfl rfl (by decide) rfl ?_
      show mT g me_fm_order (d + 2) 0 0 112 [some (vr 10 0), some (vi x1), some (vi x2), some (vi (x3 + 1)), some (vi x4)] [] (setI h 12 4 x2.toNatClampNeg (1 : Int32)) _
      refine tr_goto (pc := 112) 33 k_fm_order_112 (by decide) ?_
      exact hv
    · replace hv := hv.2 q
      refine tr_bipush (pc := 99) (v := -9) k_fm_order_99 (by decide) ?_
      refine tr_ireturn (pc := 101) k_fm_order_101 rfl rfl ?_
      exact hv
  · replace hv := hv.2 q
    refine tr_aload_n (pc := 53) 0 k_fm_order_53 rfl rfl ?_
    refine tr_iload (pc := 54) k_fm_order_54 rfl ?_
    refine tr_aload_n (pc := 56) 0 k_fm_order_56 rfl rfl ?_
    refine tr_getP (pc := 57) k_fm_order_57 fl_fm_129 rfl (Eq.trans rfl (hsk.1 10 62 _ rfl)) ?_
    have hT := hv
    clear hv
    refine tr_callV (pc := 60) (d' := d + 1) (mc' := 0) (ms' := 0) [vi x4, vr 12 4] k_fm_order_60 ca_fm_mayEmpty ml_fm_298 ii_fm_mayEmpty ⟨by decide, rfl⟩ pa_fm_mayEmpty (by omega) (by omega) (by omega) rfl (Nat.le_of_ble_eq_true rfl) (Nat.le_of_ble_eq_true rfl) hT (fun v h9 hv => ?_)
    clear hT
    obtain ⟨y2, rfl, hv⟩ := hv
    obtain ⟨h1, eh⟩ : ∃ z, z = h9 := ⟨_, rfl⟩
    subst eh
    obtain ⟨hskh1, hv⟩ := hv
    show mT g me_fm_order (d + 2) 0 0 63 [some (vr 10 0), some (vi x1), some (vi x2), some (vi x3), some (vi x4)] [vi y2] h1 _
    refine tr_if_eq (pc := 63) 89 k_fm_order_63 (by decide) (fun q => ?_) (fun q => ?_)
    · replace hv := hv.1 q
      refine tr_iinc (pc := 89) (v := (x4 + 1)) k_fm_order_89 rfl rfl (by decide) rfl ?_
      show mT g me_fm_order (d + 2) 0 0 92 [some (vr 10 0), some (vi x1), some (vi x2), some (vi x3), some (vi (x4 + 1))] [] h1 _
      refine tr_goto (pc := 92) 44 k_fm_order_92 (by decide) ?_
      exact hv
    · replace hv := hv.2 q
      refine tr_iload_n (pc := 66) 2 k_fm_order_66 rfl rfl ?_
      refine tr_if_lt (pc := 67) 86 k_fm_order_67 (by decide) (fun q => ?_) (fun q => ?_)
      · replace hv := hv.1 q
        refine tr_iload (pc := 86) k_fm_order_86 rfl ?_
        refine tr_istore_n (pc := 88) 2 k_fm_order_88 rfl (by decide) rfl ?_
        show mT g me_fm_order (d + 2) 0 0 89 [some (vr 10 0), some (vi x1), some (vi x4), some (vi x3), some (vi x4)] [] h1 _
        refine tr_iinc (pc := 89) (v := (x4 + 1)) k_fm_order_89 rfl rfl (by decide) rfl ?_
        show mT g me_fm_order (d + 2) 0 0 92 [some (vr 10 0), some (vi x1), some (vi x4), some (vi x3), some (vi (x4 + 1))] [] h1 _
        refine tr_goto (pc := 92) 44 k_fm_order_92 (by decide) ?_
        exact hv
      · replace hv := hv.2 q
        refine tr_aload_n (pc := 70) 0 k_fm_order_70 rfl rfl ?_
        refine tr_getP (pc := 71) k_fm_order_71 fl_fm_44 rfl (Eq.trans rfl (hskh1.1 10 17 _ rfl)) ?_
        refine tr_iload (pc := 74) k_fm_order_74 rfl ?_
        refine tr_ialdx (pc := 76) k_fm_order_76 (mvin (hskh1.2.1 11 16 _ rfl) hv.1) rfl ?_
        replace hv := hv.2
        refine tr_aload_n (pc := 77) 0 k_fm_order_77 rfl rfl ?_
        refine tr_getP (pc := 78) k_fm_order_78 fl_fm_44 rfl (Eq.trans rfl (hskh1.1 10 17 _ rfl)) ?_
        refine tr_iload_n (pc := 81) 2 k_fm_order_81 rfl rfl ?_
        refine tr_ialdx (pc := 82) k_fm_order_82 (mvin (hskh1.2.1 11 16 _ rfl) hv.1) rfl ?_
        replace hv := hv.2
        refine tr_icmp_le (pc := 83) 89 k_fm_order_83 (by decide) (fun q => ?_) (fun q => ?_)
        · replace hv := hv.1 q
          refine tr_iinc (pc := 89) (v := (x4 + 1)) k_fm_order_89 rfl rfl (by decide) rfl ?_
          show mT g me_fm_order (d + 2) 0 0 92 [some (vr 10 0), some (vi x1), some (vi x2), some (vi x3), some (vi (x4 + 1))] [] h1 _
          refine tr_goto (pc := 92) 44 k_fm_order_92 (by decide) ?_
          exact hv
        · replace hv := hv.2 q
          refine tr_iload (pc := 86) k_fm_order_86 rfl ?_
          refine tr_istore_n (pc := 88) 2 k_fm_order_88 rfl (by decide) rfl ?_
          show mT g me_fm_order (d + 2) 0 0 89 [some (vr 10 0), some (vi x1), some (vi x4), some (vi x3), some (vi x4)] [] h1 _
          refine tr_iinc (pc := 89) (v := (x4 + 1)) k_fm_order_89 rfl rfl (by decide) rfl ?_
          show mT g me_fm_order (d + 2) 0 0 92 [some (vr 10 0), some (vi x1), some (vi x4), some (vi x3), some (vi (x4 + 1))] [] h1 _
          refine tr_goto (pc := 92) 44 k_fm_order_92 (by decide) ?_
          exact hv
theorem v_fm_tankOf_0 {g : mG} {d : Nat} (x1 : Int32) (x2 : Int32) {h : mH} {Q : Option mV → mH → Prop} (hsk : mSK h) (hv : ((x1 < 0 → mT g me_fm_refuse (d + 2) 0 0 0 [some (vr 10 0), some (vi (-1 : Int32))] [] h (fun v h1 => ∃ y2, v = some (vi y2) ∧ mSK h1 ∧ Q (some (vi y2)) h1)) ∧ (¬ x1 < 0 → (((hI h 10 0 2) ≤ x1 → mT g me_fm_refuse (d + 2) 0 0 0 [some (vr 10 0), some (vi (-1 : Int32))] [] h (fun v h3 => ∃ y4, v = some (vi y4) ∧ mSK h3 ∧ Q (some (vi y4)) h3)) ∧ (¬ (hI h 10 0 2) ≤ x1 → ((x2 = 0 → (vp_in x1 4 ∧ (vp_in x1 4 ∧ (vp_in x1 4 ∧ (¬ (hI h 11 8 x1.toNatClampNeg) = 0 ∧ Q (some (vi ((hI h 11 7 x1.toNatClampNeg) + ((hI h 11 11 x1.toNatClampNeg) / (hI h 11 8 x1.toNatClampNeg))))) h))))) ∧ (x2 = 1 → (vp_in x1 4 ∧ Q (some (vi (hI h 11 11 x1.toNatClampNeg))) h)) ∧ (x2 = 2 → (vp_in x1 4 ∧ Q (some (vi (hI h 11 10 x1.toNatClampNeg))) h)) ∧ (x2 = 3 → (vp_in x1 4 ∧ Q (some (vi (hI h 11 12 x1.toNatClampNeg))) h)) ∧ (x2 = 4 → (vp_in x1 4 ∧ Q (some (vi (hI h 11 13 x1.toNatClampNeg))) h)) ∧ (x2 = 5 → mT g me_fm_sees (d + 2) 0 0 0 [some (vr 10 0)] [] h (fun v h5 => v = none ∧ mSK h5 ∧ (vp_in x1 4 ∧ Q (some (vi (hI h5 11 34 x1.toNatClampNeg))) h5))) ∧ (¬ x2 = 0 → ¬ x2 = 1 → ¬ x2 = 2 → ¬ x2 = 3 → ¬ x2 = 4 → ¬ x2 = 5 → mT g me_fm_refuse (d + 2) 0 0 0 [some (vr 10 0), some (vi (-2 : Int32))] [] h (fun v h6 => ∃ y7, v = some (vi y7) ∧ mSK h6 ∧ Q (some (vi y7)) h6)))))))) : mT g me_fm_tankOf (d + 3) 0 0 0 [some (vr 10 0), some (vi x1), some (vi x2)] [] h Q := by
  refine tr_iload_n (pc := 0) 1 k_fm_tankOf_0 rfl rfl ?_
  refine tr_aload_n (pc := 1) 0 k_fm_tankOf_1 rfl rfl ?_
  refine tr_getIx (pc := 2) k_fm_tankOf_2 fl_fm_141 rfl rfl ?_
  refine tr_callS (pc := 5) (d' := d + 2) (mc' := 0) (ms' := 0) [vi x1, vi (hI h 10 0 2)] k_fm_tankOf_5 ca_fm_isIn ml_fm_144 is_fm_isIn pa_fm_isIn (by omega) (by omega) (by omega) rfl (Nat.le_of_ble_eq_true rfl) (Nat.le_of_ble_eq_true rfl) (Qk := fun v h9 => mT g me_fm_tankOf (d + 3) 0 0 8 [some (vr 10 0), some (vi x1), some (vi x2)] (v.toList ++ []) h9 _) ?_ (fun _ _ z => z)
  show mT g me_fm_isIn (d + 2) 0 0 0 [some (vi x1), some (vi (hI h 10 0 2))] [] h _
  refine tr_iload_n (pc := 0) 0 k_fm_isIn_0 rfl rfl ?_
  refine tr_if_lt (pc := 1) 13 k_fm_isIn_1 (by decide) (fun q => ?_) (fun q => ?_)
  · replace hv := hv.1 q
    refine tr_iconst (pc := 13) (v := 0) k_fm_isIn_13 (by decide) ?_
    refine tr_ireturn (pc := 14) k_fm_isIn_14 rfl rfl ?_
    show mT g me_fm_tankOf (d + 3) 0 0 8 [some (vr 10 0), some (vi x1), some (vi x2)] [vi (0 : Int32)] h _
    refine tr_if_ne (pc := 8) 17 k_fm_tankOf_8 (by decide) (fun q => absurd q (by decide)) (fun _ => ?_)
    refine tr_aload_n (pc := 11) 0 k_fm_tankOf_11 rfl rfl ?_
    refine tr_iconst (pc := 12) (v := -1) k_fm_tankOf_12 (by decide) ?_
    have hT := hv
    clear hv
    refine tr_callV (pc := 13) (d' := d + 2) (mc' := 0) (ms' := 0) [vi (-1 : Int32)] k_fm_tankOf_13 ca_fm_refuse ml_fm_133 ii_fm_refuse ⟨by decide, rfl⟩ pa_fm_refuse (by omega) (by omega) (by omega) rfl (Nat.le_of_ble_eq_true rfl) (Nat.le_of_ble_eq_true rfl) hT (fun v h9 hv => ?_)
    clear hT
    obtain ⟨y2, rfl, hv⟩ := hv
    obtain ⟨h1, eh⟩ : ∃ z, z = h9 := ⟨_, rfl⟩
    subst eh
    obtain ⟨hskh1, hv⟩ := hv
    show mT g me_fm_tankOf (d + 3) 0 0 16 [some (vr 10 0), some (vi x1), some (vi x2)] [vi y2] h1 _
    refine tr_ireturn (pc := 16) k_fm_tankOf_16 rfl rfl ?_
    exact hv
  · replace hv := hv.2 q
    refine tr_iload_n (pc := 4) 0 k_fm_isIn_4 rfl rfl ?_
    refine tr_iload_n (pc := 5) 1 k_fm_isIn_5 rfl rfl ?_
    refine tr_icmp_ge (pc := 6) 13 k_fm_isIn_6 (by decide) (fun q => ?_) (fun q => ?_)
    · replace hv := hv.1 q
      refine tr_iconst (pc := 13) (v := 0) k_fm_isIn_13 (by decide) ?_
      refine tr_ireturn (pc := 14) k_fm_isIn_14 rfl rfl ?_
      show mT g me_fm_tankOf (d + 3) 0 0 8 [some (vr 10 0), some (vi x1), some (vi x2)] [vi (0 : Int32)] h _
      refine tr_if_ne (pc := 8) 17 k_fm_tankOf_8 (by decide) (fun q => absurd q (by decide)) (fun _ => ?_)
      refine tr_aload_n (pc := 11) 0 k_fm_tankOf_11 rfl rfl ?_
      refine tr_iconst (pc := 12) (v := -1) k_fm_tankOf_12 (by decide) ?_
      have hT := hv
      clear hv
      refine tr_callV (pc := 13) (d' := d + 2) (mc' := 0) (ms' := 0) [vi (-1 : Int32)] k_fm_tankOf_13 ca_fm_refuse ml_fm_133 ii_fm_refuse ⟨by decide, rfl⟩ pa_fm_refuse (by omega) (by omega) (by omega) rfl (Nat.le_of_ble_eq_true rfl) (Nat.le_of_ble_eq_true rfl) hT (fun v h9 hv => ?_)
      clear hT
      obtain ⟨y4, rfl, hv⟩ := hv
      obtain ⟨h3, eh⟩ : ∃ z, z = h9 := ⟨_, rfl⟩
      subst eh
      obtain ⟨hskh3, hv⟩ := hv
      show mT g me_fm_tankOf (d + 3) 0 0 16 [some (vr 10 0), some (vi x1), some (vi x2)] [vi y4] h3 _
      refine tr_ireturn (pc := 16) k_fm_tankOf_16 rfl rfl ?_
      exact hv
    · replace hv := hv.2 q
      refine tr_iconst (pc := 9) (v := 1) k_fm_isIn_9 (by decide) ?_
      refine tr_goto (pc := 10) 14 k_fm_isIn_10 (by decide) ?_
      refine tr_ireturn (pc := 14) k_fm_isIn_14 rfl rfl ?_
      show mT g me_fm_tankOf (d + 3) 0 0 8 [some (vr 10 0), some (vi x1), some (vi x2)] [vi (1 : Int32)] h _
      refine tr_if_ne (pc := 8) 17 k_fm_tankOf_8 (by decide) (fun _ => ?_) (fun q => absurd q (by decide))
      refine tr_iload_n (pc := 17) 2 k_fm_tankOf_17 rfl rfl ?_
      refine tr_table (pc := 18) [56, 77, 84, 91, 98, 105] 116 k_fm_tankOf_18 (by decide) (by decide) (by decide) (fun i t hi hx => ?_) (fun hx => ?_)
      · rcases i with _ | _ | _ | _ | _ | _ | i
        · cases hi
          replace hv := hv.1 (mtoI (hx.trans (by decide)))
          refine tr_aload_n (pc := 56) 0 k_fm_tankOf_56 rfl rfl ?_
          refine tr_getP (pc := 57) k_fm_tankOf_57 fl_fm_17 rfl (Eq.trans rfl (hsk.1 10 8 _ rfl)) ?_
          refine tr_iload_n (pc := 60) 1 k_fm_tankOf_60 rfl rfl ?_
          refine tr_ialdx (pc := 61) k_fm_tankOf_61 (mvin (hsk.2.1 11 7 _ rfl) hv.1) rfl ?_
          replace hv := hv.2
          refine tr_aload_n (pc := 62) 0 k_fm_tankOf_62 rfl rfl ?_
          refine tr_getP (pc := 63) k_fm_tankOf_63 fl_fm_29 rfl (Eq.trans rfl (hsk.1 10 12 _ rfl)) ?_
          refine tr_iload_n (pc := 66) 1 k_fm_tankOf_66 rfl rfl ?_
          refine tr_ialdx (pc := 67) k_fm_tankOf_67 (mvin (hsk.2.1 11 11 _ rfl) hv.1) rfl ?_
          replace hv := hv.2
          refine tr_aload_n (pc := 68) 0 k_fm_tankOf_68 rfl rfl ?_
          refine tr_getP (pc := 69) k_fm_tankOf_69 fl_fm_20 rfl (Eq.trans rfl (hsk.1 10 9 _ rfl)) ?_
          refine tr_iload_n (pc := 72) 1 k_fm_tankOf_72 rfl rfl ?_
          refine tr_ialdx (pc := 73) k_fm_tankOf_73 (mvin (hsk.2.1 11 8 _ rfl) hv.1) rfl ?_
          replace hv := hv.2
          refine tr_idiv (pc := 74) k_fm_tankOf_74 hv.1 ?_
          replace hv := hv.2
          refine tr_iadd (pc := 75) k_fm_tankOf_75 ?_
          refine tr_ireturn (pc := 76) k_fm_tankOf_76 rfl rfl ?_
          exact hv
        · cases hi
          replace hv := hv.2.1 (mtoI (hx.trans (by decide)))
          refine tr_aload_n (pc := 77) 0 k_fm_tankOf_77 rfl rfl ?_
          refine tr_getP (pc := 78) k_fm_tankOf_78 fl_fm_29 rfl (Eq.trans rfl (hsk.1 10 12 _ rfl)) ?_
          refine tr_iload_n (pc := 81) 1 k_fm_tankOf_81 rfl rfl ?_
          refine tr_ialdx (pc := 82) k_fm_tankOf_82 (mvin (hsk.2.1 11 11 _ rfl) hv.1) rfl ?_
          replace hv := hv.2
          refine tr_ireturn (pc := 83) k_fm_tankOf_83 rfl rfl ?_
          exact hv
        · cases hi
          replace hv := hv.2.2.1 (mtoI (hx.trans (by decide)))
          refine tr_aload_n (pc := 84) 0 k_fm_tankOf_84 rfl rfl ?_
          refine tr_getP (pc := 85) k_fm_tankOf_85 fl_fm_26 rfl (Eq.trans rfl (hsk.1 10 11 _ rfl)) ?_
          refine tr_iload_n (pc := 88) 1 k_fm_tankOf_88 rfl rfl ?_
          refine tr_ialdx (pc := 89) k_fm_tankOf_89 (mvin (hsk.2.1 11 10 _ rfl) hv.1) rfl ?_
          replace hv := hv.2
          refine tr_ireturn (pc := 90) k_fm_tankOf_90 rfl rfl ?_
          exact hv
        · cases hi
          replace hv := hv.2.2.2.1 (mtoI (hx.trans (by decide)))
          refine tr_aload_n (pc := 91) 0 k_fm_tankOf_91 rfl rfl ?_
          refine tr_getP (pc := 92) k_fm_tankOf_92 fl_fm_32 rfl (Eq.trans rfl (hsk.1 10 13 _ rfl)) ?_
          refine tr_iload_n (pc := 95) 1 k_fm_tankOf_95 rfl rfl ?_
          refine tr_ialdx (pc := 96) k_fm_tankOf_96 (mvin (hsk.2.1 11 12 _ rfl) hv.1) rfl ?_
          replace hv := hv.2
          refine tr_ireturn (pc := 97) k_fm_tankOf_97 rfl rfl ?_
          exact hv
        · cases hi
          replace hv := hv.2.2.2.2.1 (mtoI (hx.trans (by decide)))
          refine tr_aload_n (pc := 98) 0 k_fm_tankOf_98 rfl rfl ?_
          refine tr_getP (pc := 99) k_fm_tankOf_99 fl_fm_35 rfl (Eq.trans rfl (hsk.1 10 14 _ rfl)) ?_
          refine tr_iload_n (pc := 102) 1 k_fm_tankOf_102 rfl rfl ?_
          refine tr_ialdx (pc := 103) k_fm_tankOf_103 (mvin (hsk.2.1 11 13 _ rfl) hv.1) rfl ?_
          replace hv := hv.2
          refine tr_ireturn (pc := 104) k_fm_tankOf_104 rfl rfl ?_
          exact hv
        · cases hi
          replace hv := hv.2.2.2.2.2.1 (mtoI (hx.trans (by decide)))
          refine tr_aload_n (pc := 105) 0 k_fm_tankOf_105 rfl rfl ?_
          have hT := hv
          clear hv
          refine tr_callV (pc := 106) (d' := d + 2) (mc' := 0) (ms' := 0) [] k_fm_tankOf_106 ca_fm_sees ml_fm_179 ii_fm_sees ⟨by decide, rfl⟩ pa_fm_sees (by omega) (by omega) (by omega) rfl (Nat.le_of_ble_eq_true rfl) (Nat.le_of_ble_eq_true rfl) hT (fun v h9 hv => ?_)
          clear hT
          obtain ⟨rfl, hv⟩ := hv
          obtain ⟨h5, eh⟩ : ∃ z, z = h9 := ⟨_, rfl⟩
          subst eh
          obtain ⟨hskh5, hv⟩ := hv
          show mT g me_fm_tankOf (d + 3) 0 0 109 [some (vr 10 0), some (vi x1), some (vi x2)] [] h5 _
          refine tr_aload_n (pc := 109) 0 k_fm_tankOf_109 rfl rfl ?_
          refine tr_getP (pc := 110) k_fm_tankOf_110 fl_fm_105 rfl (Eq.trans rfl (hskh5.1 10 37 _ rfl)) ?_
          refine tr_iload_n (pc := 113) 1 k_fm_tankOf_113 rfl rfl ?_
          refine tr_ialdx (pc := 114) k_fm_tankOf_114 (mvin (hskh5.2.1 11 34 _ rfl) hv.1) rfl ?_
          replace hv := hv.2
          refine tr_ireturn (pc := 115) k_fm_tankOf_115 rfl rfl ?_
          exact hv
        · exact absurd hi (by simp)
      · replace hv := hv.2.2.2.2.2.2 (fun e => hx 0 (by decide) (by rw [e]; decide)) (fun e => hx 1 (by decide) (by rw [e]; decide)) (fun e => hx 2 (by decide) (by rw [e]; decide)) (fun e => hx 3 (by decide) (by rw [e]; decide)) (fun e => hx 4 (by decide) (by rw [e]; decide)) (fun e => hx 5 (by decide) (by rw [e]; decide))
        refine tr_aload_n (pc := 116) 0 k_fm_tankOf_116 rfl rfl ?_
        refine tr_bipush (pc := 117) (v := -2) k_fm_tankOf_117 (by decide) ?_
        have hT := hv
        clear hv
        refine tr_callV (pc := 119) (d' := d + 2) (mc' := 0) (ms' := 0) [vi (-2 : Int32)] k_fm_tankOf_119 ca_fm_refuse ml_fm_133 ii_fm_refuse ⟨by decide, rfl⟩ pa_fm_refuse (by omega) (by omega) (by omega) rfl (Nat.le_of_ble_eq_true rfl) (Nat.le_of_ble_eq_true rfl) hT (fun v h9 hv => ?_)
        clear hT
        obtain ⟨y7, rfl, hv⟩ := hv
        obtain ⟨h6, eh⟩ : ∃ z, z = h9 := ⟨_, rfl⟩
        subst eh
        obtain ⟨hskh6, hv⟩ := hv
        show mT g me_fm_tankOf (d + 3) 0 0 122 [some (vr 10 0), some (vi x1), some (vi x2)] [vi y7] h6 _
        refine tr_ireturn (pc := 122) k_fm_tankOf_122 rfl rfl ?_
        exact hv
theorem v_fm_jointOf_0 {g : mG} {d : Nat} (x1 : Int32) (x2 : Int32) {h : mH} {Q : Option mV → mH → Prop} (hsk : mSK h) (hv : ((x1 < 0 → mT g me_fm_refuse (d + 2) 0 0 0 [some (vr 10 0), some (vi (-1 : Int32))] [] h (fun v h1 => ∃ y2, v = some (vi y2) ∧ mSK h1 ∧ Q (some (vi y2)) h1)) ∧ (¬ x1 < 0 → (((hI h 10 0 3) ≤ x1 → mT g me_fm_refuse (d + 2) 0 0 0 [some (vr 10 0), some (vi (-1 : Int32))] [] h (fun v h3 => ∃ y4, v = some (vi y4) ∧ mSK h3 ∧ Q (some (vi y4)) h3)) ∧ (¬ (hI h 10 0 3) ≤ x1 → ((x2 = 0 → (vp_in x1 30 ∧ Q (some (vi (hI h 11 16 x1.toNatClampNeg))) h)) ∧ (x2 = 1 → (vp_in x1 30 ∧ Q (some (vi (hI h 11 17 x1.toNatClampNeg))) h)) ∧ (x2 = 2 → (vp_in x1 30 ∧ Q (some (vi (hI h 11 18 x1.toNatClampNeg))) h)) ∧ (x2 = 3 → (vp_in x1 30 ∧ Q (some (vi (hI h 11 15 x1.toNatClampNeg))) h)) ∧ (x2 = 4 → (vp_in x1 30 ∧ Q (some (vi (hI h 11 14 x1.toNatClampNeg))) h)) ∧ (x2 = 5 → (vp_in x1 30 ∧ Q (some (vi (hI h 11 20 x1.toNatClampNeg))) h)) ∧ (x2 = 6 → (vp_in x1 30 ∧ (((hI h 12 0 x1.toNatClampNeg) = 0 → Q (some (vi (0 : Int32))) h) ∧ (¬ (hI h 12 0 x1.toNatClampNeg) = 0 → Q (some (vi (1 : Int32))) h)))) ∧ (x2 = 7 → (vp_in x1 30 ∧ Q (some (vi (hI h 11 19 x1.toNatClampNeg))) h)) ∧ (x2 = 8 → mT g me_fm_sees (d + 2) 0 0 0 [some (vr 10 0)] [] h (fun v h5 => v = none ∧ mSK h5 ∧ (vp_in x1 30 ∧ Q (some (vi (hI h5 11 30 x1.toNatClampNeg))) h5))) ∧ (¬ x2 = 0 → ¬ x2 = 1 → ¬ x2 = 2 → ¬ x2 = 3 → ¬ x2 = 4 → ¬ x2 = 5 → ¬ x2 = 6 → ¬ x2 = 7 → ¬ x2 = 8 → mT g me_fm_refuse (d + 2) 0 0 0 [some (vr 10 0), some (vi (-2 : Int32))] [] h (fun v h6 => ∃ y7, v = some (vi y7) ∧ mSK h6 ∧ Q (some (vi y7)) h6)))))))) : mT g me_fm_jointOf (d + 3) 0 0 0 [some (vr 10 0), some (vi x1), some (vi x2)] [] h Q := by
  refine tr_aload_n (pc := 0) 0 k_fm_jointOf_0 rfl rfl ?_
  refine tr_iload_n (pc := 1) 1 k_fm_jointOf_1 rfl rfl ?_
  refine tr_callV (pc := 2) (d' := d + 2) (mc' := 0) (ms' := 0) [vi x1] k_fm_jointOf_2 ca_fm_isJoint ml_fm_161 ii_fm_isJoint ⟨by decide, rfl⟩ pa_fm_isJoint (by omega) (by omega) (by omega) rfl (Nat.le_of_ble_eq_true rfl) (Nat.le_of_ble_eq_true rfl) (Qk := fun v h9 => mT g me_fm_jointOf (d + 3) 0 0 5 [some (vr 10 0), some (vi x1), some (vi x2)] (v.toList ++ []) h9 _) ?_ (fun _ _ z => z)
  show mT g me_fm_isJoint (d + 2) 0 0 0 [some (vr 10 0), some (vi x1)] [] h _
  refine tr_iload_n (pc := 0) 1 k_fm_isJoint_0 rfl rfl ?_
  refine tr_aload_n (pc := 1) 0 k_fm_isJoint_1 rfl rfl ?_
  refine tr_getIx (pc := 2) k_fm_isJoint_2 fl_fm_155 rfl rfl ?_
  refine tr_callS (pc := 5) (d' := d + 1) (mc' := 0) (ms' := 0) [vi x1, vi (hI h 10 0 3)] k_fm_isJoint_5 ca_fm_isIn ml_fm_144 is_fm_isIn pa_fm_isIn (by omega) (by omega) (by omega) rfl (Nat.le_of_ble_eq_true rfl) (Nat.le_of_ble_eq_true rfl) (Qk := fun v h9 => mT g me_fm_isJoint (d + 2) 0 0 8 [some (vr 10 0), some (vi x1)] (v.toList ++ []) h9 _) ?_ (fun _ _ z => z)
  show mT g me_fm_isIn (d + 1) 0 0 0 [some (vi x1), some (vi (hI h 10 0 3))] [] h _
  refine tr_iload_n (pc := 0) 0 k_fm_isIn_0 rfl rfl ?_
  refine tr_if_lt (pc := 1) 13 k_fm_isIn_1 (by decide) (fun q => ?_) (fun q => ?_)
  · replace hv := hv.1 q
    refine tr_iconst (pc := 13) (v := 0) k_fm_isIn_13 (by decide) ?_
    refine tr_ireturn (pc := 14) k_fm_isIn_14 rfl rfl ?_
    show mT g me_fm_isJoint (d + 2) 0 0 8 [some (vr 10 0), some (vi x1)] [vi (0 : Int32)] h _
    refine tr_ireturn (pc := 8) k_fm_isJoint_8 rfl rfl ?_
    show mT g me_fm_jointOf (d + 3) 0 0 5 [some (vr 10 0), some (vi x1), some (vi x2)] [vi (0 : Int32)] h _
    refine tr_if_ne (pc := 5) 14 k_fm_jointOf_5 (by decide) (fun q => absurd q (by decide)) (fun _ => ?_)
    refine tr_aload_n (pc := 8) 0 k_fm_jointOf_8 rfl rfl ?_
    refine tr_iconst (pc := 9) (v := -1) k_fm_jointOf_9 (by decide) ?_
    have hT := hv
    clear hv
    refine tr_callV (pc := 10) (d' := d + 2) (mc' := 0) (ms' := 0) [vi (-1 : Int32)] k_fm_jointOf_10 ca_fm_refuse ml_fm_133 ii_fm_refuse ⟨by decide, rfl⟩ pa_fm_refuse (by omega) (by omega) (by omega) rfl (Nat.le_of_ble_eq_true rfl) (Nat.le_of_ble_eq_true rfl) hT (fun v h9 hv => ?_)
    clear hT
    obtain ⟨y2, rfl, hv⟩ := hv
    obtain ⟨h1, eh⟩ : ∃ z, z = h9 := ⟨_, rfl⟩
    subst eh
    obtain ⟨hskh1, hv⟩ := hv
    show mT g me_fm_jointOf (d + 3) 0 0 13 [some (vr 10 0), some (vi x1), some (vi x2)] [vi y2] h1 _
    refine tr_ireturn (pc := 13) k_fm_jointOf_13 rfl rfl ?_
    exact hv
  · replace hv := hv.2 q
    refine tr_iload_n (pc := 4) 0 k_fm_isIn_4 rfl rfl ?_
    refine tr_iload_n (pc := 5) 1 k_fm_isIn_5 rfl rfl ?_
    refine tr_icmp_ge (pc := 6) 13 k_fm_isIn_6 (by decide) (fun q => ?_) (fun q => ?_)
    · replace hv := hv.1 q
      refine tr_iconst (pc := 13) (v := 0) k_fm_isIn_13 (by decide) ?_
      refine tr_ireturn (pc := 14) k_fm_isIn_14 rfl rfl ?_
      show mT g me_fm_isJoint (d + 2) 0 0 8 [some (vr 10 0), some (vi x1)] [vi (0 : Int32)] h _
      refine tr_ireturn (pc := 8) k_fm_isJoint_8 rfl rfl ?_
      show mT g me_fm_jointOf (d + 3) 0 0 5 [some (vr 10 0), some (vi x1), some (vi x2)] [vi (0 : Int32)] h _
      refine tr_if_ne (pc := 5) 14 k_fm_jointOf_5 (by decide) (fun q => absurd q (by decide)) (fun _ => ?_)
      refine tr_aload_n (pc := 8) 0 k_fm_jointOf_8 rfl rfl ?_
      refine tr_iconst (pc := 9) (v := -1) k_fm_jointOf_9 (by decide) ?_
      have hT := hv
      clear hv
      refine tr_callV (pc := 10) (d' := d + 2) (mc' := 0) (ms' := 0) [vi (-1 : Int32)] k_fm_jointOf_10 ca_fm_refuse ml_fm_133 ii_fm_refuse ⟨by decide, rfl⟩ pa_fm_refuse (by omega) (by omega) (by omega) rfl (Nat.le_of_ble_eq_true rfl) (Nat.le_of_ble_eq_true rfl) hT (fun v h9 hv => ?_)
      clear hT
      obtain ⟨y4, rfl, hv⟩ := hv
      obtain ⟨h3, eh⟩ : ∃ z, z = h9 := ⟨_, rfl⟩
      subst eh
      obtain ⟨hskh3, hv⟩ := hv
      show mT g me_fm_jointOf (d + 3) 0 0 13 [some (vr 10 0), some (vi x1), some (vi x2)] [vi y4] h3 _
      refine tr_ireturn (pc := 13) k_fm_jointOf_13 rfl rfl ?_
      exact hv
    · replace hv := hv.2 q
      refine tr_iconst (pc := 9) (v := 1) k_fm_isIn_9 (by decide) ?_
      refine tr_goto (pc := 10) 14 k_fm_isIn_10 (by decide) ?_
      refine tr_ireturn (pc := 14) k_fm_isIn_14 rfl rfl ?_
      show mT g me_fm_isJoint (d + 2) 0 0 8 [some (vr 10 0), some (vi x1)] [vi (1 : Int32)] h _
      refine tr_ireturn (pc := 8) k_fm_isJoint_8 rfl rfl ?_
      show mT g me_fm_jointOf (d + 3) 0 0 5 [some (vr 10 0), some (vi x1), some (vi x2)] [vi (1 : Int32)] h _
      refine tr_if_ne (pc := 5) 14 k_fm_jointOf_5 (by decide) (fun _ => ?_) (fun q => absurd q (by decide))
      refine tr_iload_n (pc := 14) 2 k_fm_jointOf_14 rfl rfl ?_
      refine tr_table (pc := 15) [64, 71, 78, 85, 92, 99, 106, 121, 128] 139 k_fm_jointOf_15 (by decide) (by decide) (by decide) (fun i t hi hx => ?_) (fun hx => ?_)
      · rcases i with _ | _ | _ | _ | _ | _ | _ | _ | _ | i
        · cases hi
          replace hv := hv.1 (mtoI (hx.trans (by decide)))
          refine tr_aload_n (pc := 64) 0 k_fm_jointOf_64 rfl rfl ?_
          refine tr_getP (pc := 65) k_fm_jointOf_65 fl_fm_44 rfl (Eq.trans rfl (hsk.1 10 17 _ rfl)) ?_
          refine tr_iload_n (pc := 68) 1 k_fm_jointOf_68 rfl rfl ?_
          refine tr_ialdx (pc := 69) k_fm_jointOf_69 (mvin (hsk.2.1 11 16 _ rfl) hv.1) rfl ?_
          replace hv := hv.2
          refine tr_ireturn (pc := 70) k_fm_jointOf_70 rfl rfl ?_
          exact hv
        · cases hi
          replace hv := hv.2.1 (mtoI (hx.trans (by decide)))
          refine tr_aload_n (pc := 71) 0 k_fm_jointOf_71 rfl rfl ?_
          refine tr_getP (pc := 72) k_fm_jointOf_72 fl_fm_47 rfl (Eq.trans rfl (hsk.1 10 18 _ rfl)) ?_
          refine tr_iload_n (pc := 75) 1 k_fm_jointOf_75 rfl rfl ?_
          refine tr_ialdx (pc := 76) k_fm_jointOf_76 (mvin (hsk.2.1 11 17 _ rfl) hv.1) rfl ?_
          replace hv := hv.2
          refine tr_ireturn (pc := 77) k_fm_jointOf_77 rfl rfl ?_
          exact hv
        · cases hi
          replace hv := hv.2.2.1 (mtoI (hx.trans (by decide)))
          refine tr_aload_n (pc := 78) 0 k_fm_jointOf_78 rfl rfl ?_
          refine tr_getP (pc := 79) k_fm_jointOf_79 fl_fm_50 rfl (Eq.trans rfl (hsk.1 10 19 _ rfl)) ?_
          refine tr_iload_n (pc := 82) 1 k_fm_jointOf_82 rfl rfl ?_
          refine tr_ialdx (pc := 83) k_fm_jointOf_83 (mvin (hsk.2.1 11 18 _ rfl) hv.1) rfl ?_
          replace hv := hv.2
          refine tr_ireturn (pc := 84) k_fm_jointOf_84 rfl rfl ?_
          exact hv
        · cases hi
          replace hv := hv.2.2.2.1 (mtoI (hx.trans (by decide)))
          refine tr_aload_n (pc := 85) 0 k_fm_jointOf_85 rfl rfl ?_
          refine tr_getP (pc := 86) k_fm_jointOf_86 fl_fm_41 rfl (Eq.trans rfl (hsk.1 10 16 _ rfl)) ?_
          refine tr_iload_n (pc := 89) 1 k_fm_jointOf_89 rfl rfl ?_
          refine tr_ialdx (pc := 90) k_fm_jointOf_90 (mvin (hsk.2.1 11 15 _ rfl) hv.1) rfl ?_
          replace hv := hv.2
          refine tr_ireturn (pc := 91) k_fm_jointOf_91 rfl rfl ?_
          exact hv
        · cases hi
          replace hv := hv.2.2.2.2.1 (mtoI (hx.trans (by decide)))
          refine tr_aload_n (pc := 92) 0 k_fm_jointOf_92 rfl rfl ?_
          refine tr_getP (pc := 93) k_fm_jointOf_93 fl_fm_38 rfl (Eq.trans rfl (hsk.1 10 15 _ rfl)) ?_
          refine tr_iload_n (pc := 96) 1 k_fm_jointOf_96 rfl rfl ?_
          refine tr_ialdx (pc := 97) k_fm_jointOf_97 (mvin (hsk.2.1 11 14 _ rfl) hv.1) rfl ?_
          replace hv := hv.2
          refine tr_ireturn (pc := 98) k_fm_jointOf_98 rfl rfl ?_
          exact hv
        · cases hi
          replace hv := hv.2.2.2.2.2.1 (mtoI (hx.trans (by decide)))
          refine tr_aload_n (pc := 99) 0 k_fm_jointOf_99 rfl rfl ?_
          refine tr_getP (pc := 100) k_fm_jointOf_100 fl_fm_56 rfl (Eq.trans rfl (hsk.1 10 21 _ rfl)) ?_
          refine tr_iload_n (pc := 103) 1 k_fm_jointOf_103 rfl rfl ?_
          refine tr_ialdx (pc := 104) k_fm_jointOf_104 (mvin (hsk.2.1 11 20 _ rfl) hv.1) rfl ?_
          replace hv := hv.2
          refine tr_ireturn (pc := 105) k_fm_jointOf_105 rfl rfl ?_
          exact hv
        · cases hi
          replace hv := hv.2.2.2.2.2.2.1 (mtoI (hx.trans (by decide)))
          refine tr_aload_n (pc := 106) 0 k_fm_jointOf_106 rfl rfl ?_
          refine tr_getP (pc := 107) k_fm_jointOf_107 fl_fm_59 rfl (Eq.trans rfl (hsk.1 10 22 _ rfl)) ?_
          refine tr_iload_n (pc := 110) 1 k_fm_jointOf_110 rfl rfl ?_
          refine tr_zaldx (pc := 111) k_fm_jointOf_111 (mvin (hsk.2.1 12 0 _ rfl) hv.1) rfl ?_
          replace hv := hv.2
          refine tr_if_eq (pc := 112) 119 k_fm_jointOf_112 (by decide) (fun q => ?_) (fun q => ?_)
          · replace hv := hv.1 q
            refine tr_iconst (pc := 119) (v := 0) k_fm_jointOf_119 (by decide) ?_
            refine tr_ireturn (pc := 120) k_fm_jointOf_120 rfl rfl ?_
            exact hv
          · replace hv := hv.2 q
            refine tr_iconst (pc := 115) (v := 1) k_fm_jointOf_115 (by decide) ?_
            refine tr_goto (pc := 116) 120 k_fm_jointOf_116 (by decide) ?_
            refine tr_ireturn (pc := 120) k_fm_jointOf_120 rfl rfl ?_
            exact hv
        · cases hi
          replace hv := hv.2.2.2.2.2.2.2.1 (mtoI (hx.trans (by decide)))
          refine tr_aload_n (pc := 121) 0 k_fm_jointOf_121 rfl rfl ?_
          refine tr_getP (pc := 122) k_fm_jointOf_122 fl_fm_53 rfl (Eq.trans rfl (hsk.1 10 20 _ rfl)) ?_
          refine tr_iload_n (pc := 125) 1 k_fm_jointOf_125 rfl rfl ?_
          refine tr_ialdx (pc := 126) k_fm_jointOf_126 (mvin (hsk.2.1 11 19 _ rfl) hv.1) rfl ?_
          replace hv := hv.2
          refine tr_ireturn (pc := 127) k_fm_jointOf_127 rfl rfl ?_
          exact hv
        · cases hi
          replace hv := hv.2.2.2.2.2.2.2.2.1 (mtoI (hx.trans (by decide)))
          refine tr_aload_n (pc := 128) 0 k_fm_jointOf_128 rfl rfl ?_
          have hT := hv
          clear hv
          refine tr_callV (pc := 129) (d' := d + 2) (mc' := 0) (ms' := 0) [] k_fm_jointOf_129 ca_fm_sees ml_fm_179 ii_fm_sees ⟨by decide, rfl⟩ pa_fm_sees (by omega) (by omega) (by omega) rfl (Nat.le_of_ble_eq_true rfl) (Nat.le_of_ble_eq_true rfl) hT (fun v h9 hv => ?_)
          clear hT
          obtain ⟨rfl, hv⟩ := hv
          obtain ⟨h5, eh⟩ : ∃ z, z = h9 := ⟨_, rfl⟩
          subst eh
          obtain ⟨hskh5, hv⟩ := hv
          show mT g me_fm_jointOf (d + 3) 0 0 132 [some (vr 10 0), some (vi x1), some (vi x2)] [] h5 _
          refine tr_aload_n (pc := 132) 0 k_fm_jointOf_132 rfl rfl ?_
          refine tr_getP (pc := 133) k_fm_jointOf_133 fl_fm_93 rfl (Eq.trans rfl (hskh5.1 10 33 _ rfl)) ?_
          refine tr_iload_n (pc := 136) 1 k_fm_jointOf_136 rfl rfl ?_
          refine tr_ialdx (pc := 137) k_fm_jointOf_137 (mvin (hskh5.2.1 11 30 _ rfl) hv.1) rfl ?_
          replace hv := hv.2
          refine tr_ireturn (pc := 138) k_fm_jointOf_138 rfl rfl ?_
          exact hv
        · exact absurd hi (by simp)
      · replace hv := hv.2.2.2.2.2.2.2.2.2 (fun e => hx 0 (by decide) (by rw [e]; decide)) (fun e => hx 1 (by decide) (by rw [e]; decide)) (fun e => hx 2 (by decide) (by rw [e]; decide)) (fun e => hx 3 (by decide) (by rw [e]; decide)) (fun e => hx 4 (by decide) (by rw [e]; decide)) (fun e => hx 5 (by decide) (by rw [e]; decide)) (fun e => hx 6 (by decide) (by rw [e]; decide)) (fun e => hx 7 (by decide) (by rw [e]; decide)) (fun e => hx 8 (by decide) (by rw [e]; decide))
        refine tr_aload_n (pc := 139) 0 k_fm_jointOf_139 rfl rfl ?_
        refine tr_bipush (pc := 140) (v := -2) k_fm_jointOf_140 (by decide) ?_
        have hT := hv
        clear hv
        refine tr_callV (pc := 142) (d' := d + 2) (mc' := 0) (ms' := 0) [vi (-2 : Int32)] k_fm_jointOf_142 ca_fm_refuse ml_fm_133 ii_fm_refuse ⟨by decide, rfl⟩ pa_fm_refuse (by omega) (by omega) (by omega) rfl (Nat.le_of_ble_eq_true rfl) (Nat.le_of_ble_eq_true rfl) hT (fun v h9 hv => ?_)
        clear hT
        obtain ⟨y7, rfl, hv⟩ := hv
        obtain ⟨h6, eh⟩ : ∃ z, z = h9 := ⟨_, rfl⟩
        subst eh
        obtain ⟨hskh6, hv⟩ := hv
        show mT g me_fm_jointOf (d + 3) 0 0 145 [some (vr 10 0), some (vi x1), some (vi x2)] [vi y7] h6 _
        refine tr_ireturn (pc := 145) k_fm_jointOf_145 rfl rfl ?_
        exact hv
theorem v_fm_count_0 {g : mG} {d : Nat} (x1 : Int32) {h : mH} {Q : Option mV → mH → Prop} (hsk : mSK h) (hv : ((x1 ≤ (10 : Int32) → ((x1 = 0 → Q (some (vi (hI h 10 0 1))) h) ∧ (x1 = 1 → Q (some (vi (hI h 10 0 2))) h) ∧ (x1 = 2 → Q (some (vi (hI h 10 0 3))) h) ∧ (x1 = 3 → Q (some (vi (hI h 10 0 4))) h) ∧ (x1 = 4 → mT g me_fm_count (d + 1) 0 0 90 [some (vr 10 0), some (vi x1), some (vi (0 : Int32)), some (vi (0 : Int32))] [] h Q) ∧ (x1 = 5 → Q (some (vi (hI h 10 0 5))) h) ∧ (x1 = 6 → mT g me_fm_count (d + 1) 0 0 130 [some (vr 10 0), some (vi x1), some (vi (0 : Int32)), some (vi (0 : Int32))] [] h Q) ∧ (¬ x1 = 0 → ¬ x1 = 1 → ¬ x1 = 2 → ¬ x1 = 3 → ¬ x1 = 4 → ¬ x1 = 5 → ¬ x1 = 6 → Q (some (vi (-9 : Int32))) h))) ∧ (¬ x1 ≤ (10 : Int32) → (((17 : Int32) ≤ x1 → ((x1 = 0 → Q (some (vi (hI h 10 0 1))) h) ∧ (x1 = 1 → Q (some (vi (hI h 10 0 2))) h) ∧ (x1 = 2 → Q (some (vi (hI h 10 0 3))) h) ∧ (x1 = 3 → Q (some (vi (hI h 10 0 4))) h) ∧ (x1 = 4 → mT g me_fm_count (d + 1) 0 0 90 [some (vr 10 0), some (vi x1), some (vi (0 : Int32)), some (vi (0 : Int32))] [] h Q) ∧ (x1 = 5 → Q (some (vi (hI h 10 0 5))) h) ∧ (x1 = 6 → mT g me_fm_count (d + 1) 0 0 130 [some (vr 10 0), some (vi x1), some (vi (0 : Int32)), some (vi (0 : Int32))] [] h Q) ∧ (¬ x1 = 0 → ¬ x1 = 1 → ¬ x1 = 2 → ¬ x1 = 3 → ¬ x1 = 4 → ¬ x1 = 5 → ¬ x1 = 6 → Q (some (vi (-9 : Int32))) h))) ∧ (¬ (17 : Int32) ≤ x1 → (vp_in (x1 - (10 : Int32)) 7 ∧ Q (some (vi (hI h 11 6 ((x1 - (10 : Int32)).toNatClampNeg)))) h)))))) : mT g me_fm_count (d + 1) 0 0 0 [some (vr 10 0), some (vi x1), none, none] [] h Q := by
  refine tr_iload_n (pc := 0) 1 k_fm_count_0 rfl rfl ?_
  refine tr_bipush (pc := 1) (v := 10) k_fm_count_1 (by decide) ?_
  refine tr_icmp_le (pc := 3) 22 k_fm_count_3 (by decide) (fun q => ?_) (fun q => ?_)
  · replace hv := hv.1 q
    refine tr_iconst (pc := 22) (v := 0) k_fm_count_22 (by decide) ?_
    refine tr_istore_n (pc := 23) 2 k_fm_count_23 rfl (by decide) rfl ?_
    show mT g me_fm_count (d + 1) 0 0 24 [some (vr 10 0), some (vi x1), some (vi (0 : Int32)), none] [] h _
    refine tr_iload_n (pc := 24) 1 k_fm_count_24 rfl rfl ?_
    refine tr_table (pc := 25) [68, 73, 78, 83, 88, 123, 128] 163 k_fm_count_25 (by decide) (by decide) (by decide) (fun i t hi hx => ?_) (fun hx => ?_)
    · rcases i with _ | _ | _ | _ | _ | _ | _ | i
      · cases hi
        replace hv := hv.1 (mtoI (hx.trans (by decide)))
        refine tr_aload_n (pc := 68) 0 k_fm_count_68 rfl rfl ?_
        refine tr_getIx (pc := 69) k_fm_count_69 fl_fm_206 rfl rfl ?_
        refine tr_ireturn (pc := 72) k_fm_count_72 rfl rfl ?_
        exact hv
      · cases hi
        replace hv := hv.2.1 (mtoI (hx.trans (by decide)))
        refine tr_aload_n (pc := 73) 0 k_fm_count_73 rfl rfl ?_
        refine tr_getIx (pc := 74) k_fm_count_74 fl_fm_141 rfl rfl ?_
        refine tr_ireturn (pc := 77) k_fm_count_77 rfl rfl ?_
        exact hv
      · cases hi
        replace hv := hv.2.2.1 (mtoI (hx.trans (by decide)))
        refine tr_aload_n (pc := 78) 0 k_fm_count_78 rfl rfl ?_
        refine tr_getIx (pc := 79) k_fm_count_79 fl_fm_155 rfl rfl ?_
        refine tr_ireturn (pc := 82) k_fm_count_82 rfl rfl ?_
        exact hv
      · cases hi
        replace hv := hv.2.2.2.1 (mtoI (hx.trans (by decide)))
        refine tr_aload_n (pc := 83) 0 k_fm_count_83 rfl rfl ?_
        refine tr_getIx (pc := 84) k_fm_count_84 fl_fm_158 rfl rfl ?_
        refine tr_ireturn (pc := 87) k_fm_count_87 rfl rfl ?_
        exact hv
      · cases hi
        replace hv := hv.2.2.2.2.1 (mtoI (hx.trans (by decide)))
        refine tr_iconst (pc := 88) (v := 0) k_fm_count_88 (by decide) ?_
        refine tr_istore_n (pc := 89) 3 k_fm_count_89 rfl (by decide) rfl ?_
        show mT g me_fm_count (d + 1) 0 0 90 [some (vr 10 0), some (vi x1), some (vi (0 : Int32)), some (vi (0 : Int32))] [] h _
        exact hv
      · cases hi
        replace hv := hv.2.2.2.2.2.1 (mtoI (hx.trans (by decide)))
        refine tr_aload_n (pc := 123) 0 k_fm_count_123 rfl rfl ?_
        refine tr_getIx (pc := 124) k_fm_count_124 fl_fm_213 rfl rfl ?_
        refine tr_ireturn (pc := 127) k_fm_count_127 rfl rfl ?_
        exact hv
      · cases hi
        replace hv := hv.2.2.2.2.2.2.1 (mtoI (hx.trans (by decide)))
        refine tr_iconst (pc := 128) (v := 0) k_fm_count_128 (by decide) ?_
        refine tr_istore_n (pc := 129) 3 k_fm_count_129 rfl (by decide) rfl ?_
        show mT g me_fm_count (d + 1) 0 0 130 [some (vr 10 0), some (vi x1), some (vi (0 : Int32)), some (vi (0 : Int32))] [] h _
        exact hv
      · exact absurd hi (by simp)
    · replace hv := hv.2.2.2.2.2.2.2 (fun e => hx 0 (by decide) (by rw [e]; decide)) (fun e => hx 1 (by decide) (by rw [e]; decide)) (fun e => hx 2 (by decide) (by rw [e]; decide)) (fun e => hx 3 (by decide) (by rw [e]; decide)) (fun e => hx 4 (by decide) (by rw [e]; decide)) (fun e => hx 5 (by decide) (by rw [e]; decide)) (fun e => hx 6 (by decide) (by rw [e]; decide))
      refine tr_bipush (pc := 163) (v := -9) k_fm_count_163 (by decide) ?_
      refine tr_ireturn (pc := 165) k_fm_count_165 rfl rfl ?_
      exact hv
  · replace hv := hv.2 q
    refine tr_iload_n (pc := 6) 1 k_fm_count_6 rfl rfl ?_
    refine tr_bipush (pc := 7) (v := 17) k_fm_count_7 (by decide) ?_
    refine tr_icmp_ge (pc := 9) 22 k_fm_count_9 (by decide) (fun q => ?_) (fun q => ?_)
    · replace hv := hv.1 q
      refine tr_iconst (pc := 22) (v := 0) k_fm_count_22 (by decide) ?_
      refine tr_istore_n (pc := 23) 2 k_fm_count_23 rfl (by decide) rfl ?_
      show mT g me_fm_count (d + 1) 0 0 24 [some (vr 10 0), some (vi x1), some (vi (0 : Int32)), none] [] h _
      refine tr_iload_n (pc := 24) 1 k_fm_count_24 rfl rfl ?_
      refine tr_table (pc := 25) [68, 73, 78, 83, 88, 123, 128] 163 k_fm_count_25 (by decide) (by decide) (by decide) (fun i t hi hx => ?_) (fun hx => ?_)
      · rcases i with _ | _ | _ | _ | _ | _ | _ | i
        · cases hi
          replace hv := hv.1 (mtoI (hx.trans (by decide)))
          refine tr_aload_n (pc := 68) 0 k_fm_count_68 rfl rfl ?_
          refine tr_getIx (pc := 69) k_fm_count_69 fl_fm_206 rfl rfl ?_
          refine tr_ireturn (pc := 72) k_fm_count_72 rfl rfl ?_
          exact hv
        · cases hi
          replace hv := hv.2.1 (mtoI (hx.trans (by decide)))
          refine tr_aload_n (pc := 73) 0 k_fm_count_73 rfl rfl ?_
          refine tr_getIx (pc := 74) k_fm_count_74 fl_fm_141 rfl rfl ?_
          refine tr_ireturn (pc := 77) k_fm_count_77 rfl rfl ?_
          exact hv
        · cases hi
          replace hv := hv.2.2.1 (mtoI (hx.trans (by decide)))
          refine tr_aload_n (pc := 78) 0 k_fm_count_78 rfl rfl ?_
          refine tr_getIx (pc := 79) k_fm_count_79 fl_fm_155 rfl rfl ?_
          refine tr_ireturn (pc := 82) k_fm_count_82 rfl rfl ?_
          exact hv
        · cases hi
          replace hv := hv.2.2.2.1 (mtoI (hx.trans (by decide)))
          refine tr_aload_n (pc := 83) 0 k_fm_count_83 rfl rfl ?_
          refine tr_getIx (pc := 84) k_fm_count_84 fl_fm_158 rfl rfl ?_
          refine tr_ireturn (pc := 87) k_fm_count_87 rfl rfl ?_
          exact hv
        · cases hi
          replace hv := hv.2.2.2.2.1 (mtoI (hx.trans (by decide)))
          refine tr_iconst (pc := 88) (v := 0) k_fm_count_88 (by decide) ?_
          refine tr_istore_n (pc := 89) 3 k_fm_count_89 rfl (by decide) rfl ?_
          show mT g me_fm_count (d + 1) 0 0 90 [some (vr 10 0), some (vi x1), some (vi (0 : Int32)), some (vi (0 : Int32))] [] h _
          exact hv
        · cases hi
          replace hv := hv.2.2.2.2.2.1 (mtoI (hx.trans (by decide)))
          refine tr_aload_n (pc := 123) 0 k_fm_count_123 rfl rfl ?_
          refine tr_getIx (pc := 124) k_fm_count_124 fl_fm_213 rfl rfl ?_
          refine tr_ireturn (pc := 127) k_fm_count_127 rfl rfl ?_
          exact hv
        · cases hi
          replace hv := hv.2.2.2.2.2.2.1 (mtoI (hx.trans (by decide)))
          refine tr_iconst (pc := 128) (v := 0) k_fm_count_128 (by decide) ?_
          refine tr_istore_n (pc := 129) 3 k_fm_count_129 rfl (by decide) rfl ?_
          show mT g me_fm_count (d + 1) 0 0 130 [some (vr 10 0), some (vi x1), some (vi (0 : Int32)), some (vi (0 : Int32))] [] h _
          exact hv
        · exact absurd hi (by simp)
      · replace hv := hv.2.2.2.2.2.2.2 (fun e => hx 0 (by decide) (by rw [e]; decide)) (fun e => hx 1 (by decide) (by rw [e]; decide)) (fun e => hx 2 (by decide) (by rw [e]; decide)) (fun e => hx 3 (by decide) (by rw [e]; decide)) (fun e => hx 4 (by decide) (by rw [e]; decide)) (fun e => hx 5 (by decide) (by rw [e]; decide)) (fun e => hx 6 (by decide) (by rw [e]; decide))
        refine tr_bipush (pc := 163) (v := -9) k_fm_count_163 (by decide) ?_
        refine tr_ireturn (pc := 165) k_fm_count_165 rfl rfl ?_
        exact hv
    · replace hv := hv.2 q
      refine tr_aload_n (pc := 12) 0 k_fm_count_12 rfl rfl ?_
      refine tr_getP (pc := 13) k_fm_count_13 fl_fm_9 rfl (Eq.trans rfl (hsk.1 10 0 _ rfl)) ?_
      refine tr_iload_n (pc := 16) 1 k_fm_count_16 rfl rfl ?_
      refine tr_bipush (pc := 17) (v := 10) k_fm_count_17 (by decide) ?_
      refine tr_isub (pc := 19) k_fm_count_19 ?_
      refine tr_ialdx (pc := 20) k_fm_count_20 (mvin (hsk.2.1 11 6 _ rfl) hv.1) rfl ?_
      replace hv := hv.2
      refine tr_ireturn (pc := 21) k_fm_count_21 rfl rfl ?_
      exact hv
theorem v_fm_count_90 {g : mG} {d : Nat} (x1 : Int32) (x2 : Int32) (x3 : Int32) {h : mH} {Q : Option mV → mH → Prop} (hsk : mSK h) (hv : (((hI h 10 0 4) ≤ x3 → Q (some (vi x2)) h) ∧ (¬ (hI h 10 0 4) ≤ x3 → (vp_in x3 24 ∧ (((hI h 12 1 x3.toNatClampNeg) = 0 → mT g me_fm_count (d + 1) 0 0 90 [some (vr 10 0), some (vi x1), some (vi (x2 + (0 : Int32))), some (vi (x3 + 1))] [] h Q) ∧ (¬ (hI h 12 1 x3.toNatClampNeg) = 0 → mT g me_fm_count (d + 1) 0 0 90 [some (vr 10 0), some (vi x1), some (vi (x2 + (1 : Int32))), some (vi (x3 + 1))] [] h Q)))))) : mT g me_fm_count (d + 1) 0 0 90 [some (vr 10 0), some (vi x1), some (vi x2), some (vi x3)] [] h Q := by
  refine tr_iload_n (pc := 90) 3 k_fm_count_90 rfl rfl ?_
  refine tr_aload_n (pc := 91) 0 k_fm_count_91 rfl rfl ?_
  refine tr_getIx (pc := 92) k_fm_count_92 fl_fm_158 rfl rfl ?_
  refine tr_icmp_ge (pc := 95) 121 k_fm_count_95 (by decide) (fun q => ?_) (fun q => ?_)
  · replace hv := hv.1 q
    refine tr_iload_n (pc := 121) 2 k_fm_count_121 rfl rfl ?_
    refine tr_ireturn (pc := 122) k_fm_count_122 rfl rfl ?_
    exact hv
  · replace hv := hv.2 q
    refine tr_iload_n (pc := 98) 2 k_fm_count_98 rfl rfl ?_
    refine tr_aload_n (pc := 99) 0 k_fm_count_99 rfl rfl ?_
    refine tr_getP (pc := 100) k_fm_count_100 fl_fm_72 rfl (Eq.trans rfl (hsk.1 10 26 _ rfl)) ?_
    refine tr_iload_n (pc := 103) 3 k_fm_count_103 rfl rfl ?_
    refine tr_zaldx (pc := 104) k_fm_count_104 (mvin (hsk.2.1 12 1 _ rfl) hv.1) rfl ?_
    replace hv := hv.2
    refine tr_if_eq (pc := 105) 112 k_fm_count_105 (by decide) (fun q => ?_) (fun q => ?_)
    · replace hv := hv.1 q
      refine tr_iconst (pc := 112) (v := 0) k_fm_count_112 (by decide) ?_
      refine tr_iadd (pc := 113) k_fm_count_113 ?_
      refine tr_istore_n (pc := 114) 2 k_fm_count_114 rfl (by decide) rfl ?_
      show mT g me_fm_count (d + 1) 0 0 115 [some (vr 10 0), some (vi x1), some (vi (x2 + (0 : Int32))), some (vi x3)] [] h _
      refine tr_iinc (pc := 115) (v := (x3 + 1)) k_fm_count_115 rfl rfl (by decide) rfl ?_
      show mT g me_fm_count (d + 1) 0 0 118 [some (vr 10 0), some (vi x1), some (vi (x2 + (0 : Int32))), some (vi (x3 + 1))] [] h _
      refine tr_goto (pc := 118) 90 k_fm_count_118 (by decide) ?_
      exact hv
    · replace hv := hv.2 q
      refine tr_iconst (pc := 108) (v := 1) k_fm_count_108 (by decide) ?_
      refine tr_goto (pc := 109) 113 k_fm_count_109 (by decide) ?_
      refine tr_iadd (pc := 113) k_fm_count_113 ?_
      refine tr_istore_n (pc := 114) 2 k_fm_count_114 rfl (by decide) rfl ?_
      show mT g me_fm_count (d + 1) 0 0 115 [some (vr 10 0), some (vi x1), some (vi (x2 + (1 : Int32))), some (vi x3)] [] h _
      refine tr_iinc (pc := 115) (v := (x3 + 1)) k_fm_count_115 rfl rfl (by decide) rfl ?_
      show mT g me_fm_count (d + 1) 0 0 118 [some (vr 10 0), some (vi x1), some (vi (x2 + (1 : Int32))), some (vi (x3 + 1))] [] h _
      refine tr_goto (pc := 118) 90 k_fm_count_118 (by decide) ?_
      exact hv
theorem v_fm_count_130 {g : mG} {d : Nat} (x1 : Int32) (x2 : Int32) (x3 : Int32) {h : mH} {Q : Option mV → mH → Prop} (hsk : mSK h) (hv : (((hI h 10 0 3) ≤ x3 → Q (some (vi x2)) h) ∧ (¬ (hI h 10 0 3) ≤ x3 → (vp_in x3 30 ∧ (((hI h 12 0 x3.toNatClampNeg) = 0 → mT g me_fm_count (d + 1) 0 0 130 [some (vr 10 0), some (vi x1), some (vi (x2 + (0 : Int32))), some (vi (x3 + 1))] [] h Q) ∧ (¬ (hI h 12 0 x3.toNatClampNeg) = 0 → mT g me_fm_count (d + 1) 0 0 130 [some (vr 10 0), some (vi x1), some (vi (x2 + (1 : Int32))), some (vi (x3 + 1))] [] h Q)))))) : mT g me_fm_count (d + 1) 0 0 130 [some (vr 10 0), some (vi x1), some (vi x2), some (vi x3)] [] h Q := by
  refine tr_iload_n (pc := 130) 3 k_fm_count_130 rfl rfl ?_
  refine tr_aload_n (pc := 131) 0 k_fm_count_131 rfl rfl ?_
  refine tr_getIx (pc := 132) k_fm_count_132 fl_fm_155 rfl rfl ?_
  refine tr_icmp_ge (pc := 135) 161 k_fm_count_135 (by decide) (fun q => ?_) (fun q => ?_)
  · replace hv := hv.1 q
    refine tr_iload_n (pc := 161) 2 k_fm_count_161 rfl rfl ?_
    refine tr_ireturn (pc := 162) k_fm_count_162 rfl rfl ?_
    exact hv
  · replace hv := hv.2 q
    refine tr_iload_n (pc := 138) 2 k_fm_count_138 rfl rfl ?_
    refine tr_aload_n (pc := 139) 0 k_fm_count_139 rfl rfl ?_
    refine tr_getP (pc := 140) k_fm_count_140 fl_fm_59 rfl (Eq.trans rfl (hsk.1 10 22 _ rfl)) ?_
    refine tr_iload_n (pc := 143) 3 k_fm_count_143 rfl rfl ?_
    refine tr_zaldx (pc := 144) k_fm_count_144 (mvin (hsk.2.1 12 0 _ rfl) hv.1) rfl ?_
    replace hv := hv.2
    refine tr_if_eq (pc := 145) 152 k_fm_count_145 (by decide) (fun q => ?_) (fun q => ?_)
    · replace hv := hv.1 q
      refine tr_iconst (pc := 152) (v := 0) k_fm_count_152 (by decide) ?_
      refine tr_iadd (pc := 153) k_fm_count_153 ?_
      refine tr_istore_n (pc := 154) 2 k_fm_count_154 rfl (by decide) rfl ?_
      show mT g me_fm_count (d + 1) 0 0 155 [some (vr 10 0), some (vi x1), some (vi (x2 + (0 : Int32))), some (vi x3)] [] h _
      refine tr_iinc (pc := 155) (v := (x3 + 1)) k_fm_count_155 rfl rfl (by decide) rfl ?_
      show mT g me_fm_count (d + 1) 0 0 158 [some (vr 10 0), some (vi x1), some (vi (x2 + (0 : Int32))), some (vi (x3 + 1))] [] h _
      refine tr_goto (pc := 158) 130 k_fm_count_158 (by decide) ?_
      exact hv
    · replace hv := hv.2 q
      refine tr_iconst (pc := 148) (v := 1) k_fm_count_148 (by decide) ?_
      refine tr_goto (pc := 149) 153 k_fm_count_149 (by decide) ?_
      refine tr_iadd (pc := 153) k_fm_count_153 ?_
      refine tr_istore_n (pc := 154) 2 k_fm_count_154 rfl (by decide) rfl ?_
      show mT g me_fm_count (d + 1) 0 0 155 [some (vr 10 0), some (vi x1), some (vi (x2 + (1 : Int32))), some (vi x3)] [] h _
      refine tr_iinc (pc := 155) (v := (x3 + 1)) k_fm_count_155 rfl rfl (by decide) rfl ?_
      show mT g me_fm_count (d + 1) 0 0 158 [some (vr 10 0), some (vi x1), some (vi (x2 + (1 : Int32))), some (vi (x3 + 1))] [] h _
      refine tr_goto (pc := 158) 130 k_fm_count_158 (by decide) ?_
      exact hv
