/-! printed by my own program: walks between loop heads -/
theorem v_fm_tank_0 {g : mG} {d : Nat} (x1 : Int32) (x2 : Int32) (x3 : Int32) (x4 : Int32) {h : mH} {Q : Option mV → mH → Prop} (hsk : mSK h) (hv : ((x1 < 0 → mT g me_fm_refuse (d + 1) 0 0 0 [some (vr 10 0), some (vi (-4 : Int32))] [] h (fun v h1 => ∃ y2, v = some (vi y2) ∧ mSK h1 ∧ Q (some (vi y2)) h1)) ∧ (¬ x1 < 0 → ((x2 < (1 : Int32) → mT g me_fm_refuse (d + 1) 0 0 0 [some (vr 10 0), some (vi (-4 : Int32))] [] h (fun v h3 => ∃ y4, v = some (vi y4) ∧ mSK h3 ∧ Q (some (vi y4)) h3)) ∧ (¬ x2 < (1 : Int32) → ((x3 < (1 : Int32) → mT g me_fm_refuse (d + 1) 0 0 0 [some (vr 10 0), some (vi (-4 : Int32))] [] h (fun v h5 => ∃ y6, v = some (vi y6) ∧ mSK h5 ∧ Q (some (vi y6)) h5)) ∧ (¬ x3 < (1 : Int32) → ((0 ≤ x4 → (((500 : Int32) < x1 → mT g me_fm_refuse (d + 1) 0 0 0 [some (vr 10 0), some (vi (-6 : Int32))] [] h (fun v h7 => ∃ y8, v = some (vi y8) ∧ mSK h7 ∧ Q (some (vi y8)) h7)) ∧ (¬ (500 : Int32) < x1 → (((1000 : Int32) < x2 → mT g me_fm_refuse (d + 1) 0 0 0 [some (vr 10 0), some (vi (-6 : Int32))] [] h (fun v h9 => ∃ y10, v = some (vi y10) ∧ mSK h9 ∧ Q (some (vi y10)) h9)) ∧ (¬ (1000 : Int32) < x2 → (((60 : Int32) < x3 → mT g me_fm_refuse (d + 1) 0 0 0 [some (vr 10 0), some (vi (-6 : Int32))] [] h (fun v h11 => ∃ y12, v = some (vi y12) ∧ mSK h11 ∧ Q (some (vi y12)) h11)) ∧ (¬ (60 : Int32) < x3 → (((500 : Int32) < x4 → mT g me_fm_refuse (d + 1) 0 0 0 [some (vr 10 0), some (vi (-6 : Int32))] [] h (fun v h13 => ∃ y14, v = some (vi y14) ∧ mSK h13 ∧ Q (some (vi y14)) h13)) ∧ (¬ (500 : Int32) < x4 → ((¬ (hI h 10 0 2) = (4 : Int32) → (vp_in (hI h 10 0 2) 4 ∧ (vp_in (hI h 10 0 2) 4 ∧ (vp_in (hI h 10 0 2) 4 ∧ (vp_in (hI h 10 0 2) 4 ∧ (vp_in (hI h 10 0 2) 4 ∧ Q (some (vi (((hI h 10 0 2) + (1 : Int32)) - (1 : Int32)))) (setI (setI (setI (setI (setI (setI h 11 7 ((hI h 10 0 2).toNatClampNeg) x1) 11 8 ((hI h 10 0 2).toNatClampNeg) x2) 11 9 ((hI h 10 0 2).toNatClampNeg) x3) 11 10 ((hI h 10 0 2).toNatClampNeg) x4) 11 11 ((hI h 10 0 2).toNatClampNeg) (x2 * x3)) 10 0 2 ((hI h 10 0 2) + (1 : Int32))))))))) ∧ ((hI h 10 0 2) = (4 : Int32) → mT g me_fm_refuse (d + 1) 0 0 0 [some (vr 10 0), some (vi (-6 : Int32))] [] h (fun v h15 => ∃ y16, v = some (vi y16) ∧ mSK h15 ∧ Q (some (vi y16)) h15)))))))))))) ∧ (¬ 0 ≤ x4 → mT g me_fm_refuse (d + 1) 0 0 0 [some (vr 10 0), some (vi (-4 : Int32))] [] h (fun v h17 => ∃ y18, v = some (vi y18) ∧ mSK h17 ∧ Q (some (vi y18)) h17)))))))))) : mT g me_fm_tank (d + 2) 0 0 0 [some (vr 10 0), some (vi x1), some (vi x2), some (vi x3), some (vi x4)] [] h Q := by
  refine tr_iload_n (pc := 0) 1 k_fm_tank_0 rfl rfl ?_
  refine tr_if_lt (pc := 1) 19 k_fm_tank_1 (by decide) (fun q => ?_) (fun q => ?_)
  · replace hv := hv.1 q
    refine tr_aload_n (pc := 19) 0 k_fm_tank_19 rfl rfl ?_
    refine tr_bipush (pc := 20) (v := -4) k_fm_tank_20 (by decide) ?_
    refine tr_callV (pc := 22) (d' := d + 1) (mc' := 0) (ms' := 0) [vi (-4 : Int32)] k_fm_tank_22 ca_fm_refuse ml_fm_133 ii_fm_refuse ⟨by decide, rfl⟩ pa_fm_refuse (by omega) (by omega) (by omega) rfl (Nat.le_of_ble_eq_true rfl) (Nat.le_of_ble_eq_true rfl) hv (fun v h9 hv => ?_)
    obtain ⟨y2, rfl, hv⟩ := hv
    obtain ⟨h1, eh⟩ : ∃ z, z = h9 := ⟨_, rfl⟩
    subst eh
    obtain ⟨hskh1, hv⟩ := hv
    show mT g me_fm_tank (d + 2) 0 0 25 [some (vr 10 0), some (vi x1), some (vi x2), some (vi x3), some (vi x4)] [vi y2] h1 _
    refine tr_ireturn (pc := 25) k_fm_tank_25 rfl rfl ?_
    exact hv
  · replace hv := hv.2 q
    refine tr_iload_n (pc := 4) 2 k_fm_tank_4 rfl rfl ?_
    refine tr_iconst (pc := 5) (v := 1) k_fm_tank_5 (by decide) ?_
    refine tr_icmp_lt (pc := 6) 19 k_fm_tank_6 (by decide) (fun q => ?_) (fun q => ?_)
    · replace hv := hv.1 q
      refine tr_aload_n (pc := 19) 0 k_fm_tank_19 rfl rfl ?_
      refine tr_bipush (pc := 20) (v := -4) k_fm_tank_20 (by decide) ?_
      refine tr_callV (pc := 22) (d' := d + 1) (mc' := 0) (ms' := 0) [vi (-4 : Int32)] k_fm_tank_22 ca_fm_refuse ml_fm_133 ii_fm_refuse ⟨by decide, rfl⟩ pa_fm_refuse (by omega) (by omega) (by omega) rfl (Nat.le_of_ble_eq_true rfl) (Nat.le_of_ble_eq_true rfl) hv (fun v h9 hv => ?_)
      obtain ⟨y4, rfl, hv⟩ := hv
      obtain ⟨h3, eh⟩ : ∃ z, z = h9 := ⟨_, rfl⟩
      subst eh
      obtain ⟨hskh3, hv⟩ := hv
      show mT g me_fm_tank (d + 2) 0 0 25 [some (vr 10 0), some (vi x1), some (vi x2), some (vi x3), some (vi x4)] [vi y4] h3 _
      refine tr_ireturn (pc := 25) k_fm_tank_25 rfl rfl ?_
      exact hv
    · replace hv := hv.2 q
      refine tr_iload_n (pc := 9) 3 k_fm_tank_9 rfl rfl ?_
      refine tr_iconst (pc := 10) (v := 1) k_fm_tank_10 (by decide) ?_
      refine tr_icmp_lt (pc := 11) 19 k_fm_tank_11 (by decide) (fun q => ?_) (fun q => ?_)
      · replace hv := hv.1 q
        refine tr_aload_n (pc := 19) 0 k_fm_tank_19 rfl rfl ?_
        refine tr_bipush (pc := 20) (v := -4) k_fm_tank_20 (by decide) ?_
        refine tr_callV (pc := 22) (d' := d + 1) (mc' := 0) (ms' := 0) [vi (-4 : Int32)] k_fm_tank_22 ca_fm_refuse ml_fm_133 ii_fm_refuse ⟨by decide, rfl⟩ pa_fm_refuse (by omega) (by omega) (by omega) rfl (Nat.le_of_ble_eq_true rfl) (Nat.le_of_ble_eq_true rfl) hv (fun v h9 hv => ?_)
        obtain ⟨y6, rfl, hv⟩ := hv
        obtain ⟨h5, eh⟩ : ∃ z, z = h9 := ⟨_, rfl⟩
        subst eh
        obtain ⟨hskh5, hv⟩ := hv
        show mT g me_fm_tank (d + 2) 0 0 25 [some (vr 10 0), some (vi x1), some (vi x2), some (vi x3), some (vi x4)] [vi y6] h5 _
        refine tr_ireturn (pc := 25) k_fm_tank_25 rfl rfl ?_
        exact hv
      · replace hv := hv.2 q
        refine tr_iload (pc := 14) k_fm_tank_14 rfl ?_
        refine tr_if_ge (pc := 16) 26 k_fm_tank_16 (by decide) (fun q => ?_) (fun q => ?_)
        · replace hv := hv.1 q
          refine tr_iload_n (pc := 26) 1 k_fm_tank_26 rfl rfl ?_
          refine tr_sipush (pc := 27) (v := 500) k_fm_tank_27 (by decide) ?_
          refine tr_icmp_gt (pc := 30) 62 k_fm_tank_30 (by decide) (fun q => ?_) (fun q => ?_)
          · replace hv := hv.1 q
            refine tr_aload_n (pc := 62) 0 k_fm_tank_62 rfl rfl ?_
            refine tr_bipush (pc := 63) (v := -6) k_fm_tank_63 (by decide) ?_
            refine tr_callV (pc := 65) (d' := d + 1) (mc' := 0) (ms' := 0) [vi (-6 : Int32)] k_fm_tank_65 ca_fm_refuse ml_fm_133 ii_fm_refuse ⟨by decide, rfl⟩ pa_fm_refuse (by omega) (by omega) (by omega) rfl (Nat.le_of_ble_eq_true rfl) (Nat.le_of_ble_eq_true rfl) hv (fun v h9 hv => ?_)
            obtain ⟨y8, rfl, hv⟩ := hv
            obtain ⟨h7, eh⟩ : ∃ z, z = h9 := ⟨_, rfl⟩
            subst eh
            obtain ⟨hskh7, hv⟩ := hv
            show mT g me_fm_tank (d + 2) 0 0 68 [some (vr 10 0), some (vi x1), some (vi x2), some (vi x3), some (vi x4)] [vi y8] h7 _
            refine tr_ireturn (pc := 68) k_fm_tank_68 rfl rfl ?_
            exact hv
          · replace hv := hv.2 q
            refine tr_iload_n (pc := 33) 2 k_fm_tank_33 rfl rfl ?_
            refine tr_sipush (pc := 34) (v := 1000) k_fm_tank_34 (by decide) ?_
            refine tr_icmp_gt (pc := 37) 62 k_fm_tank_37 (by decide) (fun q => ?_) (fun q => ?_)
            · replace hv := hv.1 q
              refine tr_aload_n (pc := 62) 0 k_fm_tank_62 rfl rfl ?_
              refine tr_bipush (pc := 63) (v := -6) k_fm_tank_63 (by decide) ?_
              refine tr_callV (pc := 65) (d' := d + 1) (mc' := 0) (ms' := 0) [vi (-6 : Int32)] k_fm_tank_65 ca_fm_refuse ml_fm_133 ii_fm_refuse ⟨by decide, rfl⟩ pa_fm_refuse (by omega) (by omega) (by omega) rfl (Nat.le_of_ble_eq_true rfl) (Nat.le_of_ble_eq_true rfl) hv (fun v h9 hv => ?_)
              obtain ⟨y10, rfl, hv⟩ := hv
              obtain ⟨h9, eh⟩ : ∃ z, z = h9 := ⟨_, rfl⟩
              subst eh
              obtain ⟨hskh9, hv⟩ := hv
              show mT g me_fm_tank (d + 2) 0 0 68 [some (vr 10 0), some (vi x1), some (vi x2), some (vi x3), some (vi x4)] [vi y10] h9 _
              refine tr_ireturn (pc := 68) k_fm_tank_68 rfl rfl ?_
              exact hv
            · replace hv := hv.2 q
              refine tr_iload_n (pc := 40) 3 k_fm_tank_40 rfl rfl ?_
              refine tr_bipush (pc := 41) (v := 60) k_fm_tank_41 (by decide) ?_
              refine tr_icmp_gt (pc := 43) 62 k_fm_tank_43 (by decide) (fun q => ?_) (fun q => ?_)
              · replace hv := hv.1 q
                refine tr_aload_n (pc := 62) 0 k_fm_tank_62 rfl rfl ?_
                refine tr_bipush (pc := 63) (v := -6) k_fm_tank_63 (by decide) ?_
                refine tr_callV (pc := 65) (d' := d + 1) (mc' := 0) (ms' := 0) [vi (-6 : Int32)] k_fm_tank_65 ca_fm_refuse ml_fm_133 ii_fm_refuse ⟨by decide, rfl⟩ pa_fm_refuse (by omega) (by omega) (by omega) rfl (Nat.le_of_ble_eq_true rfl) (Nat.le_of_ble_eq_true rfl) hv (fun v h9 hv => ?_)
                obtain ⟨y12, rfl, hv⟩ := hv
                obtain ⟨h11, eh⟩ : ∃ z, z = h9 := ⟨_, rfl⟩
                subst eh
                obtain ⟨hskh11, hv⟩ := hv
                show mT g me_fm_tank (d + 2) 0 0 68 [some (vr 10 0), some (vi x1), some (vi x2), some (vi x3), some (vi x4)] [vi y12] h11 _
                refine tr_ireturn (pc := 68) k_fm_tank_68 rfl rfl ?_
                exact hv
              · replace hv := hv.2 q
                refine tr_iload (pc := 46) k_fm_tank_46 rfl ?_
                refine tr_sipush (pc := 48) (v := 500) k_fm_tank_48 (by decide) ?_
                refine tr_icmp_gt (pc := 51) 62 k_fm_tank_51 (by decide) (fun q => ?_) (fun q => ?_)
                · replace hv := hv.1 q
                  refine tr_aload_n (pc := 62) 0 k_fm_tank_62 rfl rfl ?_
                  refine tr_bipush (pc := 63) (v := -6) k_fm_tank_63 (by decide) ?_
                  refine tr_callV (pc := 65) (d' := d + 1) (mc' := 0) (ms' := 0) [vi (-6 : Int32)] k_fm_tank_65 ca_fm_refuse ml_fm_133 ii_fm_refuse ⟨by decide, rfl⟩ pa_fm_refuse (by omega) (by omega) (by omega) rfl (Nat.le_of_ble_eq_true rfl) (Nat.le_of_ble_eq_true rfl) hv (fun v h9 hv => ?_)
                  obtain ⟨y14, rfl, hv⟩ := hv
                  obtain ⟨h13, eh⟩ : ∃ z, z = h9 := ⟨_, rfl⟩
                  subst eh
                  obtain ⟨hskh13, hv⟩ := hv
                  show mT g me_fm_tank (d + 2) 0 0 68 [some (vr 10 0), some (vi x1), some (vi x2), some (vi x3), some (vi x4)] [vi y14] h13 _
                  refine tr_ireturn (pc := 68) k_fm_tank_68 rfl rfl ?_
                  exact hv
                · replace hv := hv.2 q
                  refine tr_aload_n (pc := 54) 0 k_fm_tank_54 rfl rfl ?_
                  refine tr_getIx (pc := 55) k_fm_tank_55 fl_fm_141 rfl rfl ?_
                  refine tr_iconst (pc := 58) (v := 4) k_fm_tank_58 (by decide) ?_
                  refine tr_icmp_ne (pc := 59) 69 k_fm_tank_59 (by decide) (fun q => ?_) (fun q => ?_)
                  · replace hv := hv.1 q
                    refine tr_aload_n (pc := 69) 0 k_fm_tank_69 rfl rfl ?_
                    refine tr_getP (pc := 70) k_fm_tank_70 fl_fm_17 rfl (Eq.trans rfl (hsk.1 10 8 _ rfl)) ?_
                    refine tr_aload_n (pc := 73) 0 k_fm_tank_73 rfl rfl ?_
                    refine tr_getIx (pc := 74) k_fm_tank_74 fl_fm_141 rfl rfl ?_
                    refine tr_iload_n (pc := 77) 1 k_fm_tank_77 rfl rfl ?_
                    refine tr_iast (pc := 78) k_fm_tank_78 (mvin (hsk.2.1 11 7 _ rfl) hv.1) ?_
                    replace hv := hv.2
                    refine tr_aload_n (pc := 79) 0 k_fm_tank_79 rfl rfl ?_
                    refine tr_getP (pc := 80) k_fm_tank_80 fl_fm_20 rfl (Eq.trans (hP_setI) (hsk.1 10 9 _ rfl)) ?_
                    refine tr_aload_n (pc := 83) 0 k_fm_tank_83 rfl rfl ?_
                    refine tr_getIx (pc := 84) k_fm_tank_84 fl_fm_141 rfl (hI_nk (by decide)) ?_
                    refine tr_iload_n (pc := 87) 2 k_fm_tank_87 rfl rfl ?_
                    refine tr_iast (pc := 88) k_fm_tank_88 (mvin (hsk.2.1 11 8 _ rfl) hv.1) ?_
                    replace hv := hv.2
                    refine tr_aload_n (pc := 89) 0 k_fm_tank_89 rfl rfl ?_
                    refine tr_getP (pc := 90) k_fm_tank_90 fl_fm_23 rfl (Eq.trans (Eq.trans (hP_setI) (hP_setI)) (hsk.1 10 10 _ rfl)) ?_
                    refine tr_aload_n (pc := 93) 0 k_fm_tank_93 rfl rfl ?_
                    refine tr_getIx (pc := 94) k_fm_tank_94 fl_fm_141 rfl (Eq.trans (hI_nk (by decide)) (hI_nk (by decide))) ?_
                    refine tr_iload_n (pc := 97) 3 k_fm_tank_97 rfl rfl ?_
                    refine tr_iast (pc := 98) k_fm_tank_98 (mvin (hsk.2.1 11 9 _ rfl) hv.1) ?_
                    replace hv := hv.2
                    refine tr_aload_n (pc := 99) 0 k_fm_tank_99 rfl rfl ?_
                    refine tr_getP (pc := 100) k_fm_tank_100 fl_fm_26 rfl (Eq.trans (Eq.trans (hP_setI) (Eq.trans (hP_setI) (hP_setI))) (hsk.1 10 11 _ rfl)) ?_
                    refine tr_aload_n (pc := 103) 0 k_fm_tank_103 rfl rfl ?_
                    refine tr_getIx (pc := 104) k_fm_tank_104 fl_fm_141 rfl (Eq.trans (hI_nk (by decide)) (Eq.trans (hI_nk (by decide)) (hI_nk (by decide)))) ?_
                    refine tr_iload (pc := 107) k_fm_tank_107 rfl ?_
                    refine tr_iast (pc := 109) k_fm_tank_109 (mvin (hsk.2.1 11 10 _ rfl) hv.1) ?_
                    replace hv := hv.2
                    refine tr_aload_n (pc := 110) 0 k_fm_tank_110 rfl rfl ?_
                    refine tr_getP (pc := 111) k_fm_tank_111 fl_fm_29 rfl (Eq.trans (Eq.trans (hP_setI) (Eq.trans (hP_setI) (Eq.trans (hP_setI) (hP_setI)))) (hsk.1 10 12 _ rfl)) ?_
                    refine tr_aload_n (pc := 114) 0 k_fm_tank_114 rfl rfl ?_
                    refine tr_getIx (pc := 115) k_fm_tank_115 fl_fm_141 rfl (Eq.trans (hI_nk (by decide)) (Eq.trans (hI_nk (by decide)) (Eq.trans (hI_nk (by decide)) (hI_nk (by decide))))) ?_
                    refine tr_iload_n (pc := 118) 2 k_fm_tank_118 rfl rfl ?_
                    refine tr_iload_n (pc := 119) 3 k_fm_tank_119 rfl rfl ?_
                    refine tr_imul (pc := 120) k_fm_tank_120 ?_
                    refine tr_iast (pc := 121) k_fm_tank_121 (mvin (hsk.2.1 11 11 _ rfl) hv.1) ?_
                    replace hv := hv.2
                    refine tr_aload_n (pc := 122) 0 k_fm_tank_122 rfl rfl ?_
                    refine tr_dup (pc := 123) k_fm_tank_123 rfl ?_
                    refine tr_getIx (pc := 124) k_fm_tank_124 fl_fm_141 rfl (Eq.trans (hI_nk (by decide)) (Eq.trans (hI_nk (by decide)) (Eq.trans (hI_nk (by decide)) (Eq.trans (hI_nk (by decide)) (hI_nk (by decide)))))) ?_
                    refine tr_iconst (pc := 127) (v := 1) k_fm_tank_127 (by decide) ?_
                    refine tr_iadd (pc := 128) k_fm_tank_128 ?_
                    refine tr_putI (pc := 129) k_fm_tank_129 fl_fm_141 (Or.inl rfl) rfl ⟨rfl, rfl⟩ ?_
                    refine tr_aload_n (pc := 132) 0 k_fm_tank_132 rfl rfl ?_
                    refine tr_getIx (pc := 133) k_fm_tank_133 fl_fm_141 rfl (hI_eq) ?_
                    refine tr_iconst (pc := 136) (v := 1) k_fm_tank_136 (by decide) ?_
                    refine tr_isub (pc := 137) k_fm_tank_137 ?_
                    refine tr_ireturn (pc := 138) k_fm_tank_138 rfl rfl ?_
                    exact hv
                  · replace hv := hv.2 q
                    refine tr_aload_n (pc := 62) 0 k_fm_tank_62 rfl rfl ?_
                    refine tr_bipush (pc := 63) (v := -6) k_fm_tank_63 (by decide) ?_
                    refine tr_callV (pc := 65) (d' := d + 1) (mc' := 0) (ms' := 0) [vi (-6 : Int32)] k_fm_tank_65 ca_fm_refuse ml_fm_133 ii_fm_refuse ⟨by decide, rfl⟩ pa_fm_refuse (by omega) (by omega) (by omega) rfl (Nat.le_of_ble_eq_true rfl) (Nat.le_of_ble_eq_true rfl) hv (fun v h9 hv => ?_)
                    obtain ⟨y16, rfl, hv⟩ := hv
                    obtain ⟨h15, eh⟩ : ∃ z, z = h9 := ⟨_, rfl⟩
                    subst eh
                    obtain ⟨hskh15, hv⟩ := hv
                    show mT g me_fm_tank (d + 2) 0 0 68 [some (vr 10 0), some (vi x1), some (vi x2), some (vi x3), some (vi x4)] [vi y16] h15 _
                    refine tr_ireturn (pc := 68) k_fm_tank_68 rfl rfl ?_
                    exact hv
        · replace hv := hv.2 q
          refine tr_aload_n (pc := 19) 0 k_fm_tank_19 rfl rfl ?_
          refine tr_bipush (pc := 20) (v := -4) k_fm_tank_20 (by decide) ?_
          refine tr_callV (pc := 22) (d' := d + 1) (mc' := 0) (ms' := 0) [vi (-4 : Int32)] k_fm_tank_22 ca_fm_refuse ml_fm_133 ii_fm_refuse ⟨by decide, rfl⟩ pa_fm_refuse (by omega) (by omega) (by omega) rfl (Nat.le_of_ble_eq_true rfl) (Nat.le_of_ble_eq_true rfl) hv (fun v h9 hv => ?_)
          obtain ⟨y18, rfl, hv⟩ := hv
          obtain ⟨h17, eh⟩ : ∃ z, z = h9 := ⟨_, rfl⟩
          subst eh
          obtain ⟨hskh17, hv⟩ := hv
          show mT g me_fm_tank (d + 2) 0 0 25 [some (vr 10 0), some (vi x1), some (vi x2), some (vi x3), some (vi x4)] [vi y18] h17 _
          refine tr_ireturn (pc := 25) k_fm_tank_25 rfl rfl ?_
          exact hv
theorem v_fm_refuse_0 {g : mG} {d : Nat} (x1 : Int32) {h : mH} {Q : Option mV → mH → Prop} (hsk : mSK h) (hv : (vp_in (-x1) 7 ∧ (vp_in (-x1) 7 ∧ Q (some (vi x1)) (setI h 11 6 ((-x1).toNatClampNeg) ((hI h 11 6 ((-x1).toNatClampNeg)) + (1 : Int32)))))) : mT g me_fm_refuse (d + 1) 0 0 0 [some (vr 10 0), some (vi x1)] [] h Q := by
  refine tr_aload_n (pc := 0) 0 k_fm_refuse_0 rfl rfl ?_
  refine tr_getP (pc := 1) k_fm_refuse_1 fl_fm_9 rfl (Eq.trans rfl (hsk.1 10 0 _ rfl)) ?_
  refine tr_iload_n (pc := 4) 1 k_fm_refuse_4 rfl rfl ?_
  refine tr_ineg (pc := 5) k_fm_refuse_5 ?_
  refine tr_dup2 (pc := 6) k_fm_refuse_6 rfl rfl ?_
  refine tr_ialdx (pc := 7) k_fm_refuse_7 (mvin (hsk.2.1 11 6 _ rfl) hv.1) rfl ?_
  replace hv := hv.2
  refine tr_iconst (pc := 8) (v := 1) k_fm_refuse_8 (by decide) ?_
  refine tr_iadd (pc := 9) k_fm_refuse_9 ?_
  refine tr_iast (pc := 10) k_fm_refuse_10 (mvin (hsk.2.1 11 6 _ rfl) hv.1) ?_
  replace hv := hv.2
  refine tr_iload_n (pc := 11) 1 k_fm_refuse_11 rfl rfl ?_
  refine tr_ireturn (pc := 12) k_fm_refuse_12 rfl rfl ?_
  exact hv
theorem v_fm_set_0 {g : mG} {d : Nat} (x1 : Int32) (x2 : Int32) (x3 : Int32) {h : mH} {Q : Option mV → mH → Prop} (hsk : mSK h) (hv : ((x1 < 0 → mT g me_fm_refuse (d + 1) 0 0 0 [some (vr 10 0), some (vi (-1 : Int32))] [] h (fun v h1 => ∃ y2, v = some (vi y2) ∧ mSK h1 ∧ Q (some (vi y2)) h1)) ∧ (¬ x1 < 0 → (((hI h 10 0 2) ≤ x1 → mT g me_fm_refuse (d + 1) 0 0 0 [some (vr 10 0), some (vi (-1 : Int32))] [] h (fun v h3 => ∃ y4, v = some (vi y4) ∧ mSK h3 ∧ Q (some (vi y4)) h3)) ∧ (¬ (hI h 10 0 2) ≤ x1 → ((x2 < 0 → mT g me_fm_refuse (d + 1) 0 0 0 [some (vr 10 0), some (vi (-2 : Int32))] [] h (fun v h5 => ∃ y6, v = some (vi y6) ∧ mSK h5 ∧ Q (some (vi y6)) h5)) ∧ (¬ x2 < 0 → (((2 : Int32) ≤ x2 → mT g me_fm_refuse (d + 1) 0 0 0 [some (vr 10 0), some (vi (-2 : Int32))] [] h (fun v h7 => ∃ y8, v = some (vi y8) ∧ mSK h7 ∧ Q (some (vi y8)) h7)) ∧ (¬ (2 : Int32) ≤ x2 → ((¬ x2 = 0 → (vp_in x1 4 ∧ (vp_in x1 4 ∧ (((0 : Int32) ≤ x3 → ((x3 ≤ ((hI h 11 8 x1.toNatClampNeg) * (hI h 11 9 x1.toNatClampNeg)) → ((¬ x2 = 0 → (vp_in x1 4 ∧ ((¬ x2 = 0 → (vp_in x1 4 ∧ Q (some (vi (hI h 11 11 x1.toNatClampNeg))) (setI (setI h 11 11 x1.toNatClampNeg x3) 10 0 55 (0 : Int32)))) ∧ (x2 = 0 → (vp_in x1 4 ∧ Q (some (vi (hI h 11 11 x1.toNatClampNeg))) (setI (setI h 11 10 x1.toNatClampNeg x3) 10 0 55 (0 : Int32))))))) ∧ (x2 = 0 → (vp_in x1 4 ∧ ((¬ x2 = 0 → (vp_in x1 4 ∧ Q (some (vi (hI h 11 10 x1.toNatClampNeg))) (setI (setI h 11 11 x1.toNatClampNeg x3) 10 0 55 (0 : Int32)))) ∧ (x2 = 0 → (vp_in x1 4 ∧ Q (some (vi (hI h 11 10 x1.toNatClampNeg))) (setI (setI h 11 10 x1.toNatClampNeg x3) 10 0 55 (0 : Int32))))))))) ∧ (¬ x3 ≤ ((hI h 11 8 x1.toNatClampNeg) * (hI h 11 9 x1.toNatClampNeg)) → mT g me_fm_refuse (d + 1) 0 0 0 [some (vr 10 0), some (vi (-6 : Int32))] [] h (fun v h9 => ∃ y10, v = some (vi y10) ∧ mSK h9 ∧ Q (some (vi y10)) h9)))) ∧ (¬ (0 : Int32) ≤ x3 → mT g me_fm_refuse (d + 1) 0 0 0 [some (vr 10 0), some (vi (-4 : Int32))] [] h (fun v h11 => ∃ y12, v = some (vi y12) ∧ mSK h11 ∧ Q (some (vi y12)) h11)))))) ∧ (x2 = 0 → (((0 : Int32) ≤ x3 → ((x3 ≤ (500 : Int32) → ((¬ x2 = 0 → (vp_in x1 4 ∧ ((¬ x2 = 0 → (vp_in x1 4 ∧ Q (some (vi (hI h 11 11 x1.toNatClampNeg))) (setI (setI h 11 11 x1.toNatClampNeg x3) 10 0 55 (0 : Int32)))) ∧ (x2 = 0 → (vp_in x1 4 ∧ Q (some (vi (hI h 11 11 x1.toNatClampNeg))) (setI (setI h 11 10 x1.toNatClampNeg x3) 10 0 55 (0 : Int32))))))) ∧ (x2 = 0 → (vp_in x1 4 ∧ ((¬ x2 = 0 → (vp_in x1 4 ∧ Q (some (vi (hI h 11 10 x1.toNatClampNeg))) (setI (setI h 11 11 x1.toNatClampNeg x3) 10 0 55 (0 : Int32)))) ∧ (x2 = 0 → (vp_in x1 4 ∧ Q (some (vi (hI h 11 10 x1.toNatClampNeg))) (setI (setI h 11 10 x1.toNatClampNeg x3) 10 0 55 (0 : Int32))))))))) ∧ (¬ x3 ≤ (500 : Int32) → mT g me_fm_refuse (d + 1) 0 0 0 [some (vr 10 0), some (vi (-6 : Int32))] [] h (fun v h13 => ∃ y14, v = some (vi y14) ∧ mSK h13 ∧ Q (some (vi y14)) h13)))) ∧ (¬ (0 : Int32) ≤ x3 → mT g me_fm_refuse (d + 1) 0 0 0 [some (vr 10 0), some (vi (-4 : Int32))] [] h (fun v h15 => ∃ y16, v = some (vi y16) ∧ mSK h15 ∧ Q (some (vi y16)) h15)))))))))))))) : mT g me_fm_set (d + 2) 0 0 0 [some (vr 10 0), some (vi x1), some (vi x2), some (vi x3), none, none] [] h Q := by
  refine tr_iload_n (pc := 0) 1 k_fm_set_0 rfl rfl ?_
  refine tr_aload_n (pc := 1) 0 k_fm_set_1 rfl rfl ?_
  refine tr_getIx (pc := 2) k_fm_set_2 fl_fm_141 rfl rfl ?_
  refine tr_callS (pc := 5) (d' := d + 1) (mc' := 0) (ms' := 0) [vi x1, vi (hI h 10 0 2)] k_fm_set_5 ca_fm_isIn ml_fm_144 is_fm_isIn pa_fm_isIn (by omega) (by omega) (by omega) rfl (Nat.le_of_ble_eq_true rfl) (Nat.le_of_ble_eq_true rfl) (Qk := fun v h9 => mT g me_fm_set (d + 2) 0 0 8 [some (vr 10 0), some (vi x1), some (vi x2), some (vi x3), none, none] (v.toList ++ []) h9 _) ?_ (fun _ _ z => z)
  show mT g me_fm_isIn (d + 1) 0 0 0 [some (vi x1), some (vi (hI h 10 0 2))] [] h _
  refine tr_iload_n (pc := 0) 0 k_fm_isIn_0 rfl rfl ?_
  refine tr_if_lt (pc := 1) 13 k_fm_isIn_1 (by decide) (fun q => ?_) (fun q => ?_)
  · replace hv := hv.1 q
    refine tr_iconst (pc := 13) (v := 0) k_fm_isIn_13 (by decide) ?_
    refine tr_ireturn (pc := 14) k_fm_isIn_14 rfl rfl ?_
    show mT g me_fm_set (d + 2) 0 0 8 [some (vr 10 0), some (vi x1), some (vi x2), some (vi x3), none, none] [vi (0 : Int32)] h _
    refine tr_if_ne (pc := 8) 17 k_fm_set_8 (by decide) (fun q => absurd q (by decide)) (fun _ => ?_)
    refine tr_aload_n (pc := 11) 0 k_fm_set_11 rfl rfl ?_
    refine tr_iconst (pc := 12) (v := -1) k_fm_set_12 (by decide) ?_
    refine tr_callV (pc := 13) (d' := d + 1) (mc' := 0) (ms' := 0) [vi (-1 : Int32)] k_fm_set_13 ca_fm_refuse ml_fm_133 ii_fm_refuse ⟨by decide, rfl⟩ pa_fm_refuse (by omega) (by omega) (by omega) rfl (Nat.le_of_ble_eq_true rfl) (Nat.le_of_ble_eq_true rfl) hv (fun v h9 hv => ?_)
    obtain ⟨y2, rfl, hv⟩ := hv
    obtain ⟨h1, eh⟩ : ∃ z, z = h9 := ⟨_, rfl⟩
    subst eh
    obtain ⟨hskh1, hv⟩ := hv
    show mT g me_fm_set (d + 2) 0 0 16 [some (vr 10 0), some (vi x1), some (vi x2), some (vi x3), none, none] [vi y2] h1 _
    refine tr_ireturn (pc := 16) k_fm_set_16 rfl rfl ?_
    exact hv
  · replace hv := hv.2 q
    refine tr_iload_n (pc := 4) 0 k_fm_isIn_4 rfl rfl ?_
    refine tr_iload_n (pc := 5) 1 k_fm_isIn_5 rfl rfl ?_
    refine tr_icmp_ge (pc := 6) 13 k_fm_isIn_6 (by decide) (fun q => ?_) (fun q => ?_)
    · replace hv := hv.1 q
      refine tr_iconst (pc := 13) (v := 0) k_fm_isIn_13 (by decide) ?_
      refine tr_ireturn (pc := 14) k_fm_isIn_14 rfl rfl ?_
      show mT g me_fm_set (d + 2) 0 0 8 [some (vr 10 0), some (vi x1), some (vi x2), some (vi x3), none, none] [vi (0 : Int32)] h _
      refine tr_if_ne (pc := 8) 17 k_fm_set_8 (by decide) (fun q => absurd q (by decide)) (fun _ => ?_)
      refine tr_aload_n (pc := 11) 0 k_fm_set_11 rfl rfl ?_
      refine tr_iconst (pc := 12) (v := -1) k_fm_set_12 (by decide) ?_
      refine tr_callV (pc := 13) (d' := d + 1) (mc' := 0) (ms' := 0) [vi (-1 : Int32)] k_fm_set_13 ca_fm_refuse ml_fm_133 ii_fm_refuse ⟨by decide, rfl⟩ pa_fm_refuse (by omega) (by omega) (by omega) rfl (Nat.le_of_ble_eq_true rfl) (Nat.le_of_ble_eq_true rfl) hv (fun v h9 hv => ?_)
      obtain ⟨y4, rfl, hv⟩ := hv
      obtain ⟨h3, eh⟩ : ∃ z, z = h9 := ⟨_, rfl⟩
      subst eh
      obtain ⟨hskh3, hv⟩ := hv
      show mT g me_fm_set (d + 2) 0 0 16 [some (vr 10 0), some (vi x1), some (vi x2), some (vi x3), none, none] [vi y4] h3 _
      refine tr_ireturn (pc := 16) k_fm_set_16 rfl rfl ?_
      exact hv
    · replace hv := hv.2 q
      refine tr_iconst (pc := 9) (v := 1) k_fm_isIn_9 (by decide) ?_
      refine tr_goto (pc := 10) 14 k_fm_isIn_10 (by decide) ?_
      refine tr_ireturn (pc := 14) k_fm_isIn_14 rfl rfl ?_
      show mT g me_fm_set (d + 2) 0 0 8 [some (vr 10 0), some (vi x1), some (vi x2), some (vi x3), none, none] [vi (1 : Int32)] h _
      refine tr_if_ne (pc := 8) 17 k_fm_set_8 (by decide) (fun _ => ?_) (fun q => absurd q (by decide))
      refine tr_iload_n (pc := 17) 2 k_fm_set_17 rfl rfl ?_
      refine tr_iconst (pc := 18) (v := 2) k_fm_set_18 (by decide) ?_
      refine tr_callS (pc := 19) (d' := d + 1) (mc' := 0) (ms' := 0) [vi x2, vi (2 : Int32)] k_fm_set_19 ca_fm_isIn ml_fm_144 is_fm_isIn pa_fm_isIn (by omega) (by omega) (by omega) rfl (Nat.le_of_ble_eq_true rfl) (Nat.le_of_ble_eq_true rfl) (Qk := fun v h9 => mT g me_fm_set (d + 2) 0 0 22 [some (vr 10 0), some (vi x1), some (vi x2), some (vi x3), none, none] (v.toList ++ []) h9 _) ?_ (fun _ _ z => z)
      show mT g me_fm_isIn (d + 1) 0 0 0 [some (vi x2), some (vi (2 : Int32))] [] h _
      refine tr_iload_n (pc := 0) 0 k_fm_isIn_0 rfl rfl ?_
      refine tr_if_lt (pc := 1) 13 k_fm_isIn_1 (by decide) (fun q => ?_) (fun q => ?_)
      · replace hv := hv.1 q
        refine tr_iconst (pc := 13) (v := 0) k_fm_isIn_13 (by decide) ?_
        refine tr_ireturn (pc := 14) k_fm_isIn_14 rfl rfl ?_
        show mT g me_fm_set (d + 2) 0 0 22 [some (vr 10 0), some (vi x1), some (vi x2), some (vi x3), none, none] [vi (0 : Int32)] h _
        refine tr_if_ne (pc := 22) 32 k_fm_set_22 (by decide) (fun q => absurd q (by decide)) (fun _ => ?_)
        refine tr_aload_n (pc := 25) 0 k_fm_set_25 rfl rfl ?_
        refine tr_bipush (pc := 26) (v := -2) k_fm_set_26 (by decide) ?_
        refine tr_callV (pc := 28) (d' := d + 1) (mc' := 0) (ms' := 0) [vi (-2 : Int32)] k_fm_set_28 ca_fm_refuse ml_fm_133 ii_fm_refuse ⟨by decide, rfl⟩ pa_fm_refuse (by omega) (by omega) (by omega) rfl (Nat.le_of_ble_eq_true rfl) (Nat.le_of_ble_eq_true rfl) hv (fun v h9 hv => ?_)
        obtain ⟨y6, rfl, hv⟩ := hv
        obtain ⟨h5, eh⟩ : ∃ z, z = h9 := ⟨_, rfl⟩
        subst eh
        obtain ⟨hskh5, hv⟩ := hv
        show mT g me_fm_set (d + 2) 0 0 31 [some (vr 10 0), some (vi x1), some (vi x2), some (vi x3), none, none] [vi y6] h5 _
        refine tr_ireturn (pc := 31) k_fm_set_31 rfl rfl ?_
        exact hv
      · replace hv := hv.2 q
        refine tr_iload_n (pc := 4) 0 k_fm_isIn_4 rfl rfl ?_
        refine tr_iload_n (pc := 5) 1 k_fm_isIn_5 rfl rfl ?_
        refine tr_icmp_ge (pc := 6) 13 k_fm_isIn_6 (by decide) (fun q => ?_) (fun q => ?_)
        · replace hv := hv.1 q
          refine tr_iconst (pc := 13) (v := 0) k_fm_isIn_13 (by decide) ?_
          refine tr_ireturn (pc := 14) k_fm_isIn_14 rfl rfl ?_
          show mT g me_fm_set (d + 2) 0 0 22 [some (vr 10 0), some (vi x1), some (vi x2), some (vi x3), none, none] [vi (0 : Int32)] h _
          refine tr_if_ne (pc := 22) 32 k_fm_set_22 (by decide) (fun q => absurd q (by decide)) (fun _ => ?_)
          refine tr_aload_n (pc := 25) 0 k_fm_set_25 rfl rfl ?_
          refine tr_bipush (pc := 26) (v := -2) k_fm_set_26 (by decide) ?_
          refine tr_callV (pc := 28) (d' := d + 1) (mc' := 0) (ms' := 0) [vi (-2 : Int32)] k_fm_set_28 ca_fm_refuse ml_fm_133 ii_fm_refuse ⟨by decide, rfl⟩ pa_fm_refuse (by omega) (by omega) (by omega) rfl (Nat.le_of_ble_eq_true rfl) (Nat.le_of_ble_eq_true rfl) hv (fun v h9 hv => ?_)
          obtain ⟨y8, rfl, hv⟩ := hv
          obtain ⟨h7, eh⟩ : ∃ z, z = h9 := ⟨_, rfl⟩
          subst eh
          obtain ⟨hskh7, hv⟩ := hv
          show mT g me_fm_set (d + 2) 0 0 31 [some (vr 10 0), some (vi x1), some (vi x2), some (vi x3), none, none] [vi y8] h7 _
          refine tr_ireturn (pc := 31) k_fm_set_31 rfl rfl ?_
          exact hv
        · replace hv := hv.2 q
          refine tr_iconst (pc := 9) (v := 1) k_fm_isIn_9 (by decide) ?_
          refine tr_goto (pc := 10) 14 k_fm_isIn_10 (by decide) ?_
          refine tr_ireturn (pc := 14) k_fm_isIn_14 rfl rfl ?_
          show mT g me_fm_set (d + 2) 0 0 22 [some (vr 10 0), some (vi x1), some (vi x2), some (vi x3), none, none] [vi (1 : Int32)] h _
          refine tr_if_ne (pc := 22) 32 k_fm_set_22 (by decide) (fun _ => ?_) (fun q => absurd q (by decide))
          refine tr_iload_n (pc := 32) 3 k_fm_set_32 rfl rfl ?_
          refine tr_iconst (pc := 33) (v := 0) k_fm_set_33 (by decide) ?_
          refine tr_iload_n (pc := 34) 2 k_fm_set_34 rfl rfl ?_
          refine tr_if_ne (pc := 35) 44 k_fm_set_35 (by decide) (fun q => ?_) (fun q => ?_)
          · replace hv := hv.1 q
            refine tr_aload_n (pc := 44) 0 k_fm_set_44 rfl rfl ?_
            refine tr_getP (pc := 45) k_fm_set_45 fl_fm_20 rfl (Eq.trans rfl (hsk.1 10 9 _ rfl)) ?_
            refine tr_iload_n (pc := 48) 1 k_fm_set_48 rfl rfl ?_
            refine tr_ialdx (pc := 49) k_fm_set_49 (mvin (hsk.2.1 11 8 _ rfl) hv.1) rfl ?_
            replace hv := hv.2
            refine tr_aload_n (pc := 50) 0 k_fm_set_50 rfl rfl ?_
            refine tr_getP (pc := 51) k_fm_set_51 fl_fm_23 rfl (Eq.trans rfl (hsk.1 10 10 _ rfl)) ?_
            refine tr_iload_n (pc := 54) 1 k_fm_set_54 rfl rfl ?_
            refine tr_ialdx (pc := 55) k_fm_set_55 (mvin (hsk.2.1 11 9 _ rfl) hv.1) rfl ?_
            replace hv := hv.2
            refine tr_imul (pc := 56) k_fm_set_56 ?_
            refine tr_callS (pc := 57) (d' := d + 1) (mc' := 0) (ms' := 0) [vi x3, vi (0 : Int32), vi ((hI h 11 8 x1.toNatClampNeg) * (hI h 11 9 x1.toNatClampNeg))] k_fm_set_57 ca_fm_wrong ml_fm_148 is_fm_wrong pa_fm_wrong (by omega) (by omega) (by omega) rfl (Nat.le_of_ble_eq_true rfl) (Nat.le_of_ble_eq_true rfl) (Qk := fun v h9 => mT g me_fm_set (d + 2) 0 0 60 [some (vr 10 0), some (vi x1), some (vi x2), some (vi x3), none, none] (v.toList ++ []) h9 _) ?_ (fun _ _ z => z)
            show mT g me_fm_wrong (d + 1) 0 0 0 [some (vi x3), some (vi (0 : Int32)), some (vi ((hI h 11 8 x1.toNatClampNeg) * (hI h 11 9 x1.toNatClampNeg)))] [] h _
            refine tr_iload_n (pc := 0) 0 k_fm_wrong_0 rfl rfl ?_
            refine tr_iload_n (pc := 1) 1 k_fm_wrong_1 rfl rfl ?_
            refine tr_icmp_ge (pc := 2) 10 k_fm_wrong_2 (by decide) (fun q => ?_) (fun q => ?_)
            · replace hv := hv.1 q
              refine tr_iload_n (pc := 10) 0 k_fm_wrong_10 rfl rfl ?_
              refine tr_iload_n (pc := 11) 2 k_fm_wrong_11 rfl rfl ?_
              refine tr_icmp_le (pc := 12) 20 k_fm_wrong_12 (by decide) (fun q => ?_) (fun q => ?_)
              · replace hv := hv.1 q
                refine tr_iconst (pc := 20) (v := 0) k_fm_wrong_20 (by decide) ?_
                refine tr_ireturn (pc := 21) k_fm_wrong_21 rfl rfl ?_
                show mT g me_fm_set (d + 2) 0 0 60 [some (vr 10 0), some (vi x1), some (vi x2), some (vi x3), none, none] [vi (0 : Int32)] h _
                refine tr_istore (pc := 60) k_fm_set_60 (by decide) rfl ?_
                show mT g me_fm_set (d + 2) 0 0 62 [some (vr 10 0), some (vi x1), some (vi x2), some (vi x3), some (vi (0 : Int32)), none] [] h _
                refine tr_iload (pc := 62) k_fm_set_62 rfl ?_
                refine tr_if_eq (pc := 64) 74 k_fm_set_64 (by decide) (fun _ => ?_) (fun q => absurd q (by decide))
                refine tr_iload_n (pc := 74) 2 k_fm_set_74 rfl rfl ?_
                refine tr_if_ne (pc := 75) 87 k_fm_set_75 (by decide) (fun q => ?_) (fun q => ?_)
                · replace hv := hv.1 q
                  refine tr_aload_n (pc := 87) 0 k_fm_set_87 rfl rfl ?_
                  refine tr_getP (pc := 88) k_fm_set_88 fl_fm_29 rfl (Eq.trans rfl (hsk.1 10 12 _ rfl)) ?_
                  refine tr_iload_n (pc := 91) 1 k_fm_set_91 rfl rfl ?_
                  refine tr_ialdx (pc := 92) k_fm_set_92 (mvin (hsk.2.1 11 11 _ rfl) hv.1) rfl ?_
                  replace hv := hv.2
                  refine tr_istore (pc := 93) k_fm_set_93 (by decide) rfl ?_
                  show mT g me_fm_set (d + 2) 0 0 95 [some (vr 10 0), some (vi x1), some (vi x2), some (vi x3), some (vi (0 : Int32)), some (vi (hI h 11 11 x1.toNatClampNeg))] [] h _
                  refine tr_iload_n (pc := 95) 2 k_fm_set_95 rfl rfl ?_
                  refine tr_if_ne (pc := 96) 109 k_fm_set_96 (by decide) (fun q => ?_) (fun q => ?_)
                  · replace hv := hv.1 q
                    refine tr_aload_n (pc := 109) 0 k_fm_set_109 rfl rfl ?_
                    refine tr_getP (pc := 110) k_fm_set_110 fl_fm_29 rfl (Eq.trans rfl (hsk.1 10 12 _ rfl)) ?_
                    refine tr_iload_n (pc := 113) 1 k_fm_set_113 rfl rfl ?_
                    refine tr_iload_n (pc := 114) 3 k_fm_set_114 rfl rfl ?_
                    refine tr_iast (pc := 115) k_fm_set_115 (mvin (hsk.2.1 11 11 _ rfl) hv.1) ?_
                    replace hv := hv.2
                    refine tr_aload_n (pc := 116) 0 k_fm_set_116 rfl rfl ?_
                    refine tr_callV (pc := 117) (d' := d + 1) (mc' := 0) (ms' := 0) [] k_fm_set_117 ca_fm_changes ml_fm_152 ii_fm_changes ⟨by decide, rfl⟩ pa_fm_changes (by omega) (by omega) (by omega) rfl (Nat.le_of_ble_eq_true rfl) (Nat.le_of_ble_eq_true rfl) (Qk := fun v h9 => mT g me_fm_set (d + 2) 0 0 120 [some (vr 10 0), some (vi x1), some (vi x2), some (vi x3), some (vi (0 : Int32)), some (vi (hI h 11 11 x1.toNatClampNeg))] (v.toList ++ []) h9 _) ?_ (fun _ _ z => z)
                    show mT g me_fm_changes (d + 1) 0 0 0 [some (vr 10 0)] [] (setI h 11 11 x1.toNatClampNeg x3) _
                    refine tr_aload_n (pc := 0) 0 k_fm_changes_0 rfl rfl ?_
                    refine tr_iconst (pc := 1) (v := 0) k_fm_changes_1 (by decide) ?_
                    refine tr_putI (pc := 2) k_fm_changes_2 fl_fm_137 (Or.inl rfl) rfl ⟨rfl, rfl⟩ ?_
                    refine tr_return (pc := 5) k_fm_changes_5 rfl ?_
                    show mT g me_fm_set (d + 2) 0 0 120 [some (vr 10 0), some (vi x1), some (vi x2), some (vi x3), some (vi (0 : Int32)), some (vi (hI h 11 11 x1.toNatClampNeg))] [] (setI (setI h 11 11 x1.toNatClampNeg x3) 10 0 55 (0 : Int32)) _
                    refine tr_iload (pc := 120) k_fm_set_120 rfl ?_
                    refine tr_ireturn (pc := 122) k_fm_set_122 rfl rfl ?_
                    exact hv
                  · replace hv := hv.2 q
                    refine tr_aload_n (pc := 99) 0 k_fm_set_99 rfl rfl ?_
                    refine tr_getP (pc := 100) k_fm_set_100 fl_fm_26 rfl (Eq.trans rfl (hsk.1 10 11 _ rfl)) ?_
                    refine tr_iload_n (pc := 103) 1 k_fm_set_103 rfl rfl ?_
                    refine tr_iload_n (pc := 104) 3 k_fm_set_104 rfl rfl ?_
                    refine tr_iast (pc := 105) k_fm_set_105 (mvin (hsk.2.1 11 10 _ rfl) hv.1) ?_
                    replace hv := hv.2
                    refine tr_goto (pc := 106) 116 k_fm_set_106 (by decide) ?_
                    refine tr_aload_n (pc := 116) 0 k_fm_set_116 rfl rfl ?_
                    refine tr_callV (pc := 117) (d' := d + 1) (mc' := 0) (ms' := 0) [] k_fm_set_117 ca_fm_changes ml_fm_152 ii_fm_changes ⟨by decide, rfl⟩ pa_fm_changes (by omega) (by omega) (by omega) rfl (Nat.le_of_ble_eq_true rfl) (Nat.le_of_ble_eq_true rfl) (Qk := fun v h9 => mT g me_fm_set (d + 2) 0 0 120 [some (vr 10 0), some (vi x1), some (vi x2), some (vi x3), some (vi (0 : Int32)), some (vi (hI h 11 11 x1.toNatClampNeg))] (v.toList ++ []) h9 _) ?_ (fun _ _ z => z)
                    show mT g me_fm_changes (d + 1) 0 0 0 [some (vr 10 0)] [] (setI h 11 10 x1.toNatClampNeg x3) _
                    refine tr_aload_n (pc := 0) 0 k_fm_changes_0 rfl rfl ?_
                    refine tr_iconst (pc := 1) (v := 0) k_fm_changes_1 (by decide) ?_
                    refine tr_putI (pc := 2) k_fm_changes_2 fl_fm_137 (Or.inl rfl) rfl ⟨rfl, rfl⟩ ?_
                    refine tr_return (pc := 5) k_fm_changes_5 rfl ?_
                    show mT g me_fm_set (d + 2) 0 0 120 [some (vr 10 0), some (vi x1), some (vi x2), some (vi x3), some (vi (0 : Int32)), some (vi (hI h 11 11 x1.toNatClampNeg))] [] (setI (setI h 11 10 x1.toNatClampNeg x3) 10 0 55 (0 : Int32)) _
                    refine tr_iload (pc := 120) k_fm_set_120 rfl ?_
                    refine tr_ireturn (pc := 122) k_fm_set_122 rfl rfl ?_
                    exact hv
                · replace hv := hv.2 q
                  refine tr_aload_n (pc := 78) 0 k_fm_set_78 rfl rfl ?_
                  refine tr_getP (pc := 79) k_fm_set_79 fl_fm_26 rfl (Eq.trans rfl (hsk.1 10 11 _ rfl)) ?_
                  refine tr_iload_n (pc := 82) 1 k_fm_set_82 rfl rfl ?_
                  refine tr_ialdx (pc := 83) k_fm_set_83 (mvin (hsk.2.1 11 10 _ rfl) hv.1) rfl ?_
                  replace hv := hv.2
                  refine tr_goto (pc := 84) 93 k_fm_set_84 (by decide) ?_
                  refine tr_istore (pc := 93) k_fm_set_93 (by decide) rfl ?_
                  show mT g me_fm_set (d + 2) 0 0 95 [some (vr 10 0), some (vi x1), some (vi x2), some (vi x3), some (vi (0 : Int32)), some (vi (hI h 11 10 x1.toNatClampNeg))] [] h _
                  refine tr_iload_n (pc := 95) 2 k_fm_set_95 rfl rfl ?_
                  refine tr_if_ne (pc := 96) 109 k_fm_set_96 (by decide) (fun q => ?_) (fun q => ?_)
                  · replace hv := hv.1 q
                    refine tr_aload_n (pc := 109) 0 k_fm_set_109 rfl rfl ?_
                    refine tr_getP (pc := 110) k_fm_set_110 fl_fm_29 rfl (Eq.trans rfl (hsk.1 10 12 _ rfl)) ?_
                    refine tr_iload_n (pc := 113) 1 k_fm_set_113 rfl rfl ?_
                    refine tr_iload_n (pc := 114) 3 k_fm_set_114 rfl rfl ?_
                    refine tr_iast (pc := 115) k_fm_set_115 (mvin (hsk.2.1 11 11 _ rfl) hv.1) ?_
                    replace hv := hv.2
                    refine tr_aload_n (pc := 116) 0 k_fm_set_116 rfl rfl ?_
                    refine tr_callV (pc := 117) (d' := d + 1) (mc' := 0) (ms' := 0) [] k_fm_set_117 ca_fm_changes ml_fm_152 ii_fm_changes ⟨by decide, rfl⟩ pa_fm_changes (by omega) (by omega) (by omega) rfl (Nat.le_of_ble_eq_true rfl) (Nat.le_of_ble_eq_true rfl) (Qk := fun v h9 => mT g me_fm_set (d + 2) 0 0 120 [some (vr 10 0), some (vi x1), some (vi x2), some (vi x3), some (vi (0 : Int32)), some (vi (hI h 11 10 x1.toNatClampNeg))] (v.toList ++ []) h9 _) ?_ (fun _ _ z => z)
                    show mT g me_fm_changes (d + 1) 0 0 0 [some (vr 10 0)] [] (setI h 11 11 x1.toNatClampNeg x3) _
                    refine tr_aload_n (pc := 0) 0 k_fm_changes_0 rfl rfl ?_
                    refine tr_iconst (pc := 1) (v := 0) k_fm_changes_1 (by decide) ?_
                    refine tr_putI (pc := 2) k_fm_changes_2 fl_fm_137 (Or.inl rfl) rfl ⟨rfl, rfl⟩ ?_
                    refine tr_return (pc := 5) k_fm_changes_5 rfl ?_
                    show mT g me_fm_set (d + 2) 0 0 120 [some (vr 10 0), some (vi x1), some (vi x2), some (vi x3), some (vi (0 : Int32)), some (vi (hI h 11 10 x1.toNatClampNeg))] [] (setI (setI h 11 11 x1.toNatClampNeg x3) 10 0 55 (0 : Int32)) _
                    refine tr_iload (pc := 120) k_fm_set_120 rfl ?_
                    refine tr_ireturn (pc := 122) k_fm_set_122 rfl rfl ?_
                    exact hv
                  · replace hv := hv.2 q
                    refine tr_aload_n (pc := 99) 0 k_fm_set_99 rfl rfl ?_
                    refine tr_getP (pc := 100) k_fm_set_100 fl_fm_26 rfl (Eq.trans rfl (hsk.1 10 11 _ rfl)) ?_
                    refine tr_iload_n (pc := 103) 1 k_fm_set_103 rfl rfl ?_
                    refine tr_iload_n (pc := 104) 3 k_fm_set_104 rfl rfl ?_
                    refine tr_iast (pc := 105) k_fm_set_105 (mvin (hsk.2.1 11 10 _ rfl) hv.1) ?_
                    replace hv := hv.2
                    refine tr_goto (pc := 106) 116 k_fm_set_106 (by decide) ?_
                    refine tr_aload_n (pc := 116) 0 k_fm_set_116 rfl rfl ?_
                    refine tr_callV (pc := 117) (d' := d + 1) (mc' := 0) (ms' := 0) [] k_fm_set_117 ca_fm_changes ml_fm_152 ii_fm_changes ⟨by decide, rfl⟩ pa_fm_changes (by omega) (by omega) (by omega) rfl (Nat.le_of_ble_eq_true rfl) (Nat.le_of_ble_eq_true rfl) (Qk := fun v h9 => mT g me_fm_set (d + 2) 0 0 120 [some (vr 10 0), some (vi x1), some (vi x2), some (vi x3), some (vi (0 : Int32)), some (vi (hI h 11 10 x1.toNatClampNeg))] (v.toList ++ []) h9 _) ?_ (fun _ _ z => z)
                    show mT g me_fm_changes (d + 1) 0 0 0 [some (vr 10 0)] [] (setI h 11 10 x1.toNatClampNeg x3) _
                    refine tr_aload_n (pc := 0) 0 k_fm_changes_0 rfl rfl ?_
                    refine tr_iconst (pc := 1) (v := 0) k_fm_changes_1 (by decide) ?_
                    refine tr_putI (pc := 2) k_fm_changes_2 fl_fm_137 (Or.inl rfl) rfl ⟨rfl, rfl⟩ ?_
                    refine tr_return (pc := 5) k_fm_changes_5 rfl ?_
                    show mT g me_fm_set (d + 2) 0 0 120 [some (vr 10 0), some (vi x1), some (vi x2), some (vi x3), some (vi (0 : Int32)), some (vi (hI h 11 10 x1.toNatClampNeg))] [] (setI (setI h 11 10 x1.toNatClampNeg x3) 10 0 55 (0 : Int32)) _
                    refine tr_iload (pc := 120) k_fm_set_120 rfl ?_
                    refine tr_ireturn (pc := 122) k_fm_set_122 rfl rfl ?_
                    exact hv
              · replace hv := hv.2 q
                refine tr_bipush (pc := 15) (v := -6) k_fm_wrong_15 (by decide) ?_
                refine tr_goto (pc := 17) 21 k_fm_wrong_17 (by decide) ?_
                refine tr_ireturn (pc := 21) k_fm_wrong_21 rfl rfl ?_
                show mT g me_fm_set (d + 2) 0 0 60 [some (vr 10 0), some (vi x1), some (vi x2), some (vi x3), none, none] [vi (-6 : Int32)] h _
                refine tr_istore (pc := 60) k_fm_set_60 (by decide) rfl ?_
                show mT g me_fm_set (d + 2) 0 0 62 [some (vr 10 0), some (vi x1), some (vi x2), some (vi x3), some (vi (-6 : Int32)), none] [] h _
                refine tr_iload (pc := 62) k_fm_set_62 rfl ?_
                refine tr_if_eq (pc := 64) 74 k_fm_set_64 (by decide) (fun q => absurd q (by decide)) (fun _ => ?_)
                refine tr_aload_n (pc := 67) 0 k_fm_set_67 rfl rfl ?_
                refine tr_iload (pc := 68) k_fm_set_68 rfl ?_
                refine tr_callV (pc := 70) (d' := d + 1) (mc' := 0) (ms' := 0) [vi (-6 : Int32)] k_fm_set_70 ca_fm_refuse ml_fm_133 ii_fm_refuse ⟨by decide, rfl⟩ pa_fm_refuse (by omega) (by omega) (by omega) rfl (Nat.le_of_ble_eq_true rfl) (Nat.le_of_ble_eq_true rfl) hv (fun v h9 hv => ?_)
                obtain ⟨y10, rfl, hv⟩ := hv
                obtain ⟨h9, eh⟩ : ∃ z, z = h9 := ⟨_, rfl⟩
                subst eh
                obtain ⟨hskh9, hv⟩ := hv
                show mT g me_fm_set (d + 2) 0 0 73 [some (vr 10 0), some (vi x1), some (vi x2), some (vi x3), some (vi (-6 : Int32)), none] [vi y10] h9 _
                refine tr_ireturn (pc := 73) k_fm_set_73 rfl rfl ?_
                exact hv
            · replace hv := hv.2 q
              refine tr_bipush (pc := 5) (v := -4) k_fm_wrong_5 (by decide) ?_
              refine tr_goto (pc := 7) 21 k_fm_wrong_7 (by decide) ?_
              refine tr_ireturn (pc := 21) k_fm_wrong_21 rfl rfl ?_
              show mT g me_fm_set (d + 2) 0 0 60 [some (vr 10 0), some (vi x1), some (vi x2), some (vi x3), none, none] [vi (-4 : Int32)] h _
              refine tr_istore (pc := 60) k_fm_set_60 (by decide) rfl ?_
              show mT g me_fm_set (d + 2) 0 0 62 [some (vr 10 0), some (vi x1), some (vi x2), some (vi x3), some (vi (-4 : Int32)), none] [] h _
              refine tr_iload (pc := 62) k_fm_set_62 rfl ?_
              refine tr_if_eq (pc := 64) 74 k_fm_set_64 (by decide) (fun q => absurd q (by decide)) (fun _ => ?_)
              refine tr_aload_n (pc := 67) 0 k_fm_set_67 rfl rfl ?_
              refine tr_iload (pc := 68) k_fm_set_68 rfl ?_
              refine tr_callV (pc := 70) (d' := d + 1) (mc' := 0) (ms' := 0) [vi (-4 : Int32)] k_fm_set_70 ca_fm_refuse ml_fm_133 ii_fm_refuse ⟨by decide, rfl⟩ pa_fm_refuse (by omega) (by omega) (by omega) rfl (Nat.le_of_ble_eq_true rfl) (Nat.le_of_ble_eq_true rfl) hv (fun v h9 hv => ?_)
              obtain ⟨y12, rfl, hv⟩ := hv
              obtain ⟨h11, eh⟩ : ∃ z, z = h9 := ⟨_, rfl⟩
              subst eh
              obtain ⟨hskh11, hv⟩ := hv
              show mT g me_fm_set (d + 2) 0 0 73 [some (vr 10 0), some (vi x1), some (vi x2), some (vi x3), some (vi (-4 : Int32)), none] [vi y12] h11 _
              refine tr_ireturn (pc := 73) k_fm_set_73 rfl rfl ?_
              exact hv
          · replace hv := hv.2 q
            refine tr_sipush (pc := 38) (v := 500) k_fm_set_38 (by decide) ?_
            refine tr_goto (pc := 41) 57 k_fm_set_41 (by decide) ?_
            refine tr_callS (pc := 57) (d' := d + 1) (mc' := 0) (ms' := 0) [vi x3, vi (0 : Int32), vi (500 : Int32)] k_fm_set_57 ca_fm_wrong ml_fm_148 is_fm_wrong pa_fm_wrong (by omega) (by omega) (by omega) rfl (Nat.le_of_ble_eq_true rfl) (Nat.le_of_ble_eq_true rfl) (Qk := fun v h9 => mT g me_fm_set (d + 2) 0 0 60 [some (vr 10 0), some (vi x1), some (vi x2), some (vi x3), none, none] (v.toList ++ []) h9 _) ?_ (fun _ _ z => z)
            show mT g me_fm_wrong (d + 1) 0 0 0 [some (vi x3), some (vi (0 : Int32)), some (vi (500 : Int32))] [] h _
            refine tr_iload_n (pc := 0) 0 k_fm_wrong_0 rfl rfl ?_
            refine tr_iload_n (pc := 1) 1 k_fm_wrong_1 rfl rfl ?_
            refine tr_icmp_ge (pc := 2) 10 k_fm_wrong_2 (by decide) (fun q => ?_) (fun q => ?_)
            · replace hv := hv.1 q
              refine tr_iload_n (pc := 10) 0 k_fm_wrong_10 rfl rfl ?_
              refine tr_iload_n (pc := 11) 2 k_fm_wrong_11 rfl rfl ?_
              refine tr_icmp_le (pc := 12) 20 k_fm_wrong_12 (by decide) (fun q => ?_) (fun q => ?_)
              · replace hv := hv.1 q
                refine tr_iconst (pc := 20) (v := 0) k_fm_wrong_20 (by decide) ?_
                refine tr_ireturn (pc := 21) k_fm_wrong_21 rfl rfl ?_
                show mT g me_fm_set (d + 2) 0 0 60 [some (vr 10 0), some (vi x1), some (vi x2), some (vi x3), none, none] [vi (0 : Int32)] h _
                refine tr_istore (pc := 60) k_fm_set_60 (by decide) rfl ?_
                show mT g me_fm_set (d + 2) 0 0 62 [some (vr 10 0), some (vi x1), some (vi x2), some (vi x3), some (vi (0 : Int32)), none] [] h _
                refine tr_iload (pc := 62) k_fm_set_62 rfl ?_
                refine tr_if_eq (pc := 64) 74 k_fm_set_64 (by decide) (fun _ => ?_) (fun q => absurd q (by decide))
                refine tr_iload_n (pc := 74) 2 k_fm_set_74 rfl rfl ?_
                refine tr_if_ne (pc := 75) 87 k_fm_set_75 (by decide) (fun q => ?_) (fun q => ?_)
                · replace hv := hv.1 q
                  refine tr_aload_n (pc := 87) 0 k_fm_set_87 rfl rfl ?_
                  refine tr_getP (pc := 88) k_fm_set_88 fl_fm_29 rfl (Eq.trans rfl (hsk.1 10 12 _ rfl)) ?_
                  refine tr_iload_n (pc := 91) 1 k_fm_set_91 rfl rfl ?_
                  refine tr_ialdx (pc := 92) k_fm_set_92 (mvin (hsk.2.1 11 11 _ rfl) hv.1) rfl ?_
                  replace hv := hv.2
                  refine tr_istore (pc := 93) k_fm_set_93 (by decide) rfl ?_
                  show mT g me_fm_set (d + 2) 0 0 95 [some (vr 10 0), some (vi x1), some (vi x2), some (vi x3), some (vi (0 : Int32)), some (vi (hI h 11 11 x1.toNatClampNeg))] [] h _
                  refine tr_iload_n (pc := 95) 2 k_fm_set_95 rfl rfl ?_
                  refine tr_if_ne (pc := 96) 109 k_fm_set_96 (by decide) (fun q => ?_) (fun q => ?_)
                  · replace hv := hv.1 q
                    refine tr_aload_n (pc := 109) 0 k_fm_set_109 rfl rfl ?_
                    refine tr_getP (pc := 110) k_fm_set_110 fl_fm_29 rfl (Eq.trans rfl (hsk.1 10 12 _ rfl)) ?_
                    refine tr_iload_n (pc := 113) 1 k_fm_set_113 rfl rfl ?_
                    refine tr_iload_n (pc := 114) 3 k_fm_set_114 rfl rfl ?_
                    refine tr_iast (pc := 115) k_fm_set_115 (mvin (hsk.2.1 11 11 _ rfl) hv.1) ?_
                    replace hv := hv.2
                    refine tr_aload_n (pc := 116) 0 k_fm_set_116 rfl rfl ?_
                    refine tr_callV (pc := 117) (d' := d + 1) (mc' := 0) (ms' := 0) [] k_fm_set_117 ca_fm_changes ml_fm_152 ii_fm_changes ⟨by decide, rfl⟩ pa_fm_changes (by omega) (by omega) (by omega) rfl (Nat.le_of_ble_eq_true rfl) (Nat.le_of_ble_eq_true rfl) (Qk := fun v h9 => mT g me_fm_set (d + 2) 0 0 120 [some (vr 10 0), some (vi x1), some (vi x2), some (vi x3), some (vi (0 : Int32)), some (vi (hI h 11 11 x1.toNatClampNeg))] (v.toList ++ []) h9 _) ?_ (fun _ _ z => z)
                    show mT g me_fm_changes (d + 1) 0 0 0 [some (vr 10 0)] [] (setI h 11 11 x1.toNatClampNeg x3) _
                    refine tr_aload_n (pc := 0) 0 k_fm_changes_0 rfl rfl ?_
                    refine tr_iconst (pc := 1) (v := 0) k_fm_changes_1 (by decide) ?_
                    refine tr_putI (pc := 2) k_fm_changes_2 fl_fm_137 (Or.inl rfl) rfl ⟨rfl, rfl⟩ ?_
                    refine tr_return (pc := 5) k_fm_changes_5 rfl ?_
                    show mT g me_fm_set (d + 2) 0 0 120 [some (vr 10 0), some (vi x1), some (vi x2), some (vi x3), some (vi (0 : Int32)), some (vi (hI h 11 11 x1.toNatClampNeg))] [] (setI (setI h 11 11 x1.toNatClampNeg x3) 10 0 55 (0 : Int32)) _
                    refine tr_iload (pc := 120) k_fm_set_120 rfl ?_
                    refine tr_ireturn (pc := 122) k_fm_set_122 rfl rfl ?_
                    exact hv
                  · replace hv := hv.2 q
                    refine tr_aload_n (pc := 99) 0 k_fm_set_99 rfl rfl ?_
                    refine tr_getP (pc := 100) k_fm_set_100 fl_fm_26 rfl (Eq.trans rfl (hsk.1 10 11 _ rfl)) ?_
                    refine tr_iload_n (pc := 103) 1 k_fm_set_103 rfl rfl ?_
                    refine tr_iload_n (pc := 104) 3 k_fm_set_104 rfl rfl ?_
                    refine tr_iast (pc := 105) k_fm_set_105 (mvin (hsk.2.1 11 10 _ rfl) hv.1) ?_
                    replace hv := hv.2
                    refine tr_goto (pc := 106) 116 k_fm_set_106 (by decide) ?_
                    refine tr_aload_n (pc := 116) 0 k_fm_set_116 rfl rfl ?_
                    refine tr_callV (pc := 117) (d' := d + 1) (mc' := 0) (ms' := 0) [] k_fm_set_117 ca_fm_changes ml_fm_152 ii_fm_changes ⟨by decide, rfl⟩ pa_fm_changes (by omega) (by omega) (by omega) rfl (Nat.le_of_ble_eq_true rfl) (Nat.le_of_ble_eq_true rfl) (Qk := fun v h9 => mT g me_fm_set (d + 2) 0 0 120 [some (vr 10 0), some (vi x1), some (vi x2), some (vi x3), some (vi (0 : Int32)), some (vi (hI h 11 11 x1.toNatClampNeg))] (v.toList ++ []) h9 _) ?_ (fun _ _ z => z)
                    show mT g me_fm_changes (d + 1) 0 0 0 [some (vr 10 0)] [] (setI h 11 10 x1.toNatClampNeg x3) _
                    refine tr_aload_n (pc := 0) 0 k_fm_changes_0 rfl rfl ?_
                    refine tr_iconst (pc := 1) (v := 0) k_fm_changes_1 (by decide) ?_
                    refine tr_putI (pc := 2) k_fm_changes_2 fl_fm_137 (Or.inl rfl) rfl ⟨rfl, rfl⟩ ?_
                    refine tr_return (pc := 5) k_fm_changes_5 rfl ?_
                    show mT g me_fm_set (d + 2) 0 0 120 [some (vr 10 0), some (vi x1), some (vi x2), some (vi x3), some (vi (0 : Int32)), some (vi (hI h 11 11 x1.toNatClampNeg))] [] (setI (setI h 11 10 x1.toNatClampNeg x3) 10 0 55 (0 : Int32)) _
                    refine tr_iload (pc := 120) k_fm_set_120 rfl ?_
                    refine tr_ireturn (pc := 122) k_fm_set_122 rfl rfl ?_
                    exact hv
                · replace hv := hv.2 q
                  refine tr_aload_n (pc := 78) 0 k_fm_set_78 rfl rfl ?_
                  refine tr_getP (pc := 79) k_fm_set_79 fl_fm_26 rfl (Eq.trans rfl (hsk.1 10 11 _ rfl)) ?_
                  refine tr_iload_n (pc := 82) 1 k_fm_set_82 rfl rfl ?_
                  refine tr_ialdx (pc := 83) k_fm_set_83 (mvin (hsk.2.1 11 10 _ rfl) hv.1) rfl ?_
                  replace hv := hv.2
                  refine tr_goto (pc := 84) 93 k_fm_set_84 (by decide) ?_
                  refine tr_istore (pc := 93) k_fm_set_93 (by decide) rfl ?_
                  show mT g me_fm_set (d + 2) 0 0 95 [some (vr 10 0), some (vi x1), some (vi x2), some (vi x3), some (vi (0 : Int32)), some (vi (hI h 11 10 x1.toNatClampNeg))] [] h _
                  refine tr_iload_n (pc := 95) 2 k_fm_set_95 rfl rfl ?_
                  refine tr_if_ne (pc := 96) 109 k_fm_set_96 (by decide) (fun q => ?_) (fun q => ?_)
                  · replace hv := hv.1 q
                    refine tr_aload_n (pc := 109) 0 k_fm_set_109 rfl rfl ?_
                    refine tr_getP (pc := 110) k_fm_set_110 fl_fm_29 rfl (Eq.trans rfl (hsk.1 10 12 _ rfl)) ?_
                    refine tr_iload_n (pc := 113) 1 k_fm_set_113 rfl rfl ?_
                    refine tr_iload_n (pc := 114) 3 k_fm_set_114 rfl rfl ?_
                    refine tr_iast (pc := 115) k_fm_set_115 (mvin (hsk.2.1 11 11 _ rfl) hv.1) ?_
                    replace hv := hv.2
                    refine tr_aload_n (pc := 116) 0 k_fm_set_116 rfl rfl ?_
                    refine tr_callV (pc := 117) (d' := d + 1) (mc' := 0) (ms' := 0) [] k_fm_set_117 ca_fm_changes ml_fm_152 ii_fm_changes ⟨by decide, rfl⟩ pa_fm_changes (by omega) (by omega) (by omega) rfl (Nat.le_of_ble_eq_true rfl) (Nat.le_of_ble_eq_true rfl) (Qk := fun v h9 => mT g me_fm_set (d + 2) 0 0 120 [some (vr 10 0), some (vi x1), some (vi x2), some (vi x3), some (vi (0 : Int32)), some (vi (hI h 11 10 x1.toNatClampNeg))] (v.toList ++ []) h9 _) ?_ (fun _ _ z => z)
                    show mT g me_fm_changes (d + 1) 0 0 0 [some (vr 10 0)] [] (setI h 11 11 x1.toNatClampNeg x3) _
                    refine tr_aload_n (pc := 0) 0 k_fm_changes_0 rfl rfl ?_
                    refine tr_iconst (pc := 1) (v := 0) k_fm_changes_1 (by decide) ?_
                    refine tr_putI (pc := 2) k_fm_changes_2 fl_fm_137 (Or.inl rfl) rfl ⟨rfl, rfl⟩ ?_
                    refine tr_return (pc := 5) k_fm_changes_5 rfl ?_
                    show mT g me_fm_set (d + 2) 0 0 120 [some (vr 10 0), some (vi x1), some (vi x2), some (vi x3), some (vi (0 : Int32)), some (vi (hI h 11 10 x1.toNatClampNeg))] [] (setI (setI h 11 11 x1.toNatClampNeg x3) 10 0 55 (0 : Int32)) _
                    refine tr_iload (pc := 120) k_fm_set_120 rfl ?_
                    refine tr_ireturn (pc := 122) k_fm_set_122 rfl rfl ?_
                    exact hv
                  · replace hv := hv.2 q
                    refine tr_aload_n (pc := 99) 0 k_fm_set_99 rfl rfl ?_
                    refine tr_getP (pc := 100) k_fm_set_100 fl_fm_26 rfl (Eq.trans rfl (hsk.1 10 11 _ rfl)) ?_
                    refine tr_iload_n (pc := 103) 1 k_fm_set_103 rfl rfl ?_
                    refine tr_iload_n (pc := 104) 3 k_fm_set_104 rfl rfl ?_
                    refine tr_iast (pc := 105) k_fm_set_105 (mvin (hsk.2.1 11 10 _ rfl) hv.1) ?_
                    replace hv := hv.2
                    refine tr_goto (pc := 106) 116 k_fm_set_106 (by decide) ?_
                    refine tr_aload_n (pc := 116) 0 k_fm_set_116 rfl rfl ?_
                    refine tr_callV (pc := 117) (d' := d + 1) (mc' := 0) (ms' := 0) [] k_fm_set_117 ca_fm_changes ml_fm_152 ii_fm_changes ⟨by decide, rfl⟩ pa_fm_changes (by omega) (by omega) (by omega) rfl (Nat.le_of_ble_eq_true rfl) (Nat.le_of_ble_eq_true rfl) (Qk := fun v h9 => mT g me_fm_set (d + 2) 0 0 120 [some (vr 10 0), some (vi x1), some (vi x2), some (vi x3), some (vi (0 : Int32)), some (vi (hI h 11 10 x1.toNatClampNeg))] (v.toList ++ []) h9 _) ?_ (fun _ _ z => z)
                    show mT g me_fm_changes (d + 1) 0 0 0 [some (vr 10 0)] [] (setI h 11 10 x1.toNatClampNeg x3) _
                    refine tr_aload_n (pc := 0) 0 k_fm_changes_0 rfl rfl ?_
                    refine tr_iconst (pc := 1) (v := 0) k_fm_changes_1 (by decide) ?_
                    refine tr_putI (pc := 2) k_fm_changes_2 fl_fm_137 (Or.inl rfl) rfl ⟨rfl, rfl⟩ ?_
                    refine tr_return (pc := 5) k_fm_changes_5 rfl ?_
                    show mT g me_fm_set (d + 2) 0 0 120 [some (vr 10 0), some (vi x1), some (vi x2), some (vi x3), some (vi (0 : Int32)), some (vi (hI h 11 10 x1.toNatClampNeg))] [] (setI (setI h 11 10 x1.toNatClampNeg x3) 10 0 55 (0 : Int32)) _
                    refine tr_iload (pc := 120) k_fm_set_120 rfl ?_
                    refine tr_ireturn (pc := 122) k_fm_set_122 rfl rfl ?_
                    exact hv
              · replace hv := hv.2 q
                refine tr_bipush (pc := 15) (v := -6) k_fm_wrong_15 (by decide) ?_
                refine tr_goto (pc := 17) 21 k_fm_wrong_17 (by decide) ?_
                refine tr_ireturn (pc := 21) k_fm_wrong_21 rfl rfl ?_
                show mT g me_fm_set (d + 2) 0 0 60 [some (vr 10 0), some (vi x1), some (vi x2), some (vi x3), none, none] [vi (-6 : Int32)] h _
                refine tr_istore (pc := 60) k_fm_set_60 (by decide) rfl ?_
                show mT g me_fm_set (d + 2) 0 0 62 [some (vr 10 0), some (vi x1), some (vi x2), some (vi x3), some (vi (-6 : Int32)), none] [] h _
                refine tr_iload (pc := 62) k_fm_set_62 rfl ?_
                refine tr_if_eq (pc := 64) 74 k_fm_set_64 (by decide) (fun q => absurd q (by decide)) (fun _ => ?_)
                refine tr_aload_n (pc := 67) 0 k_fm_set_67 rfl rfl ?_
                refine tr_iload (pc := 68) k_fm_set_68 rfl ?_
                refine tr_callV (pc := 70) (d' := d + 1) (mc' := 0) (ms' := 0) [vi (-6 : Int32)] k_fm_set_70 ca_fm_refuse ml_fm_133 ii_fm_refuse ⟨by decide, rfl⟩ pa_fm_refuse (by omega) (by omega) (by omega) rfl (Nat.le_of_ble_eq_true rfl) (Nat.le_of_ble_eq_true rfl) hv (fun v h9 hv => ?_)
                obtain ⟨y14, rfl, hv⟩ := hv
                obtain ⟨h13, eh⟩ : ∃ z, z = h9 := ⟨_, rfl⟩
                subst eh
                obtain ⟨hskh13, hv⟩ := hv
                show mT g me_fm_set (d + 2) 0 0 73 [some (vr 10 0), some (vi x1), some (vi x2), some (vi x3), some (vi (-6 : Int32)), none] [vi y14] h13 _
                refine tr_ireturn (pc := 73) k_fm_set_73 rfl rfl ?_
                exact hv
            · replace hv := hv.2 q
              refine tr_bipush (pc := 5) (v := -4) k_fm_wrong_5 (by decide) ?_
              refine tr_goto (pc := 7) 21 k_fm_wrong_7 (by decide) ?_
              refine tr_ireturn (pc := 21) k_fm_wrong_21 rfl rfl ?_
              show mT g me_fm_set (d + 2) 0 0 60 [some (vr 10 0), some (vi x1), some (vi x2), some (vi x3), none, none] [vi (-4 : Int32)] h _
              refine tr_istore (pc := 60) k_fm_set_60 (by decide) rfl ?_
              show mT g me_fm_set (d + 2) 0 0 62 [some (vr 10 0), some (vi x1), some (vi x2), some (vi x3), some (vi (-4 : Int32)), none] [] h _
              refine tr_iload (pc := 62) k_fm_set_62 rfl ?_
              refine tr_if_eq (pc := 64) 74 k_fm_set_64 (by decide) (fun q => absurd q (by decide)) (fun _ => ?_)
              refine tr_aload_n (pc := 67) 0 k_fm_set_67 rfl rfl ?_
              refine tr_iload (pc := 68) k_fm_set_68 rfl ?_
              refine tr_callV (pc := 70) (d' := d + 1) (mc' := 0) (ms' := 0) [vi (-4 : Int32)] k_fm_set_70 ca_fm_refuse ml_fm_133 ii_fm_refuse ⟨by decide, rfl⟩ pa_fm_refuse (by omega) (by omega) (by omega) rfl (Nat.le_of_ble_eq_true rfl) (Nat.le_of_ble_eq_true rfl) hv (fun v h9 hv => ?_)
              obtain ⟨y16, rfl, hv⟩ := hv
              obtain ⟨h15, eh⟩ : ∃ z, z = h9 := ⟨_, rfl⟩
              subst eh
              obtain ⟨hskh15, hv⟩ := hv
              show mT g me_fm_set (d + 2) 0 0 73 [some (vr 10 0), some (vi x1), some (vi x2), some (vi x3), some (vi (-4 : Int32)), none] [vi y16] h15 _
              refine tr_ireturn (pc := 73) k_fm_set_73 rfl rfl ?_
              exact hv
theorem v_fm_joint_0 {g : mG} {d : Nat} (x1 : Int32) (x2 : Int32) (x3 : Int32) (x4 : Int32) (x5 : Int32) {h : mH} {Q : Option mV → mH → Prop} (hsk : mSK h) (hv : ((x1 = 0 → ((x2 < 0 → mT g me_fm_refuse (d + 1) 0 0 0 [some (vr 10 0), some (vi (-1 : Int32))] [] h (fun v h1 => ∃ y2, v = some (vi y2) ∧ mSK h1 ∧ Q (some (vi y2)) h1)) ∧ (¬ x2 < 0 → (((hI h 10 0 3) ≤ x2 → mT g me_fm_refuse (d + 1) 0 0 0 [some (vr 10 0), some (vi (-1 : Int32))] [] h (fun v h3 => ∃ y4, v = some (vi y4) ∧ mSK h3 ∧ Q (some (vi y4)) h3)) ∧ (¬ (hI h 10 0 3) ≤ x2 → ((x3 < 0 → mT g me_fm_refuse (d + 1) 0 0 0 [some (vr 10 0), some (vi (-4 : Int32))] [] h (fun v h5 => ∃ y6, v = some (vi y6) ∧ mSK h5 ∧ Q (some (vi y6)) h5)) ∧ (¬ x3 < 0 → ((x4 < (1 : Int32) → mT g me_fm_refuse (d + 1) 0 0 0 [some (vr 10 0), some (vi (-4 : Int32))] [] h (fun v h7 => ∃ y8, v = some (vi y8) ∧ mSK h7 ∧ Q (some (vi y8)) h7)) ∧ (¬ x4 < (1 : Int32) → (((1 : Int32) ≤ x5 → (((500 : Int32) < x3 → mT g me_fm_refuse (d + 1) 0 0 0 [some (vr 10 0), some (vi (-6 : Int32))] [] h (fun v h9 => ∃ y10, v = some (vi y10) ∧ mSK h9 ∧ Q (some (vi y10)) h9)) ∧ (¬ (500 : Int32) < x3 → (((9 : Int32) < x4 → mT g me_fm_refuse (d + 1) 0 0 0 [some (vr 10 0), some (vi (-6 : Int32))] [] h (fun v h11 => ∃ y12, v = some (vi y12) ∧ mSK h11 ∧ Q (some (vi y12)) h11)) ∧ (¬ (9 : Int32) < x4 → (((200 : Int32) < x5 → mT g me_fm_refuse (d + 1) 0 0 0 [some (vr 10 0), some (vi (-6 : Int32))] [] h (fun v h13 => ∃ y14, v = some (vi y14) ∧ mSK h13 ∧ Q (some (vi y14)) h13)) ∧ (¬ (200 : Int32) < x5 → ((¬ (hI h 10 0 3) = (30 : Int32) → ((¬ x1 = 0 → ((x1 = 0 → (vp_in (hI h 10 0 3) 30 ∧ ((x1 = 0 → (vp_in x2 30 ∧ (vp_in (hI h 10 0 3) 30 ∧ (vp_in (hI h 10 0 3) 30 ∧ (vp_in (hI h 10 0 3) 30 ∧ (vp_in (hI h 10 0 3) 30 ∧ (vp_in (hI h 10 0 3) 30 ∧ Q (some (vi (((hI h 10 0 3) + (1 : Int32)) - (1 : Int32)))) (setI (setI (setI (setI (setI (setI (setI (setI h 11 14 ((hI h 10 0 3).toNatClampNeg) x2) 11 15 ((hI h 10 0 3).toNatClampNeg) (hI h 11 15 x2.toNatClampNeg)) 11 16 ((hI h 10 0 3).toNatClampNeg) x3) 11 17 ((hI h 10 0 3).toNatClampNeg) x4) 11 18 ((hI h 10 0 3).toNatClampNeg) x5) 11 20 ((hI h 10 0 3).toNatClampNeg) (-9 : Int32)) 10 0 3 ((hI h 10 0 3) + (1 : Int32))) 10 0 55 (0 : Int32))))))))) ∧ (¬ x1 = 0 → (vp_in (hI h 10 0 3) 30 ∧ (vp_in (hI h 10 0 3) 30 ∧ (vp_in (hI h 10 0 3) 30 ∧ (vp_in (hI h 10 0 3) 30 ∧ (vp_in (hI h 10 0 3) 30 ∧ Q (some (vi (((hI h 10 0 3) + (1 : Int32)) - (1 : Int32)))) (setI (setI (setI (setI (setI (setI (setI (setI h 11 14 ((hI h 10 0 3).toNatClampNeg) x2) 11 15 ((hI h 10 0 3).toNatClampNeg) x2) 11 16 ((hI h 10 0 3).toNatClampNeg) x3) 11 17 ((hI h 10 0 3).toNatClampNeg) x4) 11 18 ((hI h 10 0 3).toNatClampNeg) x5) 11 20 ((hI h 10 0 3).toNatClampNeg) (-9 : Int32)) 10 0 3 ((hI h 10 0 3) + (1 : Int32))) 10 0 55 (0 : Int32))))))))))) ∧ (¬ x1 = 0 → (vp_in (hI h 10 0 3) 30 ∧ ((x1 = 0 → (vp_in x2 30 ∧ (vp_in (hI h 10 0 3) 30 ∧ (vp_in (hI h 10 0 3) 30 ∧ (vp_in (hI h 10 0 3) 30 ∧ (vp_in (hI h 10 0 3) 30 ∧ (vp_in (hI h 10 0 3) 30 ∧ Q (some (vi (((hI h 10 0 3) + (1 : Int32)) - (1 : Int32)))) (setI (setI (setI (setI (setI (setI (setI (setI h 11 14 ((hI h 10 0 3).toNatClampNeg) (-9 : Int32)) 11 15 ((hI h 10 0 3).toNatClampNeg) (hI h 11 15 x2.toNatClampNeg)) 11 16 ((hI h 10 0 3).toNatClampNeg) x3) 11 17 ((hI h 10 0 3).toNatClampNeg) x4) 11 18 ((hI h 10 0 3).toNatClampNeg) x5) 11 20 ((hI h 10 0 3).toNatClampNeg) (-9 : Int32)) 10 0 3 ((hI h 10 0 3) + (1 : Int32))) 10 0 55 (0 : Int32))))))))) ∧ (¬ x1 = 0 → (vp_in (hI h 10 0 3) 30 ∧ (vp_in (hI h 10 0 3) 30 ∧ (vp_in (hI h 10 0 3) 30 ∧ (vp_in (hI h 10 0 3) 30 ∧ (vp_in (hI h 10 0 3) 30 ∧ Q (some (vi (((hI h 10 0 3) + (1 : Int32)) - (1 : Int32)))) (setI (setI (setI (setI (setI (setI (setI (setI h 11 14 ((hI h 10 0 3).toNatClampNeg) (-9 : Int32)) 11 15 ((hI h 10 0 3).toNatClampNeg) x2) 11 16 ((hI h 10 0 3).toNatClampNeg) x3) 11 17 ((hI h 10 0 3).toNatClampNeg) x4) 11 18 ((hI h 10 0 3).toNatClampNeg) x5) 11 20 ((hI h 10 0 3).toNatClampNeg) (-9 : Int32)) 10 0 3 ((hI h 10 0 3) + (1 : Int32))) 10 0 55 (0 : Int32))))))))))))) ∧ (x1 = 0 → (vp_in x2 30 ∧ (((hI h 12 0 x2.toNatClampNeg) = 0 → ((x1 = 0 → (vp_in (hI h 10 0 3) 30 ∧ ((x1 = 0 → (vp_in x2 30 ∧ (vp_in (hI h 10 0 3) 30 ∧ (vp_in (hI h 10 0 3) 30 ∧ (vp_in (hI h 10 0 3) 30 ∧ (vp_in (hI h 10 0 3) 30 ∧ (vp_in (hI h 10 0 3) 30 ∧ Q (some (vi (((hI h 10 0 3) + (1 : Int32)) - (1 : Int32)))) (setI (setI (setI (setI (setI (setI (setI (setI h 11 14 ((hI h 10 0 3).toNatClampNeg) x2) 11 15 ((hI h 10 0 3).toNatClampNeg) (hI h 11 15 x2.toNatClampNeg)) 11 16 ((hI h 10 0 3).toNatClampNeg) x3) 11 17 ((hI h 10 0 3).toNatClampNeg) x4) 11 18 ((hI h 10 0 3).toNatClampNeg) x5) 11 20 ((hI h 10 0 3).toNatClampNeg) (-9 : Int32)) 10 0 3 ((hI h 10 0 3) + (1 : Int32))) 10 0 55 (0 : Int32))))))))) ∧ (¬ x1 = 0 → (vp_in (hI h 10 0 3) 30 ∧ (vp_in (hI h 10 0 3) 30 ∧ (vp_in (hI h 10 0 3) 30 ∧ (vp_in (hI h 10 0 3) 30 ∧ (vp_in (hI h 10 0 3) 30 ∧ Q (some (vi (((hI h 10 0 3) + (1 : Int32)) - (1 : Int32)))) (setI (setI (setI (setI (setI (setI (setI (setI h 11 14 ((hI h 10 0 3).toNatClampNeg) x2) 11 15 ((hI h 10 0 3).toNatClampNeg) x2) 11 16 ((hI h 10 0 3).toNatClampNeg) x3) 11 17 ((hI h 10 0 3).toNatClampNeg) x4) 11 18 ((hI h 10 0 3).toNatClampNeg) x5) 11 20 ((hI h 10 0 3).toNatClampNeg) (-9 : Int32)) 10 0 3 ((hI h 10 0 3) + (1 : Int32))) 10 0 55 (0 : Int32))))))))))) ∧ (¬ x1 = 0 → (vp_in (hI h 10 0 3) 30 ∧ ((x1 = 0 → (vp_in x2 30 ∧ (vp_in (hI h 10 0 3) 30 ∧ (vp_in (hI h 10 0 3) 30 ∧ (vp_in (hI h 10 0 3) 30 ∧ (vp_in (hI h 10 0 3) 30 ∧ (vp_in (hI h 10 0 3) 30 ∧ Q (some (vi (((hI h 10 0 3) + (1 : Int32)) - (1 : Int32)))) (setI (setI (setI (setI (setI (setI (setI (setI h 11 14 ((hI h 10 0 3).toNatClampNeg) (-9 : Int32)) 11 15 ((hI h 10 0 3).toNatClampNeg) (hI h 11 15 x2.toNatClampNeg)) 11 16 ((hI h 10 0 3).toNatClampNeg) x3) 11 17 ((hI h 10 0 3).toNatClampNeg) x4) 11 18 ((hI h 10 0 3).toNatClampNeg) x5) 11 20 ((hI h 10 0 3).toNatClampNeg) (-9 : Int32)) 10 0 3 ((hI h 10 0 3) + (1 : Int32))) 10 0 55 (0 : Int32))))))))) ∧ (¬ x1 = 0 → (vp_in (hI h 10 0 3) 30 ∧ (vp_in (hI h 10 0 3) 30 ∧ (vp_in (hI h 10 0 3) 30 ∧ (vp_in (hI h 10 0 3) 30 ∧ (vp_in (hI h 10 0 3) 30 ∧ Q (some (vi (((hI h 10 0 3) + (1 : Int32)) - (1 : Int32)))) (setI (setI (setI (setI (setI (setI (setI (setI h 11 14 ((hI h 10 0 3).toNatClampNeg) (-9 : Int32)) 11 15 ((hI h 10 0 3).toNatClampNeg) x2) 11 16 ((hI h 10 0 3).toNatClampNeg) x3) 11 17 ((hI h 10 0 3).toNatClampNeg) x4) 11 18 ((hI h 10 0 3).toNatClampNeg) x5) 11 20 ((hI h 10 0 3).toNatClampNeg) (-9 : Int32)) 10 0 3 ((hI h 10 0 3) + (1 : Int32))) 10 0 55 (0 : Int32))))))))))))) ∧ (¬ (hI h 12 0 x2.toNatClampNeg) = 0 → mT g me_fm_refuse (d + 1) 0 0 0 [some (vr 10 0), some (vi (-3 : Int32))] [] h (fun v h15 => ∃ y16, v = some (vi y16) ∧ mSK h15 ∧ Q (some (vi y16)) h15))))))) ∧ ((hI h 10 0 3) = (30 : Int32) → mT g me_fm_refuse (d + 1) 0 0 0 [some (vr 10 0), some (vi (-6 : Int32))] [] h (fun v h17 => ∃ y18, v = some (vi y18) ∧ mSK h17 ∧ Q (some (vi y18)) h17)))))))))) ∧ (¬ (1 : Int32) ≤ x5 → mT g me_fm_refuse (d + 1) 0 0 0 [some (vr 10 0), some (vi (-4 : Int32))] [] h (fun v h19 => ∃ y20, v = some (vi y20) ∧ mSK h19 ∧ Q (some (vi y20)) h19)))))))))))) ∧ (¬ x1 = 0 → ((x2 < 0 → mT g me_fm_refuse (d + 1) 0 0 0 [some (vr 10 0), some (vi (-1 : Int32))] [] h (fun v h21 => ∃ y22, v = some (vi y22) ∧ mSK h21 ∧ Q (some (vi y22)) h21)) ∧ (¬ x2 < 0 → (((hI h 10 0 2) ≤ x2 → mT g me_fm_refuse (d + 1) 0 0 0 [some (vr 10 0), some (vi (-1 : Int32))] [] h (fun v h23 => ∃ y24, v = some (vi y24) ∧ mSK h23 ∧ Q (some (vi y24)) h23)) ∧ (¬ (hI h 10 0 2) ≤ x2 → ((x3 < 0 → mT g me_fm_refuse (d + 1) 0 0 0 [some (vr 10 0), some (vi (-4 : Int32))] [] h (fun v h25 => ∃ y26, v = some (vi y26) ∧ mSK h25 ∧ Q (some (vi y26)) h25)) ∧ (¬ x3 < 0 → ((x4 < (1 : Int32) → mT g me_fm_refuse (d + 1) 0 0 0 [some (vr 10 0), some (vi (-4 : Int32))] [] h (fun v h27 => ∃ y28, v = some (vi y28) ∧ mSK h27 ∧ Q (some (vi y28)) h27)) ∧ (¬ x4 < (1 : Int32) → (((1 : Int32) ≤ x5 → (((500 : Int32) < x3 → mT g me_fm_refuse (d + 1) 0 0 0 [some (vr 10 0), some (vi (-6 : Int32))] [] h (fun v h29 => ∃ y30, v = some (vi y30) ∧ mSK h29 ∧ Q (some (vi y30)) h29)) ∧ (¬ (500 : Int32) < x3 → (((9 : Int32) < x4 → mT g me_fm_refuse (d + 1) 0 0 0 [some (vr 10 0), some (vi (-6 : Int32))] [] h (fun v h31 => ∃ y32, v = some (vi y32) ∧ mSK h31 ∧ Q (some (vi y32)) h31)) ∧ (¬ (9 : Int32) < x4 → (((200 : Int32) < x5 → mT g me_fm_refuse (d + 1) 0 0 0 [some (vr 10 0), some (vi (-6 : Int32))] [] h (fun v h33 => ∃ y34, v = some (vi y34) ∧ mSK h33 ∧ Q (some (vi y34)) h33)) ∧ (¬ (200 : Int32) < x5 → ((¬ (hI h 10 0 3) = (30 : Int32) → ((¬ x1 = 0 → ((x1 = 0 → (vp_in (hI h 10 0 3) 30 ∧ ((x1 = 0 → (vp_in x2 30 ∧ (vp_in (hI h 10 0 3) 30 ∧ (vp_in (hI h 10 0 3) 30 ∧ (vp_in (hI h 10 0 3) 30 ∧ (vp_in (hI h 10 0 3) 30 ∧ (vp_in (hI h 10 0 3) 30 ∧ Q (some (vi (((hI h 10 0 3) + (1 : Int32)) - (1 : Int32)))) (setI (setI (setI (setI (setI (setI (setI (setI h 11 14 ((hI h 10 0 3).toNatClampNeg) x2) 11 15 ((hI h 10 0 3).toNatClampNeg) (hI h 11 15 x2.toNatClampNeg)) 11 16 ((hI h 10 0 3).toNatClampNeg) x3) 11 17 ((hI h 10 0 3).toNatClampNeg) x4) 11 18 ((hI h 10 0 3).toNatClampNeg) x5) 11 20 ((hI h 10 0 3).toNatClampNeg) (-9 : Int32)) 10 0 3 ((hI h 10 0 3) + (1 : Int32))) 10 0 55 (0 : Int32))))))))) ∧ (¬ x1 = 0 → (vp_in (hI h 10 0 3) 30 ∧ (vp_in (hI h 10 0 3) 30 ∧ (vp_in (hI h 10 0 3) 30 ∧ (vp_in (hI h 10 0 3) 30 ∧ (vp_in (hI h 10 0 3) 30 ∧ Q (some (vi (((hI h 10 0 3) + (1 : Int32)) - (1 : Int32)))) (setI (setI (setI (setI (setI (setI (setI (setI h 11 14 ((hI h 10 0 3).toNatClampNeg) x2) 11 15 ((hI h 10 0 3).toNatClampNeg) x2) 11 16 ((hI h 10 0 3).toNatClampNeg) x3) 11 17 ((hI h 10 0 3).toNatClampNeg) x4) 11 18 ((hI h 10 0 3).toNatClampNeg) x5) 11 20 ((hI h 10 0 3).toNatClampNeg) (-9 : Int32)) 10 0 3 ((hI h 10 0 3) + (1 : Int32))) 10 0 55 (0 : Int32))))))))))) ∧ (¬ x1 = 0 → (vp_in (hI h 10 0 3) 30 ∧ ((x1 = 0 → (vp_in x2 30 ∧ (vp_in (hI h 10 0 3) 30 ∧ (vp_in (hI h 10 0 3) 30 ∧ (vp_in (hI h 10 0 3) 30 ∧ (vp_in (hI h 10 0 3) 30 ∧ (vp_in (hI h 10 0 3) 30 ∧ Q (some (vi (((hI h 10 0 3) + (1 : Int32)) - (1 : Int32)))) (setI (setI (setI (setI (setI (setI (setI (setI h 11 14 ((hI h 10 0 3).toNatClampNeg) (-9 : Int32)) 11 15 ((hI h 10 0 3).toNatClampNeg) (hI h 11 15 x2.toNatClampNeg)) 11 16 ((hI h 10 0 3).toNatClampNeg) x3) 11 17 ((hI h 10 0 3).toNatClampNeg) x4) 11 18 ((hI h 10 0 3).toNatClampNeg) x5) 11 20 ((hI h 10 0 3).toNatClampNeg) (-9 : Int32)) 10 0 3 ((hI h 10 0 3) + (1 : Int32))) 10 0 55 (0 : Int32))))))))) ∧ (¬ x1 = 0 → (vp_in (hI h 10 0 3) 30 ∧ (vp_in (hI h 10 0 3) 30 ∧ (vp_in (hI h 10 0 3) 30 ∧ (vp_in (hI h 10 0 3) 30 ∧ (vp_in (hI h 10 0 3) 30 ∧ Q (some (vi (((hI h 10 0 3) + (1 : Int32)) - (1 : Int32)))) (setI (setI (setI (setI (setI (setI (setI (setI h 11 14 ((hI h 10 0 3).toNatClampNeg) (-9 : Int32)) 11 15 ((hI h 10 0 3).toNatClampNeg) x2) 11 16 ((hI h 10 0 3).toNatClampNeg) x3) 11 17 ((hI h 10 0 3).toNatClampNeg) x4) 11 18 ((hI h 10 0 3).toNatClampNeg) x5) 11 20 ((hI h 10 0 3).toNatClampNeg) (-9 : Int32)) 10 0 3 ((hI h 10 0 3) + (1 : Int32))) 10 0 55 (0 : Int32))))))))))))) ∧ (x1 = 0 → (vp_in x2 30 ∧ (((hI h 12 0 x2.toNatClampNeg) = 0 → ((x1 = 0 → (vp_in (hI h 10 0 3) 30 ∧ ((x1 = 0 → (vp_in x2 30 ∧ (vp_in (hI h 10 0 3) 30 ∧ (vp_in (hI h 10 0 3) 30 ∧ (vp_in (hI h 10 0 3) 30 ∧ (vp_in (hI h 10 0 3) 30 ∧ (vp_in (hI h 10 0 3) 30 ∧ Q (some (vi (((hI h 10 0 3) + (1 : Int32)) - (1 : Int32)))) (setI (setI (setI (setI (setI (setI (setI (setI h 11 14 ((hI h 10 0 3).toNatClampNeg) x2) 11 15 ((hI h 10 0 3).toNatClampNeg) (hI h 11 15 x2.toNatClampNeg)) 11 16 ((hI h 10 0 3).toNatClampNeg) x3) 11 17 ((hI h 10 0 3).toNatClampNeg) x4) 11 18 ((hI h 10 0 3).toNatClampNeg) x5) 11 20 ((hI h 10 0 3).toNatClampNeg) (-9 : Int32)) 10 0 3 ((hI h 10 0 3) + (1 : Int32))) 10 0 55 (0 : Int32))))))))) ∧ (¬ x1 = 0 → (vp_in (hI h 10 0 3) 30 ∧ (vp_in (hI h 10 0 3) 30 ∧ (vp_in (hI h 10 0 3) 30 ∧ (vp_in (hI h 10 0 3) 30 ∧ (vp_in (hI h 10 0 3) 30 ∧ Q (some (vi (((hI h 10 0 3) + (1 : Int32)) - (1 : Int32)))) (setI (setI (setI (setI (setI (setI (setI (setI h 11 14 ((hI h 10 0 3).toNatClampNeg) x2) 11 15 ((hI h 10 0 3).toNatClampNeg) x2) 11 16 ((hI h 10 0 3).toNatClampNeg) x3) 11 17 ((hI h 10 0 3).toNatClampNeg) x4) 11 18 ((hI h 10 0 3).toNatClampNeg) x5) 11 20 ((hI h 10 0 3).toNatClampNeg) (-9 : Int32)) 10 0 3 ((hI h 10 0 3) + (1 : Int32))) 10 0 55 (0 : Int32))))))))))) ∧ (¬ x1 = 0 → (vp_in (hI h 10 0 3) 30 ∧ ((x1 = 0 → (vp_in x2 30 ∧ (vp_in (hI h 10 0 3) 30 ∧ (vp_in (hI h 10 0 3) 30 ∧ (vp_in (hI h 10 0 3) 30 ∧ (vp_in (hI h 10 0 3) 30 ∧ (vp_in (hI h 10 0 3) 30 ∧ Q (some (vi (((hI h 10 0 3) + (1 : Int32)) - (1 : Int32)))) (setI (setI (setI (setI (setI (setI (setI (setI h 11 14 ((hI h 10 0 3).toNatClampNeg) (-9 : Int32)) 11 15 ((hI h 10 0 3).toNatClampNeg) (hI h 11 15 x2.toNatClampNeg)) 11 16 ((hI h 10 0 3).toNatClampNeg) x3) 11 17 ((hI h 10 0 3).toNatClampNeg) x4) 11 18 ((hI h 10 0 3).toNatClampNeg) x5) 11 20 ((hI h 10 0 3).toNatClampNeg) (-9 : Int32)) 10 0 3 ((hI h 10 0 3) + (1 : Int32))) 10 0 55 (0 : Int32))))))))) ∧ (¬ x1 = 0 → (vp_in (hI h 10 0 3) 30 ∧ (vp_in (hI h 10 0 3) 30 ∧ (vp_in (hI h 10 0 3) 30 ∧ (vp_in (hI h 10 0 3) 30 ∧ (vp_in (hI h 10 0 3) 30 ∧ Q (some (vi (((hI h 10 0 3) + (1 : Int32)) - (1 : Int32)))) (setI (setI (setI (setI (setI (setI (setI (setI h 11 14 ((hI h 10 0 3).toNatClampNeg) (-9 : Int32)) 11 15 ((hI h 10 0 3).toNatClampNeg) x2) 11 16 ((hI h 10 0 3).toNatClampNeg) x3) 11 17 ((hI h 10 0 3).toNatClampNeg) x4) 11 18 ((hI h 10 0 3).toNatClampNeg) x5) 11 20 ((hI h 10 0 3).toNatClampNeg) (-9 : Int32)) 10 0 3 ((hI h 10 0 3) + (1 : Int32))) 10 0 55 (0 : Int32))))))))))))) ∧ (¬ (hI h 12 0 x2.toNatClampNeg) = 0 → mT g me_fm_refuse (d + 1) 0 0 0 [some (vr 10 0), some (vi (-3 : Int32))] [] h (fun v h35 => ∃ y36, v = some (vi y36) ∧ mSK h35 ∧ Q (some (vi y36)) h35))))))) ∧ ((hI h 10 0 3) = (30 : Int32) → mT g me_fm_refuse (d + 1) 0 0 0 [some (vr 10 0), some (vi (-6 : Int32))] [] h (fun v h37 => ∃ y38, v = some (vi y38) ∧ mSK h37 ∧ Q (some (vi y38)) h37)))))))))) ∧ (¬ (1 : Int32) ≤ x5 → mT g me_fm_refuse (d + 1) 0 0 0 [some (vr 10 0), some (vi (-4 : Int32))] [] h (fun v h39 => ∃ y40, v = some (vi y40) ∧ mSK h39 ∧ Q (some (vi y40)) h39)))))))))))))) : mT g me_fm_joint (d + 2) 0 0 0 [some (vr 10 0), some (vi x1), some (vi x2), some (vi x3), some (vi x4), some (vi x5)] [] h Q := by
  refine tr_iload_n (pc := 0) 2 k_fm_joint_0 rfl rfl ?_
  refine tr_iload_n (pc := 1) 1 k_fm_joint_1 rfl rfl ?_
  refine tr_if_eq (pc := 2) 12 k_fm_joint_2 (by decide) (fun q => ?_) (fun q => ?_)
  · replace hv := hv.1 q
    refine tr_aload_n (pc := 12) 0 k_fm_joint_12 rfl rfl ?_
    refine tr_getIx (pc := 13) k_fm_joint_13 fl_fm_155 rfl rfl ?_
    refine tr_callS (pc := 16) (d' := d + 1) (mc' := 0) (ms' := 0) [vi x2, vi (hI h 10 0 3)] k_fm_joint_16 ca_fm_isIn ml_fm_144 is_fm_isIn pa_fm_isIn (by omega) (by omega) (by omega) rfl (Nat.le_of_ble_eq_true rfl) (Nat.le_of_ble_eq_true rfl) (Qk := fun v h9 => mT g me_fm_joint (d + 2) 0 0 19 [some (vr 10 0), some (vi x1), some (vi x2), some (vi x3), some (vi x4), some (vi x5)] (v.toList ++ []) h9 _) ?_ (fun _ _ z => z)
    show mT g me_fm_isIn (d + 1) 0 0 0 [some (vi x2), some (vi (hI h 10 0 3))] [] h _
    refine tr_iload_n (pc := 0) 0 k_fm_isIn_0 rfl rfl ?_
    refine tr_if_lt (pc := 1) 13 k_fm_isIn_1 (by decide) (fun q => ?_) (fun q => ?_)
    · replace hv := hv.1 q
      refine tr_iconst (pc := 13) (v := 0) k_fm_isIn_13 (by decide) ?_
      refine tr_ireturn (pc := 14) k_fm_isIn_14 rfl rfl ?_
      show mT g me_fm_joint (d + 2) 0 0 19 [some (vr 10 0), some (vi x1), some (vi x2), some (vi x3), some (vi x4), some (vi x5)] [vi (0 : Int32)] h _
      refine tr_if_ne (pc := 19) 28 k_fm_joint_19 (by decide) (fun q => absurd q (by decide)) (fun _ => ?_)
      refine tr_aload_n (pc := 22) 0 k_fm_joint_22 rfl rfl ?_
      refine tr_iconst (pc := 23) (v := -1) k_fm_joint_23 (by decide) ?_
      refine tr_callV (pc := 24) (d' := d + 1) (mc' := 0) (ms' := 0) [vi (-1 : Int32)] k_fm_joint_24 ca_fm_refuse ml_fm_133 ii_fm_refuse ⟨by decide, rfl⟩ pa_fm_refuse (by omega) (by omega) (by omega) rfl (Nat.le_of_ble_eq_true rfl) (Nat.le_of_ble_eq_true rfl) hv (fun v h9 hv => ?_)
      obtain ⟨y2, rfl, hv⟩ := hv
      obtain ⟨h1, eh⟩ : ∃ z, z = h9 := ⟨_, rfl⟩
      subst eh
      obtain ⟨hskh1, hv⟩ := hv
      show mT g me_fm_joint (d + 2) 0 0 27 [some (vr 10 0), some (vi x1), some (vi x2), some (vi x3), some (vi x4), some (vi x5)] [vi y2] h1 _
      refine tr_ireturn (pc := 27) k_fm_joint_27 rfl rfl ?_
      exact hv
    · replace hv := hv.2 q
      refine tr_iload_n (pc := 4) 0 k_fm_isIn_4 rfl rfl ?_
      refine tr_iload_n (pc := 5) 1 k_fm_isIn_5 rfl rfl ?_
      refine tr_icmp_ge (pc := 6) 13 k_fm_isIn_6 (by decide) (fun q => ?_) (fun q => ?_)
      · replace hv := hv.1 q
        refine tr_iconst (pc := 13) (v := 0) k_fm_isIn_13 (by decide) ?_
        refine tr_ireturn (pc := 14) k_fm_isIn_14 rfl rfl ?_
        show mT g me_fm_joint (d + 2) 0 0 19 [some (vr 10 0), some (vi x1), some (vi x2), some (vi x3), some (vi x4), some (vi x5)] [vi (0 : Int32)] h _
        refine tr_if_ne (pc := 19) 28 k_fm_joint_19 (by decide) (fun q => absurd q (by decide)) (fun _ => ?_)
        refine tr_aload_n (pc := 22) 0 k_fm_joint_22 rfl rfl ?_
        refine tr_iconst (pc := 23) (v := -1) k_fm_joint_23 (by decide) ?_
        refine tr_callV (pc := 24) (d' := d + 1) (mc' := 0) (ms' := 0) [vi (-1 : Int32)] k_fm_joint_24 ca_fm_refuse ml_fm_133 ii_fm_refuse ⟨by decide, rfl⟩ pa_fm_refuse (by omega) (by omega) (by omega) rfl (Nat.le_of_ble_eq_true rfl) (Nat.le_of_ble_eq_true rfl) hv (fun v h9 hv => ?_)
        obtain ⟨y4, rfl, hv⟩ := hv
        obtain ⟨h3, eh⟩ : ∃ z, z = h9 := ⟨_, rfl⟩
        subst eh
        obtain ⟨hskh3, hv⟩ := hv
        show mT g me_fm_joint (d + 2) 0 0 27 [some (vr 10 0), some (vi x1), some (vi x2), some (vi x3), some (vi x4), some (vi x5)] [vi y4] h3 _
        refine tr_ireturn (pc := 27) k_fm_joint_27 rfl rfl ?_
        exact hv
      · replace hv := hv.2 q
        refine tr_iconst (pc := 9) (v := 1) k_fm_isIn_9 (by decide) ?_
        refine tr_goto (pc := 10) 14 k_fm_isIn_10 (by decide) ?_
        refine tr_ireturn (pc := 14) k_fm_isIn_14 rfl rfl ?_
        show mT g me_fm_joint (d + 2) 0 0 19 [some (vr 10 0), some (vi x1), some (vi x2), some (vi x3), some (vi x4), some (vi x5)] [vi (1 : Int32)] h _
        refine tr_if_ne (pc := 19) 28 k_fm_joint_19 (by decide) (fun _ => ?_) (fun q => absurd q (by decide))
        refine tr_iload_n (pc := 28) 3 k_fm_joint_28 rfl rfl ?_
        refine tr_if_lt (pc := 29) 44 k_fm_joint_29 (by decide) (fun q => ?_) (fun q => ?_)
        · replace hv := hv.1 q
          refine tr_aload_n (pc := 44) 0 k_fm_joint_44 rfl rfl ?_
          refine tr_bipush (pc := 45) (v := -4) k_fm_joint_45 (by decide) ?_
          refine tr_callV (pc := 47) (d' := d + 1) (mc' := 0) (ms' := 0) [vi (-4 : Int32)] k_fm_joint_47 ca_fm_refuse ml_fm_133 ii_fm_refuse ⟨by decide, rfl⟩ pa_fm_refuse (by omega) (by omega) (by omega) rfl (Nat.le_of_ble_eq_true rfl) (Nat.le_of_ble_eq_true rfl) hv (fun v h9 hv => ?_)
          obtain ⟨y6, rfl, hv⟩ := hv
          obtain ⟨h5, eh⟩ : ∃ z, z = h9 := ⟨_, rfl⟩
          subst eh
          obtain ⟨hskh5, hv⟩ := hv
          show mT g me_fm_joint (d + 2) 0 0 50 [some (vr 10 0), some (vi x1), some (vi x2), some (vi x3), some (vi x4), some (vi x5)] [vi y6] h5 _
          refine tr_ireturn (pc := 50) k_fm_joint_50 rfl rfl ?_
          exact hv
        · replace hv := hv.2 q
          refine tr_iload (pc := 32) k_fm_joint_32 rfl ?_
          refine tr_iconst (pc := 34) (v := 1) k_fm_joint_34 (by decide) ?_
          refine tr_icmp_lt (pc := 35) 44 k_fm_joint_35 (by decide) (fun q => ?_) (fun q => ?_)
          · replace hv := hv.1 q
            refine tr_aload_n (pc := 44) 0 k_fm_joint_44 rfl rfl ?_
            refine tr_bipush (pc := 45) (v := -4) k_fm_joint_45 (by decide) ?_
            refine tr_callV (pc := 47) (d' := d + 1) (mc' := 0) (ms' := 0) [vi (-4 : Int32)] k_fm_joint_47 ca_fm_refuse ml_fm_133 ii_fm_refuse ⟨by decide, rfl⟩ pa_fm_refuse (by omega) (by omega) (by omega) rfl (Nat.le_of_ble_eq_true rfl) (Nat.le_of_ble_eq_true rfl) hv (fun v h9 hv => ?_)
            obtain ⟨y8, rfl, hv⟩ := hv
            obtain ⟨h7, eh⟩ : ∃ z, z = h9 := ⟨_, rfl⟩
            subst eh
            obtain ⟨hskh7, hv⟩ := hv
            show mT g me_fm_joint (d + 2) 0 0 50 [some (vr 10 0), some (vi x1), some (vi x2), some (vi x3), some (vi x4), some (vi x5)] [vi y8] h7 _
            refine tr_ireturn (pc := 50) k_fm_joint_50 rfl rfl ?_
            exact hv
          · replace hv := hv.2 q
            refine tr_iload (pc := 38) k_fm_joint_38 rfl ?_
            refine tr_iconst (pc := 40) (v := 1) k_fm_joint_40 (by decide) ?_
            refine tr_icmp_ge (pc := 41) 51 k_fm_joint_41 (by decide) (fun q => ?_) (fun q => ?_)
            · replace hv := hv.1 q
              refine tr_iload_n (pc := 51) 3 k_fm_joint_51 rfl rfl ?_
              refine tr_sipush (pc := 52) (v := 500) k_fm_joint_52 (by decide) ?_
              refine tr_icmp_gt (pc := 55) 82 k_fm_joint_55 (by decide) (fun q => ?_) (fun q => ?_)
              · replace hv := hv.1 q
                refine tr_aload_n (pc := 82) 0 k_fm_joint_82 rfl rfl ?_
                refine tr_bipush (pc := 83) (v := -6) k_fm_joint_83 (by decide) ?_
                refine tr_callV (pc := 85) (d' := d + 1) (mc' := 0) (ms' := 0) [vi (-6 : Int32)] k_fm_joint_85 ca_fm_refuse ml_fm_133 ii_fm_refuse ⟨by decide, rfl⟩ pa_fm_refuse (by omega) (by omega) (by omega) rfl (Nat.le_of_ble_eq_true rfl) (Nat.le_of_ble_eq_true rfl) hv (fun v h9 hv => ?_)
                obtain ⟨y10, rfl, hv⟩ := hv
                obtain ⟨h9, eh⟩ : ∃ z, z = h9 := ⟨_, rfl⟩
                subst eh
                obtain ⟨hskh9, hv⟩ := hv
                show mT g me_fm_joint (d + 2) 0 0 88 [some (vr 10 0), some (vi x1), some (vi x2), some (vi x3), some (vi x4), some (vi x5)] [vi y10] h9 _
                refine tr_ireturn (pc := 88) k_fm_joint_88 rfl rfl ?_
                exact hv
              · replace hv := hv.2 q
                refine tr_iload (pc := 58) k_fm_joint_58 rfl ?_
                refine tr_bipush (pc := 60) (v := 9) k_fm_joint_60 (by decide) ?_
                refine tr_icmp_gt (pc := 62) 82 k_fm_joint_62 (by decide) (fun q => ?_) (fun q => ?_)
                · replace hv := hv.1 q
                  refine tr_aload_n (pc := 82) 0 k_fm_joint_82 rfl rfl ?_
                  refine tr_bipush (pc := 83) (v := -6) k_fm_joint_83 (by decide) ?_
                  refine tr_callV (pc := 85) (d' := d + 1) (mc' := 0) (ms' := 0) [vi (-6 : Int32)] k_fm_joint_85 ca_fm_refuse ml_fm_133 ii_fm_refuse ⟨by decide, rfl⟩ pa_fm_refuse (by omega) (by omega) (by omega) rfl (Nat.le_of_ble_eq_true rfl) (Nat.le_of_ble_eq_true rfl) hv (fun v h9 hv => ?_)
                  obtain ⟨y12, rfl, hv⟩ := hv
                  obtain ⟨h11, eh⟩ : ∃ z, z = h9 := ⟨_, rfl⟩
                  subst eh
                  obtain ⟨hskh11, hv⟩ := hv
                  show mT g me_fm_joint (d + 2) 0 0 88 [some (vr 10 0), some (vi x1), some (vi x2), some (vi x3), some (vi x4), some (vi x5)] [vi y12] h11 _
                  refine tr_ireturn (pc := 88) k_fm_joint_88 rfl rfl ?_
                  exact hv
                · replace hv := hv.2 q
                  refine tr_iload (pc := 65) k_fm_joint_65 rfl ?_
                  refine tr_sipush (pc := 67) (v := 200) k_fm_joint_67 (by decide) ?_
                  refine tr_icmp_gt (pc := 70) 82 k_fm_joint_70 (by decide) (fun q => ?_) (fun q => ?_)
                  · replace hv := hv.1 q
                    refine tr_aload_n (pc := 82) 0 k_fm_joint_82 rfl rfl ?_
                    refine tr_bipush (pc := 83) (v := -6) k_fm_joint_83 (by decide) ?_
                    refine tr_callV (pc := 85) (d' := d + 1) (mc' := 0) (ms' := 0) [vi (-6 : Int32)] k_fm_joint_85 ca_fm_refuse ml_fm_133 ii_fm_refuse ⟨by decide, rfl⟩ pa_fm_refuse (by omega) (by omega) (by omega) rfl (Nat.le_of_ble_eq_true rfl) (Nat.le_of_ble_eq_true rfl) hv (fun v h9 hv => ?_)
                    obtain ⟨y14, rfl, hv⟩ := hv
                    obtain ⟨h13, eh⟩ : ∃ z, z = h9 := ⟨_, rfl⟩
                    subst eh
                    obtain ⟨hskh13, hv⟩ := hv
                    show mT g me_fm_joint (d + 2) 0 0 88 [some (vr 10 0), some (vi x1), some (vi x2), some (vi x3), some (vi x4), some (vi x5)] [vi y14] h13 _
                    refine tr_ireturn (pc := 88) k_fm_joint_88 rfl rfl ?_
                    exact hv
                  · replace hv := hv.2 q
                    refine tr_aload_n (pc := 73) 0 k_fm_joint_73 rfl rfl ?_
                    refine tr_getIx (pc := 74) k_fm_joint_74 fl_fm_155 rfl rfl ?_
                    refine tr_bipush (pc := 77) (v := 30) k_fm_joint_77 (by decide) ?_
                    refine tr_icmp_ne (pc := 79) 89 k_fm_joint_79 (by decide) (fun q => ?_) (fun q => ?_)
                    · replace hv := hv.1 q
                      refine tr_iload_n (pc := 89) 1 k_fm_joint_89 rfl rfl ?_
                      refine tr_if_ne (pc := 90) 109 k_fm_joint_90 (by decide) (fun q => ?_) (fun q => ?_)
                      · replace hv := hv.1 q
                        refine tr_aload_n (pc := 109) 0 k_fm_joint_109 rfl rfl ?_
                        refine tr_getP (pc := 110) k_fm_joint_110 fl_fm_38 rfl (Eq.trans rfl (hsk.1 10 15 _ rfl)) ?_
                        refine tr_aload_n (pc := 113) 0 k_fm_joint_113 rfl rfl ?_
                        refine tr_getIx (pc := 114) k_fm_joint_114 fl_fm_155 rfl rfl ?_
                        refine tr_iload_n (pc := 117) 1 k_fm_joint_117 rfl rfl ?_
                        refine tr_if_eq (pc := 118) 126 k_fm_joint_118 (by decide) (fun q => ?_) (fun q => ?_)
                        · replace hv := hv.1 q
                          refine tr_iload_n (pc := 126) 2 k_fm_joint_126 rfl rfl ?_
                          refine tr_iast (pc := 127) k_fm_joint_127 (mvin (hsk.2.1 11 14 _ rfl) hv.1) ?_
                          replace hv := hv.2
                          refine tr_aload_n (pc := 128) 0 k_fm_joint_128 rfl rfl ?_
                          refine tr_getP (pc := 129) k_fm_joint_129 fl_fm_41 rfl (Eq.trans (hP_setI) (hsk.1 10 16 _ rfl)) ?_
                          refine tr_aload_n (pc := 132) 0 k_fm_joint_132 rfl rfl ?_
                          refine tr_getIx (pc := 133) k_fm_joint_133 fl_fm_155 rfl (hI_nk (by decide)) ?_
                          refine tr_iload_n (pc := 136) 1 k_fm_joint_136 rfl rfl ?_
                          refine tr_if_eq (pc := 137) 144 k_fm_joint_137 (by decide) (fun q => ?_) (fun q => ?_)
                          · replace hv := hv.1 q
                            refine tr_aload_n (pc := 144) 0 k_fm_joint_144 rfl rfl ?_
                            refine tr_getP (pc := 145) k_fm_joint_145 fl_fm_41 rfl (Eq.trans (hP_setI) (hsk.1 10 16 _ rfl)) ?_
                            refine tr_iload_n (pc := 148) 2 k_fm_joint_148 rfl rfl ?_
                            refine tr_ialdx (pc := 149) k_fm_joint_149 (mvin (hsk.2.1 11 15 _ rfl) hv.1) (hI_nn (by decide)) ?_
                            replace hv := hv.2
                            refine tr_iast (pc := 150) k_fm_joint_150 (mvin (hsk.2.1 11 15 _ rfl) hv.1) ?_
                            replace hv := hv.2
                            refine tr_aload_n (pc := 151) 0 k_fm_joint_151 rfl rfl ?_
                            refine tr_getP (pc := 152) k_fm_joint_152 fl_fm_44 rfl (Eq.trans (Eq.trans (hP_setI) (hP_setI)) (hsk.1 10 17 _ rfl)) ?_
                            refine tr_aload_n (pc := 155) 0 k_fm_joint_155 rfl rfl ?_
                            refine tr_getIx (pc := 156) k_fm_joint_156 fl_fm_155 rfl (Eq.trans (hI_nk (by decide)) (hI_nk (by decide))) ?_
                            refine tr_iload_n (pc := 159) 3 k_fm_joint_159 rfl rfl ?_
                            refine tr_iast (pc := 160) k_fm_joint_160 (mvin (hsk.2.1 11 16 _ rfl) hv.1) ?_
                            replace hv := hv.2
                            refine tr_aload_n (pc := 161) 0 k_fm_joint_161 rfl rfl ?_
                            refine tr_getP (pc := 162) k_fm_joint_162 fl_fm_47 rfl (Eq.trans (Eq.trans (hP_setI) (Eq.trans (hP_setI) (hP_setI))) (hsk.1 10 18 _ rfl)) ?_
                            refine tr_aload_n (pc := 165) 0 k_fm_joint_165 rfl rfl ?_
                            refine tr_getIx (pc := 166) k_fm_joint_166 fl_fm_155 rfl (Eq.trans (hI_nk (by decide)) (Eq.trans (hI_nk (by decide)) (hI_nk (by decide)))) ?_
                            refine tr_iload (pc := 169) k_fm_joint_169 rfl ?_
                            refine tr_iast (pc := 171) k_fm_joint_171 (mvin (hsk.2.1 11 17 _ rfl) hv.1) ?_
                            replace hv := hv.2
                            refine tr_aload_n (pc := 172) 0 k_fm_joint_172 rfl rfl ?_
                            refine tr_getP (pc := 173) k_fm_joint_173 fl_fm_50 rfl (Eq.trans (Eq.trans (hP_setI) (Eq.trans (hP_setI) (Eq.trans (hP_setI) (hP_setI)))) (hsk.1 10 19 _ rfl)) ?_
                            refine tr_aload_n (pc := 176) 0 k_fm_joint_176 rfl rfl ?_
                            refine tr_getIx (pc := 177) k_fm_joint_177 fl_fm_155 rfl (Eq.trans (hI_nk (by decide)) (Eq.trans (hI_nk (by decide)) (Eq.trans (hI_nk (by decide)) (hI_nk (by decide))))) ?_
                            refine tr_iload (pc := 180) k_fm_joint_180 rfl ?_
                            refine tr_iast (pc := 182) k_fm_joint_182 (mvin (hsk.2.1 11 18 _ rfl) hv.1) ?_
                            replace hv := hv.2
                            refine tr_aload_n (pc := 183) 0 k_fm_joint_183 rfl rfl ?_
                            refine tr_getP (pc := 184) k_fm_joint_184 fl_fm_56 rfl (Eq.trans (Eq.trans (hP_setI) (Eq.trans (hP_setI) (Eq.trans (hP_setI) (Eq.trans (hP_setI) (hP_setI))))) (hsk.1 10 21 _ rfl)) ?_
                            refine tr_aload_n (pc := 187) 0 k_fm_joint_187 rfl rfl ?_
                            refine tr_getIx (pc := 188) k_fm_joint_188 fl_fm_155 rfl (Eq.trans (hI_nk (by decide)) (Eq.trans (hI_nk (by decide)) (Eq.trans (hI_nk (by decide)) (Eq.trans (hI_nk (by decide)) (hI_nk (by decide)))))) ?_
                            refine tr_bipush (pc := 191) (v := -9) k_fm_joint_191 (by decide) ?_
                            refine tr_iast (pc := 193) k_fm_joint_193 (mvin (hsk.2.1 11 20 _ rfl) hv.1) ?_
                            replace hv := hv.2
                            refine tr_aload_n (pc := 194) 0 k_fm_joint_194 rfl rfl ?_
                            refine tr_dup (pc := 195) k_fm_joint_195 rfl ?_
                            refine tr_getIx (pc := 196) k_fm_joint_196 fl_fm_155 rfl (Eq.trans (hI_nk (by decide)) (Eq.trans (hI_nk (by decide)) (Eq.trans (hI_nk (by decide)) (Eq.trans (hI_nk (by decide)) (Eq.trans (hI_nk (by decide)) (hI_nk (by decide))))))) ?_
                            refine tr_iconst (pc := 199) (v := 1) k_fm_joint_199 (by decide) ?_
                            refine tr_iadd (pc := 200) k_fm_joint_200 ?_
                            refine tr_putI (pc := 201) k_fm_joint_201 fl_fm_155 (Or.inl rfl) rfl ⟨rfl, rfl⟩ ?_
                            refine tr_aload_n (pc := 204) 0 k_fm_joint_204 rfl rfl ?_
                            refine tr_callV (pc := 205) (d' := d + 1) (mc' := 0) (ms' := 0) [] k_fm_joint_205 ca_fm_changes ml_fm_152 ii_fm_changes ⟨by decide, rfl⟩ pa_fm_changes (by omega) (by omega) (by omega) rfl (Nat.le_of_ble_eq_true rfl) (Nat.le_of_ble_eq_true rfl) (Qk := fun v h9 => mT g me_fm_joint (d + 2) 0 0 208 [some (vr 10 0), some (vi x1), some (vi x2), some (vi x3), some (vi x4), some (vi x5)] (v.toList ++ []) h9 _) ?_ (fun _ _ z => z)
                            show mT g me_fm_changes (d + 1) 0 0 0 [some (vr 10 0)] [] (setI (setI (setI (setI (setI (setI (setI h 11 14 ((hI h 10 0 3).toNatClampNeg) x2) 11 15 ((hI h 10 0 3).toNatClampNeg) (hI h 11 15 x2.toNatClampNeg)) 11 16 ((hI h 10 0 3).toNatClampNeg) x3) 11 17 ((hI h 10 0 3).toNatClampNeg) x4) 11 18 ((hI h 10 0 3).toNatClampNeg) x5) 11 20 ((hI h 10 0 3).toNatClampNeg) (-9 : Int32)) 10 0 3 ((hI h 10 0 3) + (1 : Int32))) _
                            refine tr_aload_n (pc := 0) 0 k_fm_changes_0 rfl rfl ?_
                            refine tr_iconst (pc := 1) (v := 0) k_fm_changes_1 (by decide) ?_
                            refine tr_putI (pc := 2) k_fm_changes_2 fl_fm_137 (Or.inl rfl) rfl ⟨rfl, rfl⟩ ?_
                            refine tr_return (pc := 5) k_fm_changes_5 rfl ?_
                            show mT g me_fm_joint (d + 2) 0 0 208 [some (vr 10 0), some (vi x1), some (vi x2), some (vi x3), some (vi x4), some (vi x5)] [] (setI (setI (setI (setI (setI (setI (setI (setI h 11 14 ((hI h 10 0 3).toNatClampNeg) x2) 11 15 ((hI h 10 0 3).toNatClampNeg) (hI h 11 15 x2.toNatClampNeg)) 11 16 ((hI h 10 0 3).toNatClampNeg) x3) 11 17 ((hI h 10 0 3).toNatClampNeg) x4) 11 18 ((hI h 10 0 3).toNatClampNeg) x5) 11 20 ((hI h 10 0 3).toNatClampNeg) (-9 : Int32)) 10 0 3 ((hI h 10 0 3) + (1 : Int32))) 10 0 55 (0 : Int32)) _
                            refine tr_aload_n (pc := 208) 0 k_fm_joint_208 rfl rfl ?_
                            refine tr_getIx (pc := 209) k_fm_joint_209 fl_fm_155 rfl (Eq.trans (hI_nf (by decide)) (hI_eq)) ?_
                            refine tr_iconst (pc := 212) (v := 1) k_fm_joint_212 (by decide) ?_
                            refine tr_isub (pc := 213) k_fm_joint_213 ?_
                            refine tr_ireturn (pc := 214) k_fm_joint_214 rfl rfl ?_
                            exact hv
                          · replace hv := hv.2 q
                            refine tr_iload_n (pc := 140) 2 k_fm_joint_140 rfl rfl ?_
                            refine tr_goto (pc := 141) 150 k_fm_joint_141 (by decide) ?_
                            refine tr_iast (pc := 150) k_fm_joint_150 (mvin (hsk.2.1 11 15 _ rfl) hv.1) ?_
                            replace hv := hv.2
                            refine tr_aload_n (pc := 151) 0 k_fm_joint_151 rfl rfl ?_
                            refine tr_getP (pc := 152) k_fm_joint_152 fl_fm_44 rfl (Eq.trans (Eq.trans (hP_setI) (hP_setI)) (hsk.1 10 17 _ rfl)) ?_
                            refine tr_aload_n (pc := 155) 0 k_fm_joint_155 rfl rfl ?_
                            refine tr_getIx (pc := 156) k_fm_joint_156 fl_fm_155 rfl (Eq.trans (hI_nk (by decide)) (hI_nk (by decide))) ?_
                            refine tr_iload_n (pc := 159) 3 k_fm_joint_159 rfl rfl ?_
                            refine tr_iast (pc := 160) k_fm_joint_160 (mvin (hsk.2.1 11 16 _ rfl) hv.1) ?_
                            replace hv := hv.2
                            refine tr_aload_n (pc := 161) 0 k_fm_joint_161 rfl rfl ?_
                            refine tr_getP (pc := 162) k_fm_joint_162 fl_fm_47 rfl (Eq.trans (Eq.trans (hP_setI) (Eq.trans (hP_setI) (hP_setI))) (hsk.1 10 18 _ rfl)) ?_
                            refine tr_aload_n (pc := 165) 0 k_fm_joint_165 rfl rfl ?_
                            refine tr_getIx (pc := 166) k_fm_joint_166 fl_fm_155 rfl (Eq.trans (hI_nk (by decide)) (Eq.trans (hI_nk (by decide)) (hI_nk (by decide)))) ?_
                            refine tr_iload (pc := 169) k_fm_joint_169 rfl ?_
                            refine tr_iast (pc := 171) k_fm_joint_171 (mvin (hsk.2.1 11 17 _ rfl) hv.1) ?_
                            replace hv := hv.2
                            refine tr_aload_n (pc := 172) 0 k_fm_joint_172 rfl rfl ?_
                            refine tr_getP (pc := 173) k_fm_joint_173 fl_fm_50 rfl (Eq.trans (Eq.trans (hP_setI) (Eq.trans (hP_setI) (Eq.trans (hP_setI) (hP_setI)))) (hsk.1 10 19 _ rfl)) ?_
                            refine tr_aload_n (pc := 176) 0 k_fm_joint_176 rfl rfl ?_
                            refine tr_getIx (pc := 177) k_fm_joint_177 fl_fm_155 rfl (Eq.trans (hI_nk (by decide)) (Eq.trans (hI_nk (by decide)) (Eq.trans (hI_nk (by decide)) (hI_nk (by decide))))) ?_
                            refine tr_iload (pc := 180) k_fm_joint_180 rfl ?_
                            refine tr_iast (pc := 182) k_fm_joint_182 (mvin (hsk.2.1 11 18 _ rfl) hv.1) ?_
                            replace hv := hv.2
                            refine tr_aload_n (pc := 183) 0 k_fm_joint_183 rfl rfl ?_
                            refine tr_getP (pc := 184) k_fm_joint_184 fl_fm_56 rfl (Eq.trans (Eq.trans (hP_setI) (Eq.trans (hP_setI) (Eq.trans (hP_setI) (Eq.trans (hP_setI) (hP_setI))))) (hsk.1 10 21 _ rfl)) ?_
                            refine tr_aload_n (pc := 187) 0 k_fm_joint_187 rfl rfl ?_
                            refine tr_getIx (pc := 188) k_fm_joint_188 fl_fm_155 rfl (Eq.trans (hI_nk (by decide)) (Eq.trans (hI_nk (by decide)) (Eq.trans (hI_nk (by decide)) (Eq.trans (hI_nk (by decide)) (hI_nk (by decide)))))) ?_
                            refine tr_bipush (pc := 191) (v := -9) k_fm_joint_191 (by decide) ?_
                            refine tr_iast (pc := 193) k_fm_joint_193 (mvin (hsk.2.1 11 20 _ rfl) hv.1) ?_
                            replace hv := hv.2
                            refine tr_aload_n (pc := 194) 0 k_fm_joint_194 rfl rfl ?_
                            refine tr_dup (pc := 195) k_fm_joint_195 rfl ?_
                            refine tr_getIx (pc := 196) k_fm_joint_196 fl_fm_155 rfl (Eq.trans (hI_nk (by decide)) (Eq.trans (hI_nk (by decide)) (Eq.trans (hI_nk (by decide)) (Eq.trans (hI_nk (by decide)) (Eq.trans (hI_nk (by decide)) (hI_nk (by decide))))))) ?_
                            refine tr_iconst (pc := 199) (v := 1) k_fm_joint_199 (by decide) ?_
                            refine tr_iadd (pc := 200) k_fm_joint_200 ?_
                            refine tr_putI (pc := 201) k_fm_joint_201 fl_fm_155 (Or.inl rfl) rfl ⟨rfl, rfl⟩ ?_
                            refine tr_aload_n (pc := 204) 0 k_fm_joint_204 rfl rfl ?_
                            refine tr_callV (pc := 205) (d' := d + 1) (mc' := 0) (ms' := 0) [] k_fm_joint_205 ca_fm_changes ml_fm_152 ii_fm_changes ⟨by decide, rfl⟩ pa_fm_changes (by omega) (by omega) (by omega) rfl (Nat.le_of_ble_eq_true rfl) (Nat.le_of_ble_eq_true rfl) (Qk := fun v h9 => mT g me_fm_joint (d + 2) 0 0 208 [some (vr 10 0), some (vi x1), some (vi x2), some (vi x3), some (vi x4), some (vi x5)] (v.toList ++ []) h9 _) ?_ (fun _ _ z => z)
                            show mT g me_fm_changes (d + 1) 0 0 0 [some (vr 10 0)] [] (setI (setI (setI (setI (setI (setI (setI h 11 14 ((hI h 10 0 3).toNatClampNeg) x2) 11 15 ((hI h 10 0 3).toNatClampNeg) x2) 11 16 ((hI h 10 0 3).toNatClampNeg) x3) 11 17 ((hI h 10 0 3).toNatClampNeg) x4) 11 18 ((hI h 10 0 3).toNatClampNeg) x5) 11 20 ((hI h 10 0 3).toNatClampNeg) (-9 : Int32)) 10 0 3 ((hI h 10 0 3) + (1 : Int32))) _
                            refine tr_aload_n (pc := 0) 0 k_fm_changes_0 rfl rfl ?_
                            refine tr_iconst (pc := 1) (v := 0) k_fm_changes_1 (by decide) ?_
                            refine tr_putI (pc := 2) k_fm_changes_2 fl_fm_137 (Or.inl rfl) rfl ⟨rfl, rfl⟩ ?_
                            refine tr_return (pc := 5) k_fm_changes_5 rfl ?_
                            show mT g me_fm_joint (d + 2) 0 0 208 [some (vr 10 0), some (vi x1), some (vi x2), some (vi x3), some (vi x4), some (vi x5)] [] (setI (setI (setI (setI (setI (setI (setI (setI h 11 14 ((hI h 10 0 3).toNatClampNeg) x2) 11 15 ((hI h 10 0 3).toNatClampNeg) x2) 11 16 ((hI h 10 0 3).toNatClampNeg) x3) 11 17 ((hI h 10 0 3).toNatClampNeg) x4) 11 18 ((hI h 10 0 3).toNatClampNeg) x5) 11 20 ((hI h 10 0 3).toNatClampNeg) (-9 : Int32)) 10 0 3 ((hI h 10 0 3) + (1 : Int32))) 10 0 55 (0 : Int32)) _
                            refine tr_aload_n (pc := 208) 0 k_fm_joint_208 rfl rfl ?_
                            refine tr_getIx (pc := 209) k_fm_joint_209 fl_fm_155 rfl (Eq.trans (hI_nf (by decide)) (hI_eq)) ?_
                            refine tr_iconst (pc := 212) (v := 1) k_fm_joint_212 (by decide) ?_
                            refine tr_isub (pc := 213) k_fm_joint_213 ?_
                            refine tr_ireturn (pc := 214) k_fm_joint_214 rfl rfl ?_
                            exact hv
                        · replace hv := hv.2 q
                          refine tr_bipush (pc := 121) (v := -9) k_fm_joint_121 (by decide) ?_
                          refine tr_goto (pc := 123) 127 k_fm_joint_123 (by decide) ?_
                          refine tr_iast (pc := 127) k_fm_joint_127 (mvin (hsk.2.1 11 14 _ rfl) hv.1) ?_
                          replace hv := hv.2
                          refine tr_aload_n (pc := 128) 0 k_fm_joint_128 rfl rfl ?_
                          refine tr_getP (pc := 129) k_fm_joint_129 fl_fm_41 rfl (Eq.trans (hP_setI) (hsk.1 10 16 _ rfl)) ?_
                          refine tr_aload_n (pc := 132) 0 k_fm_joint_132 rfl rfl ?_
                          refine tr_getIx (pc := 133) k_fm_joint_133 fl_fm_155 rfl (hI_nk (by decide)) ?_
                          refine tr_iload_n (pc := 136) 1 k_fm_joint_136 rfl rfl ?_
                          refine tr_if_eq (pc := 137) 144 k_fm_joint_137 (by decide) (fun q => ?_) (fun q => ?_)
                          · replace hv := hv.1 q
                            refine tr_aload_n (pc := 144) 0 k_fm_joint_144 rfl rfl ?_
                            refine tr_getP (pc := 145) k_fm_joint_145 fl_fm_41 rfl (Eq.trans (hP_setI) (hsk.1 10 16 _ rfl)) ?_
                            refine tr_iload_n (pc := 148) 2 k_fm_joint_148 rfl rfl ?_
                            refine tr_ialdx (pc := 149) k_fm_joint_149 (mvin (hsk.2.1 11 15 _ rfl) hv.1) (hI_nn (by decide)) ?_
                            replace hv := hv.2
                            refine tr_iast (pc := 150) k_fm_joint_150 (mvin (hsk.2.1 11 15 _ rfl) hv.1) ?_
                            replace hv := hv.2
                            refine tr_aload_n (pc := 151) 0 k_fm_joint_151 rfl rfl ?_
                            refine tr_getP (pc := 152) k_fm_joint_152 fl_fm_44 rfl (Eq.trans (Eq.trans (hP_setI) (hP_setI)) (hsk.1 10 17 _ rfl)) ?_
                            refine tr_aload_n (pc := 155) 0 k_fm_joint_155 rfl rfl ?_
                            refine tr_getIx (pc := 156) k_fm_joint_156 fl_fm_155 rfl (Eq.trans (hI_nk (by decide)) (hI_nk (by decide))) ?_
                            refine tr_iload_n (pc := 159) 3 k_fm_joint_159 rfl rfl ?_
                            refine tr_iast (pc := 160) k_fm_joint_160 (mvin (hsk.2.1 11 16 _ rfl) hv.1) ?_
                            replace hv := hv.2
                            refine tr_aload_n (pc := 161) 0 k_fm_joint_161 rfl rfl ?_
                            refine tr_getP (pc := 162) k_fm_joint_162 fl_fm_47 rfl (Eq.trans (Eq.trans (hP_setI) (Eq.trans (hP_setI) (hP_setI))) (hsk.1 10 18 _ rfl)) ?_
                            refine tr_aload_n (pc := 165) 0 k_fm_joint_165 rfl rfl ?_
                            refine tr_getIx (pc := 166) k_fm_joint_166 fl_fm_155 rfl (Eq.trans (hI_nk (by decide)) (Eq.trans (hI_nk (by decide)) (hI_nk (by decide)))) ?_
                            refine tr_iload (pc := 169) k_fm_joint_169 rfl ?_
                            refine tr_iast (pc := 171) k_fm_joint_171 (mvin (hsk.2.1 11 17 _ rfl) hv.1) ?_
                            replace hv := hv.2
                            refine tr_aload_n (pc := 172) 0 k_fm_joint_172 rfl rfl ?_
                            refine tr_getP (pc := 173) k_fm_joint_173 fl_fm_50 rfl (Eq.trans (Eq.trans (hP_setI) (Eq.trans (hP_setI) (Eq.trans (hP_setI) (hP_setI)))) (hsk.1 10 19 _ rfl)) ?_
                            refine tr_aload_n (pc := 176) 0 k_fm_joint_176 rfl rfl ?_
                            refine tr_getIx (pc := 177) k_fm_joint_177 fl_fm_155 rfl (Eq.trans (hI_nk (by decide)) (Eq.trans (hI_nk (by decide)) (Eq.trans (hI_nk (by decide)) (hI_nk (by decide))))) ?_
                            refine tr_iload (pc := 180) k_fm_joint_180 rfl ?_
                            refine tr_iast (pc := 182) k_fm_joint_182 (mvin (hsk.2.1 11 18 _ rfl) hv.1) ?_
                            replace hv := hv.2
                            refine tr_aload_n (pc := 183) 0 k_fm_joint_183 rfl rfl ?_
                            refine tr_getP (pc := 184) k_fm_joint_184 fl_fm_56 rfl (Eq.trans (Eq.trans (hP_setI) (Eq.trans (hP_setI) (Eq.trans (hP_setI) (Eq.trans (hP_setI) (hP_setI))))) (hsk.1 10 21 _ rfl)) ?_
                            refine tr_aload_n (pc := 187) 0 k_fm_joint_187 rfl rfl ?_
                            refine tr_getIx (pc := 188) k_fm_joint_188 fl_fm_155 rfl (Eq.trans (hI_nk (by decide)) (Eq.trans (hI_nk (by decide)) (Eq.trans (hI_nk (by decide)) (Eq.trans (hI_nk (by decide)) (hI_nk (by decide)))))) ?_
                            refine tr_bipush (pc := 191) (v := -9) k_fm_joint_191 (by decide) ?_
                            refine tr_iast (pc := 193) k_fm_joint_193 (mvin (hsk.2.1 11 20 _ rfl) hv.1) ?_
                            replace hv := hv.2
                            refine tr_aload_n (pc := 194) 0 k_fm_joint_194 rfl rfl ?_
                            refine tr_dup (pc := 195) k_fm_joint_195 rfl ?_
                            refine tr_getIx (pc := 196) k_fm_joint_196 fl_fm_155 rfl (Eq.trans (hI_nk (by decide)) (Eq.trans (hI_nk (by decide)) (Eq.trans (hI_nk (by decide)) (Eq.trans (hI_nk (by decide)) (Eq.trans (hI_nk (by decide)) (hI_nk (by decide))))))) ?_
                            refine tr_iconst (pc := 199) (v := 1) k_fm_joint_199 (by decide) ?_
                            refine tr_iadd (pc := 200) k_fm_joint_200 ?_
                            refine tr_putI (pc := 201) k_fm_joint_201 fl_fm_155 (Or.inl rfl) rfl ⟨rfl, rfl⟩ ?_
                            refine tr_aload_n (pc := 204) 0 k_fm_joint_204 rfl rfl ?_
                            refine tr_callV (pc := 205) (d' := d + 1) (mc' := 0) (ms' := 0) [] k_fm_joint_205 ca_fm_changes ml_fm_152 ii_fm_changes ⟨by decide, rfl⟩ pa_fm_changes (by omega) (by omega) (by omega) rfl (Nat.le_of_ble_eq_true rfl) (Nat.le_of_ble_eq_true rfl) (Qk := fun v h9 => mT g me_fm_joint (d + 2) 0 0 208 [some (vr 10 0), some (vi x1), some (vi x2), some (vi x3), some (vi x4), some (vi x5)] (v.toList ++ []) h9 _) ?_ (fun _ _ z => z)
                            show mT g me_fm_changes (d + 1) 0 0 0 [some (vr 10 0)] [] (setI (setI (setI (setI (setI (setI (setI h 11 14 ((hI h 10 0 3).toNatClampNeg) (-9 : Int32)) 11 15 ((hI h 10 0 3).toNatClampNeg) (hI h 11 15 x2.toNatClampNeg)) 11 16 ((hI h 10 0 3).toNatClampNeg) x3) 11 17 ((hI h 10 0 3).toNatClampNeg) x4) 11 18 ((hI h 10 0 3).toNatClampNeg) x5) 11 20 ((hI h 10 0 3).toNatClampNeg) (-9 : Int32)) 10 0 3 ((hI h 10 0 3) + (1 : Int32))) _
                            refine tr_aload_n (pc := 0) 0 k_fm_changes_0 rfl rfl ?_
                            refine tr_iconst (pc := 1) (v := 0) k_fm_changes_1 (by decide) ?_
                            refine tr_putI (pc := 2) k_fm_changes_2 fl_fm_137 (Or.inl rfl) rfl ⟨rfl, rfl⟩ ?_
                            refine tr_return (pc := 5) k_fm_changes_5 rfl ?_
                            show mT g me_fm_joint (d + 2) 0 0 208 [some (vr 10 0), some (vi x1), some (vi x2), some (vi x3), some (vi x4), some (vi x5)] [] (setI (setI (setI (setI (setI (setI (setI (setI h 11 14 ((hI h 10 0 3).toNatClampNeg) (-9 : Int32)) 11 15 ((hI h 10 0 3).toNatClampNeg) (hI h 11 15 x2.toNatClampNeg)) 11 16 ((hI h 10 0 3).toNatClampNeg) x3) 11 17 ((hI h 10 0 3).toNatClampNeg) x4) 11 18 ((hI h 10 0 3).toNatClampNeg) x5) 11 20 ((hI h 10 0 3).toNatClampNeg) (-9 : Int32)) 10 0 3 ((hI h 10 0 3) + (1 : Int32))) 10 0 55 (0 : Int32)) _
                            refine tr_aload_n (pc := 208) 0 k_fm_joint_208 rfl rfl ?_
                            refine tr_getIx (pc := 209) k_fm_joint_209 fl_fm_155 rfl (Eq.trans (hI_nf (by decide)) (hI_eq)) ?_
                            refine tr_iconst (pc := 212) (v := 1) k_fm_joint_212 (by decide) ?_
                            refine tr_isub (pc := 213) k_fm_joint_213 ?_
                            refine tr_ireturn (pc := 214) k_fm_joint_214 rfl rfl ?_
                            exact hv
                          · replace hv := hv.2 q
                            refine tr_iload_n (pc := 140) 2 k_fm_joint_140 rfl rfl ?_
                            refine tr_goto (pc := 141) 150 k_fm_joint_141 (by decide) ?_
                            refine tr_iast (pc := 150) k_fm_joint_150 (mvin (hsk.2.1 11 15 _ rfl) hv.1) ?_
                            replace hv := hv.2
                            refine tr_aload_n (pc := 151) 0 k_fm_joint_151 rfl rfl ?_
                            refine tr_getP (pc := 152) k_fm_joint_152 fl_fm_44 rfl (Eq.trans (Eq.trans (hP_setI) (hP_setI)) (hsk.1 10 17 _ rfl)) ?_
                            refine tr_aload_n (pc := 155) 0 k_fm_joint_155 rfl rfl ?_
                            refine tr_getIx (pc := 156) k_fm_joint_156 fl_fm_155 rfl (Eq.trans (hI_nk (by decide)) (hI_nk (by decide))) ?_
                            refine tr_iload_n (pc := 159) 3 k_fm_joint_159 rfl rfl ?_
                            refine tr_iast (pc := 160) k_fm_joint_160 (mvin (hsk.2.1 11 16 _ rfl) hv.1) ?_
                            replace hv := hv.2
                            refine tr_aload_n (pc := 161) 0 k_fm_joint_161 rfl rfl ?_
                            refine tr_getP (pc := 162) k_fm_joint_162 fl_fm_47 rfl (Eq.trans (Eq.trans (hP_setI) (Eq.trans (hP_setI) (hP_setI))) (hsk.1 10 18 _ rfl)) ?_
                            refine tr_aload_n (pc := 165) 0 k_fm_joint_165 rfl rfl ?_
                            refine tr_getIx (pc := 166) k_fm_joint_166 fl_fm_155 rfl (Eq.trans (hI_nk (by decide)) (Eq.trans (hI_nk (by decide)) (hI_nk (by decide)))) ?_
                            refine tr_iload (pc := 169) k_fm_joint_169 rfl ?_
                            refine tr_iast (pc := 171) k_fm_joint_171 (mvin (hsk.2.1 11 17 _ rfl) hv.1) ?_
                            replace hv := hv.2
                            refine tr_aload_n (pc := 172) 0 k_fm_joint_172 rfl rfl ?_
                            refine tr_getP (pc := 173) k_fm_joint_173 fl_fm_50 rfl (Eq.trans (Eq.trans (hP_setI) (Eq.trans (hP_setI) (Eq.trans (hP_setI) (hP_setI)))) (hsk.1 10 19 _ rfl)) ?_
                            refine tr_aload_n (pc := 176) 0 k_fm_joint_176 rfl rfl ?_
                            refine tr_getIx (pc := 177) k_fm_joint_177 fl_fm_155 rfl (Eq.trans (hI_nk (by decide)) (Eq.trans (hI_nk (by decide)) (Eq.trans (hI_nk (by decide)) (hI_nk (by decide))))) ?_
                            refine tr_iload (pc := 180) k_fm_joint_180 rfl ?_
                            refine tr_iast (pc := 182) k_fm_joint_182 (mvin (hsk.2.1 11 18 _ rfl) hv.1) ?_
                            replace hv := hv.2
                            refine tr_aload_n (pc := 183) 0 k_fm_joint_183 rfl rfl ?_
                            refine tr_getP (pc := 184) k_fm_joint_184 fl_fm_56 rfl (Eq.trans (Eq.trans (hP_setI) (Eq.trans (hP_setI) (Eq.trans (hP_setI) (Eq.trans (hP_setI) (hP_setI))))) (hsk.1 10 21 _ rfl)) ?_
                            refine tr_aload_n (pc := 187) 0 k_fm_joint_187 rfl rfl ?_
                            refine tr_getIx (pc := 188) k_fm_joint_188 fl_fm_155 rfl (Eq.trans (hI_nk (by decide)) (Eq.trans (hI_nk (by decide)) (Eq.trans (hI_nk (by decide)) (Eq.trans (hI_nk (by decide)) (hI_nk (by decide)))))) ?_
                            refine tr_bipush (pc := 191) (v := -9) k_fm_joint_191 (by decide) ?_
                            refine tr_iast (pc := 193) k_fm_joint_193 (mvin (hsk.2.1 11 20 _ rfl) hv.1) ?_
                            replace hv := hv.2
                            refine tr_aload_n (pc := 194) 0 k_fm_joint_194 rfl rfl ?_
                            refine tr_dup (pc := 195) k_fm_joint_195 rfl ?_
                            refine tr_getIx (pc := 196) k_fm_joint_196 fl_fm_155 rfl (Eq.trans (hI_nk (by decide)) (Eq.trans (hI_nk (by decide)) (Eq.trans (hI_nk (by decide)) (Eq.trans (hI_nk (by decide)) (Eq.trans (hI_nk (by decide)) (hI_nk (by decide))))))) ?_
                            refine tr_iconst (pc := 199) (v := 1) k_fm_joint_199 (by decide) ?_
                            refine tr_iadd (pc := 200) k_fm_joint_200 ?_
                            refine tr_putI (pc := 201) k_fm_joint_201 fl_fm_155 (Or.inl rfl) rfl ⟨rfl, rfl⟩ ?_
                            refine tr_aload_n (pc := 204) 0 k_fm_joint_204 rfl rfl ?_
                            refine tr_callV (pc := 205) (d' := d + 1) (mc' := 0) (ms' := 0) [] k_fm_joint_205 ca_fm_changes ml_fm_152 ii_fm_changes ⟨by decide, rfl⟩ pa_fm_changes (by omega) (by omega) (by omega) rfl (Nat.le_of_ble_eq_true rfl) (Nat.le_of_ble_eq_true rfl) (Qk := fun v h9 => mT g me_fm_joint (d + 2) 0 0 208 [some (vr 10 0), some (vi x1), some (vi x2), some (vi x3), some (vi x4), some (vi x5)] (v.toList ++ []) h9 _) ?_ (fun _ _ z => z)
                            show mT g me_fm_changes (d + 1) 0 0 0 [some (vr 10 0)] [] (setI (setI (setI (setI (setI (setI (setI h 11 14 ((hI h 10 0 3).toNatClampNeg) (-9 : Int32)) 11 15 ((hI h 10 0 3).toNatClampNeg) x2) 11 16 ((hI h 10 0 3).toNatClampNeg) x3) 11 17 ((hI h 10 0 3).toNatClampNeg) x4) 11 18 ((hI h 10 0 3).toNatClampNeg) x5) 11 20 ((hI h 10 0 3).toNatClampNeg) (-9 : Int32)) 10 0 3 ((hI h 10 0 3) + (1 : Int32))) _
                            refine tr_aload_n (pc := 0) 0 k_fm_changes_0 rfl rfl ?_
                            refine tr_iconst (pc := 1) (v := 0) k_fm_changes_1 (by decide) ?_
                            refine tr_putI (pc := 2) k_fm_changes_2 fl_fm_137 (Or.inl rfl) rfl ⟨rfl, rfl⟩ ?_
                            refine tr_return (pc := 5) k_fm_changes_5 rfl ?_
                            show mT g me_fm_joint (d + 2) 0 0 208 [some (vr 10 0), some (vi x1), some (vi x2), some (vi x3), some (vi x4), some (vi x5)] [] (setI (setI (setI (setI (setI (setI (setI (setI h 11 14 ((hI h 10 0 3).toNatClampNeg) (-9 : Int32)) 11 15 ((hI h 10 0 3).toNatClampNeg) x2) 11 16 ((hI h 10 0 3).toNatClampNeg) x3) 11 17 ((hI h 10 0 3).toNatClampNeg) x4) 11 18 ((hI h 10 0 3).toNatClampNeg) x5) 11 20 ((hI h 10 0 3).toNatClampNeg) (-9 : Int32)) 10 0 3 ((hI h 10 0 3) + (1 : Int32))) 10 0 55 (0 : Int32)) _
                            refine tr_aload_n (pc := 208) 0 k_fm_joint_208 rfl rfl ?_
                            refine tr_getIx (pc := 209) k_fm_joint_209 fl_fm_155 rfl (Eq.trans (hI_nf (by decide)) (hI_eq)) ?_
                            refine tr_iconst (pc := 212) (v := 1) k_fm_joint_212 (by decide) ?_
                            refine tr_isub (pc := 213) k_fm_joint_213 ?_
                            refine tr_ireturn (pc := 214) k_fm_joint_214 rfl rfl ?_
                            exact hv
                      · replace hv := hv.2 q
                        refine tr_aload_n (pc := 93) 0 k_fm_joint_93 rfl rfl ?_
                        refine tr_getP (pc := 94) k_fm_joint_94 fl_fm_59 rfl (Eq.trans rfl (hsk.1 10 22 _ rfl)) ?_
                        refine tr_iload_n (pc := 97) 2 k_fm_joint_97 rfl rfl ?_
                        refine tr_zaldx (pc := 98) k_fm_joint_98 (mvin (hsk.2.1 12 0 _ rfl) hv.1) rfl ?_
                        replace hv := hv.2
                        refine tr_if_eq (pc := 99) 109 k_fm_joint_99 (by decide) (fun q => ?_) (fun q => ?_)
                        · replace hv := hv.1 q
                          refine tr_aload_n (pc := 109) 0 k_fm_joint_109 rfl rfl ?_
                          refine tr_getP (pc := 110) k_fm_joint_110 fl_fm_38 rfl (Eq.trans rfl (hsk.1 10 15 _ rfl)) ?_
                          refine tr_aload_n (pc := 113) 0 k_fm_joint_113 rfl rfl ?_
                          refine tr_getIx (pc := 114) k_fm_joint_114 fl_fm_155 rfl rfl ?_
                          refine tr_iload_n (pc := 117) 1 k_fm_joint_117 rfl rfl ?_
                          refine tr_if_eq (pc := 118) 126 k_fm_joint_118 (by decide) (fun q => ?_) (fun q => ?_)
                          · replace hv := hv.1 q
                            refine tr_iload_n (pc := 126) 2 k_fm_joint_126 rfl rfl ?_
                            refine tr_iast (pc := 127) k_fm_joint_127 (mvin (hsk.2.1 11 14 _ rfl) hv.1) ?_
                            replace hv := hv.2
                            refine tr_aload_n (pc := 128) 0 k_fm_joint_128 rfl rfl ?_
                            refine tr_getP (pc := 129) k_fm_joint_129 fl_fm_41 rfl (Eq.trans (hP_setI) (hsk.1 10 16 _ rfl)) ?_
                            refine tr_aload_n (pc := 132) 0 k_fm_joint_132 rfl rfl ?_
                            refine tr_getIx (pc := 133) k_fm_joint_133 fl_fm_155 rfl (hI_nk (by decide)) ?_
                            refine tr_iload_n (pc := 136) 1 k_fm_joint_136 rfl rfl ?_
                            refine tr_if_eq (pc := 137) 144 k_fm_joint_137 (by decide) (fun q => ?_) (fun q => ?_)
                            · replace hv := hv.1 q
                              refine tr_aload_n (pc := 144) 0 k_fm_joint_144 rfl rfl ?_
                              refine tr_getP (pc := 145) k_fm_joint_145 fl_fm_41 rfl (Eq.trans (hP_setI) (hsk.1 10 16 _ rfl)) ?_
                              refine tr_iload_n (pc := 148) 2 k_fm_joint_148 rfl rfl ?_
                              refine tr_ialdx (pc := 149) k_fm_joint_149 (mvin (hsk.2.1 11 15 _ rfl) hv.1) (hI_nn (by decide)) ?_
                              replace hv := hv.2
                              refine tr_iast (pc := 150) k_fm_joint_150 (mvin (hsk.2.1 11 15 _ rfl) hv.1) ?_
                              replace hv := hv.2
                              refine tr_aload_n (pc := 151) 0 k_fm_joint_151 rfl rfl ?_
                              refine tr_getP (pc := 152) k_fm_joint_152 fl_fm_44 rfl (Eq.trans (Eq.trans (hP_setI) (hP_setI)) (hsk.1 10 17 _ rfl)) ?_
                              refine tr_aload_n (pc := 155) 0 k_fm_joint_155 rfl rfl ?_
                              refine tr_getIx (pc := 156) k_fm_joint_156 fl_fm_155 rfl (Eq.trans (hI_nk (by decide)) (hI_nk (by decide))) ?_
                              refine tr_iload_n (pc := 159) 3 k_fm_joint_159 rfl rfl ?_
                              refine tr_iast (pc := 160) k_fm_joint_160 (mvin (hsk.2.1 11 16 _ rfl) hv.1) ?_
                              replace hv := hv.2
                              refine tr_aload_n (pc := 161) 0 k_fm_joint_161 rfl rfl ?_
                              refine tr_getP (pc := 162) k_fm_joint_162 fl_fm_47 rfl (Eq.trans (Eq.trans (hP_setI) (Eq.trans (hP_setI) (hP_setI))) (hsk.1 10 18 _ rfl)) ?_
                              refine tr_aload_n (pc := 165) 0 k_fm_joint_165 rfl rfl ?_
                              refine tr_getIx (pc := 166) k_fm_joint_166 fl_fm_155 rfl (Eq.trans (hI_nk (by decide)) (Eq.trans (hI_nk (by decide)) (hI_nk (by decide)))) ?_
                              refine tr_iload (pc := 169) k_fm_joint_169 rfl ?_
                              refine tr_iast (pc := 171) k_fm_joint_171 (mvin (hsk.2.1 11 17 _ rfl) hv.1) ?_
                              replace hv := hv.2
                              refine tr_aload_n (pc := 172) 0 k_fm_joint_172 rfl rfl ?_
                              refine tr_getP (pc := 173) k_fm_joint_173 fl_fm_50 rfl (Eq.trans (Eq.trans (hP_setI) (Eq.trans (hP_setI) (Eq.trans (hP_setI) (hP_setI)))) (hsk.1 10 19 _ rfl)) ?_
                              refine tr_aload_n (pc := 176) 0 k_fm_joint_176 rfl rfl ?_
                              refine tr_getIx (pc := 177) k_fm_joint_177 fl_fm_155 rfl (Eq.trans (hI_nk (by decide)) (Eq.trans (hI_nk (by decide)) (Eq.trans (hI_nk (by decide)) (hI_nk (by decide))))) ?_
                              refine tr_iload (pc := 180) k_fm_joint_180 rfl ?_
                              refine tr_iast (pc := 182) k_fm_joint_182 (mvin (hsk.2.1 11 18 _ rfl) hv.1) ?_
                              replace hv := hv.2
                              refine tr_aload_n (pc := 183) 0 k_fm_joint_183 rfl rfl ?_
                              refine tr_getP (pc := 184) k_fm_joint_184 fl_fm_56 rfl (Eq.trans (Eq.trans (hP_setI) (Eq.trans (hP_setI) (Eq.trans (hP_setI) (Eq.trans (hP_setI) (hP_setI))))) (hsk.1 10 21 _ rfl)) ?_
                              refine tr_aload_n (pc := 187) 0 k_fm_joint_187 rfl rfl ?_
                              refine tr_getIx (pc := 188) k_fm_joint_188 fl_fm_155 rfl (Eq.trans (hI_nk (by decide)) (Eq.trans (hI_nk (by decide)) (Eq.trans (hI_nk (by decide)) (Eq.trans (hI_nk (by decide)) (hI_nk (by decide)))))) ?_
                              refine tr_bipush (pc := 191) (v := -9) k_fm_joint_191 (by decide) ?_
                              refine tr_iast (pc := 193) k_fm_joint_193 (mvin (hsk.2.1 11 20 _ rfl) hv.1) ?_
                              replace hv := hv.2
                              refine tr_aload_n (pc := 194) 0 k_fm_joint_194 rfl rfl ?_
                              refine tr_dup (pc := 195) k_fm_joint_195 rfl ?_
                              refine tr_getIx (pc := 196) k_fm_joint_196 fl_fm_155 rfl (Eq.trans (hI_nk (by decide)) (Eq.trans (hI_nk (by decide)) (Eq.trans (hI_nk (by decide)) (Eq.trans (hI_nk (by decide)) (Eq.trans (hI_nk (by decide)) (hI_nk (by decide))))))) ?_
                              refine tr_iconst (pc := 199) (v := 1) k_fm_joint_199 (by decide) ?_
                              refine tr_iadd (pc := 200) k_fm_joint_200 ?_
                              refine tr_putI (pc := 201) k_fm_joint_201 fl_fm_155 (Or.inl rfl) rfl ⟨rfl, rfl⟩ ?_
                              refine tr_aload_n (pc := 204) 0 k_fm_joint_204 rfl rfl ?_
                              refine tr_callV (pc := 205) (d' := d + 1) (mc' := 0) (ms' := 0) [] k_fm_joint_205 ca_fm_changes ml_fm_152 ii_fm_changes ⟨by decide, rfl⟩ pa_fm_changes (by omega) (by omega) (by omega) rfl (Nat.le_of_ble_eq_true rfl) (Nat.le_of_ble_eq_true rfl) (Qk := fun v h9 => mT g me_fm_joint (d + 2) 0 0 208 [some (vr 10 0), some (vi x1), some (vi x2), some (vi x3), some (vi x4), some (vi x5)] (v.toList ++ []) h9 _) ?_ (fun _ _ z => z)
                              show mT g me_fm_changes (d + 1) 0 0 0 [some (vr 10 0)] [] (setI (setI (setI (setI (setI (setI (setI h 11 14 ((hI h 10 0 3).toNatClampNeg) x2) 11 15 ((hI h 10 0 3).toNatClampNeg) (hI h 11 15 x2.toNatClampNeg)) 11 16 ((hI h 10 0 3).toNatClampNeg) x3) 11 17 ((hI h 10 0 3).toNatClampNeg) x4) 11 18 ((hI h 10 0 3).toNatClampNeg) x5) 11 20 ((hI h 10 0 3).toNatClampNeg) (-9 : Int32)) 10 0 3 ((hI h 10 0 3) + (1 : Int32))) _
                              refine tr_aload_n (pc := 0) 0 k_fm_changes_0 rfl rfl ?_
                              refine tr_iconst (pc := 1) (v := 0) k_fm_changes_1 (by decide) ?_
                              refine tr_putI (pc := 2) k_fm_changes_2 fl_fm_137 (Or.inl rfl) rfl ⟨rfl, rfl⟩ ?_
                              refine tr_return (pc := 5) k_fm_changes_5 rfl ?_
                              show mT g me_fm_joint (d + 2) 0 0 208 [some (vr 10 0), some (vi x1), some (vi x2), some (vi x3), some (vi x4), some (vi x5)] [] (setI (setI (setI (setI (setI (setI (setI (setI h 11 14 ((hI h 10 0 3).toNatClampNeg) x2) 11 15 ((hI h 10 0 3).toNatClampNeg) (hI h 11 15 x2.toNatClampNeg)) 11 16 ((hI h 10 0 3).toNatClampNeg) x3) 11 17 ((hI h 10 0 3).toNatClampNeg) x4) 11 18 ((hI h 10 0 3).toNatClampNeg) x5) 11 20 ((hI h 10 0 3).toNatClampNeg) (-9 : Int32)) 10 0 3 ((hI h 10 0 3) + (1 : Int32))) 10 0 55 (0 : Int32)) _
                              refine tr_aload_n (pc := 208) 0 k_fm_joint_208 rfl rfl ?_
                              refine tr_getIx (pc := 209) k_fm_joint_209 fl_fm_155 rfl (Eq.trans (hI_nf (by decide)) (hI_eq)) ?_
                              refine tr_iconst (pc := 212) (v := 1) k_fm_joint_212 (by decide) ?_
                              refine tr_isub (pc := 213) k_fm_joint_213 ?_
                              refine tr_ireturn (pc := 214) k_fm_joint_214 rfl rfl ?_
                              exact hv
                            · replace hv := hv.2 q
                              refine tr_iload_n (pc := 140) 2 k_fm_joint_140 rfl rfl ?_
                              refine tr_goto (pc := 141) 150 k_fm_joint_141 (by decide) ?_
                              refine tr_iast (pc := 150) k_fm_joint_150 (mvin (hsk.2.1 11 15 _ rfl) hv.1) ?_
                              replace hv := hv.2
                              refine tr_aload_n (pc := 151) 0 k_fm_joint_151 rfl rfl ?_
                              refine tr_getP (pc := 152) k_fm_joint_152 fl_fm_44 rfl (Eq.trans (Eq.trans (hP_setI) (hP_setI)) (hsk.1 10 17 _ rfl)) ?_
                              refine tr_aload_n (pc := 155) 0 k_fm_joint_155 rfl rfl ?_
                              refine tr_getIx (pc := 156) k_fm_joint_156 fl_fm_155 rfl (Eq.trans (hI_nk (by decide)) (hI_nk (by decide))) ?_
                              refine tr_iload_n (pc := 159) 3 k_fm_joint_159 rfl rfl ?_
                              refine tr_iast (pc := 160) k_fm_joint_160 (mvin (hsk.2.1 11 16 _ rfl) hv.1) ?_
                              replace hv := hv.2
                              refine tr_aload_n (pc := 161) 0 k_fm_joint_161 rfl rfl ?_
                              refine tr_getP (pc := 162) k_fm_joint_162 fl_fm_47 rfl (Eq.trans (Eq.trans (hP_setI) (Eq.trans (hP_setI) (hP_setI))) (hsk.1 10 18 _ rfl)) ?_
                              refine tr_aload_n (pc := 165) 0 k_fm_joint_165 rfl rfl ?_
                              refine tr_getIx (pc := 166) k_fm_joint_166 fl_fm_155 rfl (Eq.trans (hI_nk (by decide)) (Eq.trans (hI_nk (by decide)) (hI_nk (by decide)))) ?_
                              refine tr_iload (pc := 169) k_fm_joint_169 rfl ?_
                              refine tr_iast (pc := 171) k_fm_joint_171 (mvin (hsk.2.1 11 17 _ rfl) hv.1) ?_
                              replace hv := hv.2
                              refine tr_aload_n (pc := 172) 0 k_fm_joint_172 rfl rfl ?_
                              refine tr_getP (pc := 173) k_fm_joint_173 fl_fm_50 rfl (Eq.trans (Eq.trans (hP_setI) (Eq.trans (hP_setI) (Eq.trans (hP_setI) (hP_setI)))) (hsk.1 10 19 _ rfl)) ?_
                              refine tr_aload_n (pc := 176) 0 k_fm_joint_176 rfl rfl ?_
                              refine tr_getIx (pc := 177) k_fm_joint_177 fl_fm_155 rfl (Eq.trans (hI_nk (by decide)) (Eq.trans (hI_nk (by decide)) (Eq.trans (hI_nk (by decide)) (hI_nk (by decide))))) ?_
                              refine tr_iload (pc := 180) k_fm_joint_180 rfl ?_
                              refine tr_iast (pc := 182) k_fm_joint_182 (mvin (hsk.2.1 11 18 _ rfl) hv.1) ?_
                              replace hv := hv.2
                              refine tr_aload_n (pc := 183) 0 k_fm_joint_183 rfl rfl ?_
                              refine tr_getP (pc := 184) k_fm_joint_184 fl_fm_56 rfl (Eq.trans (Eq.trans (hP_setI) (Eq.trans (hP_setI) (Eq.trans (hP_setI) (Eq.trans (hP_setI) (hP_setI))))) (hsk.1 10 21 _ rfl)) ?_
                              refine tr_aload_n (pc := 187) 0 k_fm_joint_187 rfl rfl ?_
                              refine tr_getIx (pc := 188) k_fm_joint_188 fl_fm_155 rfl (Eq.trans (hI_nk (by decide)) (Eq.trans (hI_nk (by decide)) (Eq.trans (hI_nk (by decide)) (Eq.trans (hI_nk (by decide)) (hI_nk (by decide)))))) ?_
                              refine tr_bipush (pc := 191) (v := -9) k_fm_joint_191 (by decide) ?_
                              refine tr_iast (pc := 193) k_fm_joint_193 (mvin (hsk.2.1 11 20 _ rfl) hv.1) ?_
                              replace hv := hv.2
                              refine tr_aload_n (pc := 194) 0 k_fm_joint_194 rfl rfl ?_
                              refine tr_dup (pc := 195) k_fm_joint_195 rfl ?_
                              refine tr_getIx (pc := 196) k_fm_joint_196 fl_fm_155 rfl (Eq.trans (hI_nk (by decide)) (Eq.trans (hI_nk (by decide)) (Eq.trans (hI_nk (by decide)) (Eq.trans (hI_nk (by decide)) (Eq.trans (hI_nk (by decide)) (hI_nk (by decide))))))) ?_
                              refine tr_iconst (pc := 199) (v := 1) k_fm_joint_199 (by decide) ?_
                              refine tr_iadd (pc := 200) k_fm_joint_200 ?_
                              refine tr_putI (pc := 201) k_fm_joint_201 fl_fm_155 (Or.inl rfl) rfl ⟨rfl, rfl⟩ ?_
                              refine tr_aload_n (pc := 204) 0 k_fm_joint_204 rfl rfl ?_
                              refine tr_callV (pc := 205) (d' := d + 1) (mc' := 0) (ms' := 0) [] k_fm_joint_205 ca_fm_changes ml_fm_152 ii_fm_changes ⟨by decide, rfl⟩ pa_fm_changes (by omega) (by omega) (by omega) rfl (Nat.le_of_ble_eq_true rfl) (Nat.le_of_ble_eq_true rfl) (Qk := fun v h9 => mT g me_fm_joint (d + 2) 0 0 208 [some (vr 10 0), some (vi x1), some (vi x2), some (vi x3), some (vi x4), some (vi x5)] (v.toList ++ []) h9 _) ?_ (fun _ _ z => z)
                              show mT g me_fm_changes (d + 1) 0 0 0 [some (vr 10 0)] [] (setI (setI (setI (setI (setI (setI (setI h 11 14 ((hI h 10 0 3).toNatClampNeg) x2) 11 15 ((hI h 10 0 3).toNatClampNeg) x2) 11 16 ((hI h 10 0 3).toNatClampNeg) x3) 11 17 ((hI h 10 0 3).toNatClampNeg) x4) 11 18 ((hI h 10 0 3).toNatClampNeg) x5) 11 20 ((hI h 10 0 3).toNatClampNeg) (-9 : Int32)) 10 0 3 ((hI h 10 0 3) + (1 : Int32))) _
                              refine tr_aload_n (pc := 0) 0 k_fm_changes_0 rfl rfl ?_
                              refine tr_iconst (pc := 1) (v := 0) k_fm_changes_1 (by decide) ?_
                              refine tr_putI (pc := 2) k_fm_changes_2 fl_fm_137 (Or.inl rfl) rfl ⟨rfl, rfl⟩ ?_
                              refine tr_return (pc := 5) k_fm_changes_5 rfl ?_
                              show mT g me_fm_joint (d + 2) 0 0 208 [some (vr 10 0), some (vi x1), some (vi x2), some (vi x3), some (vi x4), some (vi x5)] [] (setI (setI (setI (setI (setI (setI (setI (setI h 11 14 ((hI h 10 0 3).toNatClampNeg) x2) 11 15 ((hI h 10 0 3).toNatClampNeg) x2) 11 16 ((hI h 10 0 3).toNatClampNeg) x3) 11 17 ((hI h 10 0 3).toNatClampNeg) x4) 11 18 ((hI h 10 0 3).toNatClampNeg) x5) 11 20 ((hI h 10 0 3).toNatClampNeg) (-9 : Int32)) 10 0 3 ((hI h 10 0 3) + (1 : Int32))) 10 0 55 (0 : Int32)) _
                              refine tr_aload_n (pc := 208) 0 k_fm_joint_208 rfl rfl ?_
                              refine tr_getIx (pc := 209) k_fm_joint_209 fl_fm_155 rfl (Eq.trans (hI_nf (by decide)) (hI_eq)) ?_
                              refine tr_iconst (pc := 212) (v := 1) k_fm_joint_212 (by decide) ?_
                              refine tr_isub (pc := 213) k_fm_joint_213 ?_
                              refine tr_ireturn (pc := 214) k_fm_joint_214 rfl rfl ?_
                              exact hv
                          · replace hv := hv.2 q
                            refine tr_bipush (pc := 121) (v := -9) k_fm_joint_121 (by decide) ?_
                            refine tr_goto (pc := 123) 127 k_fm_joint_123 (by decide) ?_
                            refine tr_iast (pc := 127) k_fm_joint_127 (mvin (hsk.2.1 11 14 _ rfl) hv.1) ?_
                            replace hv := hv.2
                            refine tr_aload_n (pc := 128) 0 k_fm_joint_128 rfl rfl ?_
                            refine tr_getP (pc := 129) k_fm_joint_129 fl_fm_41 rfl (Eq.trans (hP_setI) (hsk.1 10 16 _ rfl)) ?_
                            refine tr_aload_n (pc := 132) 0 k_fm_joint_132 rfl rfl ?_
                            refine tr_getIx (pc := 133) k_fm_joint_133 fl_fm_155 rfl (hI_nk (by decide)) ?_
                            refine tr_iload_n (pc := 136) 1 k_fm_joint_136 rfl rfl ?_
                            refine tr_if_eq (pc := 137) 144 k_fm_joint_137 (by decide) (fun q => ?_) (fun q => ?_)
                            · replace hv := hv.1 q
                              refine tr_aload_n (pc := 144) 0 k_fm_joint_144 rfl rfl ?_
                              refine tr_getP (pc := 145) k_fm_joint_145 fl_fm_41 rfl (Eq.trans (hP_setI) (hsk.1 10 16 _ rfl)) ?_
                              refine tr_iload_n (pc := 148) 2 k_fm_joint_148 rfl rfl ?_
                              refine tr_ialdx (pc := 149) k_fm_joint_149 (mvin (hsk.2.1 11 15 _ rfl) hv.1) (hI_nn (by decide)) ?_
                              replace hv := hv.2
                              refine tr_iast (pc := 150) k_fm_joint_150 (mvin (hsk.2.1 11 15 _ rfl) hv.1) ?_
                              replace hv := hv.2
                              refine tr_aload_n (pc := 151) 0 k_fm_joint_151 rfl rfl ?_
                              refine tr_getP (pc := 152) k_fm_joint_152 fl_fm_44 rfl (Eq.trans (Eq.trans (hP_setI) (hP_setI)) (hsk.1 10 17 _ rfl)) ?_
                              refine tr_aload_n (pc := 155) 0 k_fm_joint_155 rfl rfl ?_
                              refine tr_getIx (pc := 156) k_fm_joint_156 fl_fm_155 rfl (Eq.trans (hI_nk (by decide)) (hI_nk (by decide))) ?_
                              refine tr_iload_n (pc := 159) 3 k_fm_joint_159 rfl rfl ?_
                              refine tr_iast (pc := 160) k_fm_joint_160 (mvin (hsk.2.1 11 16 _ rfl) hv.1) ?_
                              replace hv := hv.2
                              refine tr_aload_n (pc := 161) 0 k_fm_joint_161 rfl rfl ?_
                              refine tr_getP (pc := 162) k_fm_joint_162 fl_fm_47 rfl (Eq.trans (Eq.trans (hP_setI) (Eq.trans (hP_setI) (hP_setI))) (hsk.1 10 18 _ rfl)) ?_
                              refine tr_aload_n (pc := 165) 0 k_fm_joint_165 rfl rfl ?_
                              refine tr_getIx (pc := 166) k_fm_joint_166 fl_fm_155 rfl (Eq.trans (hI_nk (by decide)) (Eq.trans (hI_nk (by decide)) (hI_nk (by decide)))) ?_
                              refine tr_iload (pc := 169) k_fm_joint_169 rfl ?_
                              refine tr_iast (pc := 171) k_fm_joint_171 (mvin (hsk.2.1 11 17 _ rfl) hv.1) ?_
                              replace hv := hv.2
                              refine tr_aload_n (pc := 172) 0 k_fm_joint_172 rfl rfl ?_
                              refine tr_getP (pc := 173) k_fm_joint_173 fl_fm_50 rfl (Eq.trans (Eq.trans (hP_setI) (Eq.trans (hP_setI) (Eq.trans (hP_setI) (hP_setI)))) (hsk.1 10 19 _ rfl)) ?_
                              refine tr_aload_n (pc := 176) 0 k_fm_joint_176 rfl rfl ?_
                              refine tr_getIx (pc := 177) k_fm_joint_177 fl_fm_155 rfl (Eq.trans (hI_nk (by decide)) (Eq.trans (hI_nk (by decide)) (Eq.trans (hI_nk (by decide)) (hI_nk (by decide))))) ?_
                              refine tr_iload (pc := 180) k_fm_joint_180 rfl ?_
                              refine tr_iast (pc := 182) k_fm_joint_182 (mvin (hsk.2.1 11 18 _ rfl) hv.1) ?_
                              replace hv := hv.2
                              refine tr_aload_n (pc := 183) 0 k_fm_joint_183 rfl rfl ?_
                              refine tr_getP (pc := 184) k_fm_joint_184 fl_fm_56 rfl (Eq.trans (Eq.trans (hP_setI) (Eq.trans (hP_setI) (Eq.trans (hP_setI) (Eq.trans (hP_setI) (hP_setI))))) (hsk.1 10 21 _ rfl)) ?_
                              refine tr_aload_n (pc := 187) 0 k_fm_joint_187 rfl rfl ?_
                              refine tr_getIx (pc := 188) k_fm_joint_188 fl_fm_155 rfl (Eq.trans (hI_nk (by decide)) (Eq.trans (hI_nk (by decide)) (Eq.trans (hI_nk (by decide)) (Eq.trans (hI_nk (by decide)) (hI_nk (by decide)))))) ?_
                              refine tr_bipush (pc := 191) (v := -9) k_fm_joint_191 (by decide) ?_
                              refine tr_iast (pc := 193) k_fm_joint_193 (mvin (hsk.2.1 11 20 _ rfl) hv.1) ?_
                              replace hv := hv.2
                              refine tr_aload_n (pc := 194) 0 k_fm_joint_194 rfl rfl ?_
                              refine tr_dup (pc := 195) k_fm_joint_195 rfl ?_
                              refine tr_getIx (pc := 196) k_fm_joint_196 fl_fm_155 rfl (Eq.trans (hI_nk (by decide)) (Eq.trans (hI_nk (by decide)) (Eq.trans (hI_nk (by decide)) (Eq.trans (hI_nk (by decide)) (Eq.trans (hI_nk (by decide)) (hI_nk (by decide))))))) ?_
                              refine tr_iconst (pc := 199) (v := 1) k_fm_joint_199 (by decide) ?_
                              refine tr_iadd (pc := 200) k_fm_joint_200 ?_
                              refine tr_putI (pc := 201) k_fm_joint_201 fl_fm_155 (Or.inl rfl) rfl ⟨rfl, rfl⟩ ?_
                              refine tr_aload_n (pc := 204) 0 k_fm_joint_204 rfl rfl ?_
                              refine tr_callV (pc := 205) (d' := d + 1) (mc' := 0) (ms' := 0) [] k_fm_joint_205 ca_fm_changes ml_fm_152 ii_fm_changes ⟨by decide, rfl⟩ pa_fm_changes (by omega) (by omega) (by omega) rfl (Nat.le_of_ble_eq_true rfl) (Nat.le_of_ble_eq_true rfl) (Qk := fun v h9 => mT g me_fm_joint (d + 2) 0 0 208 [some (vr 10 0), some (vi x1), some (vi x2), some (vi x3), some (vi x4), some (vi x5)] (v.toList ++ []) h9 _) ?_ (fun _ _ z => z)
                              show mT g me_fm_changes (d + 1) 0 0 0 [some (vr 10 0)] [] (setI (setI (setI (setI (setI (setI (setI h 11 14 ((hI h 10 0 3).toNatClampNeg) (-9 : Int32)) 11 15 ((hI h 10 0 3).toNatClampNeg) (hI h 11 15 x2.toNatClampNeg)) 11 16 ((hI h 10 0 3).toNatClampNeg) x3) 11 17 ((hI h 10 0 3).toNatClampNeg) x4) 11 18 ((hI h 10 0 3).toNatClampNeg) x5) 11 20 ((hI h 10 0 3).toNatClampNeg) (-9 : Int32)) 10 0 3 ((hI h 10 0 3) + (1 : Int32))) _
                              refine tr_aload_n (pc := 0) 0 k_fm_changes_0 rfl rfl ?_
                              refine tr_iconst (pc := 1) (v := 0) k_fm_changes_1 (by decide) ?_
                              refine tr_putI (pc := 2) k_fm_changes_2 fl_fm_137 (Or.inl rfl) rfl ⟨rfl, rfl⟩ ?_
                              refine tr_return (pc := 5) k_fm_changes_5 rfl ?_
                              show mT g me_fm_joint (d + 2) 0 0 208 [some (vr 10 0), some (vi x1), some (vi x2), some (vi x3), some (vi x4), some (vi x5)] [] (setI (setI (setI (setI (setI (setI (setI (setI h 11 14 ((hI h 10 0 3).toNatClampNeg) (-9 : Int32)) 11 15 ((hI h 10 0 3).toNatClampNeg) (hI h 11 15 x2.toNatClampNeg)) 11 16 ((hI h 10 0 3).toNatClampNeg) x3) 11 17 ((hI h 10 0 3).toNatClampNeg) x4) 11 18 ((hI h 10 0 3).toNatClampNeg) x5) 11 20 ((hI h 10 0 3).toNatClampNeg) (-9 : Int32)) 10 0 3 ((hI h 10 0 3) + (1 : Int32))) 10 0 55 (0 : Int32)) _
                              refine tr_aload_n (pc := 208) 0 k_fm_joint_208 rfl rfl ?_
                              refine tr_getIx (pc := 209) k_fm_joint_209 fl_fm_155 rfl (Eq.trans (hI_nf (by decide)) (hI_eq)) ?_
                              refine tr_iconst (pc := 212) (v := 1) k_fm_joint_212 (by decide) ?_
                              refine tr_isub (pc := 213) k_fm_joint_213 ?_
                              refine tr_ireturn (pc := 214) k_fm_joint_214 rfl rfl ?_
                              exact hv
                            · replace hv := hv.2 q
                              refine tr_iload_n (pc := 140) 2 k_fm_joint_140 rfl rfl ?_
                              refine tr_goto (pc := 141) 150 k_fm_joint_141 (by decide) ?_
                              refine tr_iast (pc := 150) k_fm_joint_150 (mvin (hsk.2.1 11 15 _ rfl) hv.1) ?_
                              replace hv := hv.2
                              refine tr_aload_n (pc := 151) 0 k_fm_joint_151 rfl rfl ?_
                              refine tr_getP (pc := 152) k_fm_joint_152 fl_fm_44 rfl (Eq.trans (Eq.trans (hP_setI) (hP_setI)) (hsk.1 10 17 _ rfl)) ?_
                              refine tr_aload_n (pc := 155) 0 k_fm_joint_155 rfl rfl ?_
                              refine tr_getIx (pc := 156) k_fm_joint_156 fl_fm_155 rfl (Eq.trans (hI_nk (by decide)) (hI_nk (by decide))) ?_
                              refine tr_iload_n (pc := 159) 3 k_fm_joint_159 rfl rfl ?_
                              refine tr_iast (pc := 160) k_fm_joint_160 (mvin (hsk.2.1 11 16 _ rfl) hv.1) ?_
                              replace hv := hv.2
                              refine tr_aload_n (pc := 161) 0 k_fm_joint_161 rfl rfl ?_
                              refine tr_getP (pc := 162) k_fm_joint_162 fl_fm_47 rfl (Eq.trans (Eq.trans (hP_setI) (Eq.trans (hP_setI) (hP_setI))) (hsk.1 10 18 _ rfl)) ?_
                              refine tr_aload_n (pc := 165) 0 k_fm_joint_165 rfl rfl ?_
                              refine tr_getIx (pc := 166) k_fm_joint_166 fl_fm_155 rfl (Eq.trans (hI_nk (by decide)) (Eq.trans (hI_nk (by decide)) (hI_nk (by decide)))) ?_
                              refine tr_iload (pc := 169) k_fm_joint_169 rfl ?_
                              refine tr_iast (pc := 171) k_fm_joint_171 (mvin (hsk.2.1 11 17 _ rfl) hv.1) ?_
                              replace hv := hv.2
                              refine tr_aload_n (pc := 172) 0 k_fm_joint_172 rfl rfl ?_
                              refine tr_getP (pc := 173) k_fm_joint_173 fl_fm_50 rfl (Eq.trans (Eq.trans (hP_setI) (Eq.trans (hP_setI) (Eq.trans (hP_setI) (hP_setI)))) (hsk.1 10 19 _ rfl)) ?_
                              refine tr_aload_n (pc := 176) 0 k_fm_joint_176 rfl rfl ?_
                              refine tr_getIx (pc := 177) k_fm_joint_177 fl_fm_155 rfl (Eq.trans (hI_nk (by decide)) (Eq.trans (hI_nk (by decide)) (Eq.trans (hI_nk (by decide)) (hI_nk (by decide))))) ?_
                              refine tr_iload (pc := 180) k_fm_joint_180 rfl ?_
                              refine tr_iast (pc := 182) k_fm_joint_182 (mvin (hsk.2.1 11 18 _ rfl) hv.1) ?_
                              replace hv := hv.2
                              refine tr_aload_n (pc := 183) 0 k_fm_joint_183 rfl rfl ?_
                              refine tr_getP (pc := 184) k_fm_joint_184 fl_fm_56 rfl (Eq.trans (Eq.trans (hP_setI) (Eq.trans (hP_setI) (Eq.trans (hP_setI) (Eq.trans (hP_setI) (hP_setI))))) (hsk.1 10 21 _ rfl)) ?_
                              refine tr_aload_n (pc := 187) 0 k_fm_joint_187 rfl rfl ?_
                              refine tr_getIx (pc := 188) k_fm_joint_188 fl_fm_155 rfl (Eq.trans (hI_nk (by decide)) (Eq.trans (hI_nk (by decide)) (Eq.trans (hI_nk (by decide)) (Eq.trans (hI_nk (by decide)) (hI_nk (by decide)))))) ?_
                              refine tr_bipush (pc := 191) (v := -9) k_fm_joint_191 (by decide) ?_
                              refine tr_iast (pc := 193) k_fm_joint_193 (mvin (hsk.2.1 11 20 _ rfl) hv.1) ?_
                              replace hv := hv.2
                              refine tr_aload_n (pc := 194) 0 k_fm_joint_194 rfl rfl ?_
                              refine tr_dup (pc := 195) k_fm_joint_195 rfl ?_
                              refine tr_getIx (pc := 196) k_fm_joint_196 fl_fm_155 rfl (Eq.trans (hI_nk (by decide)) (Eq.trans (hI_nk (by decide)) (Eq.trans (hI_nk (by decide)) (Eq.trans (hI_nk (by decide)) (Eq.trans (hI_nk (by decide)) (hI_nk (by decide))))))) ?_
                              refine tr_iconst (pc := 199) (v := 1) k_fm_joint_199 (by decide) ?_
                              refine tr_iadd (pc := 200) k_fm_joint_200 ?_
                              refine tr_putI (pc := 201) k_fm_joint_201 fl_fm_155 (Or.inl rfl) rfl ⟨rfl, rfl⟩ ?_
                              refine tr_aload_n (pc := 204) 0 k_fm_joint_204 rfl rfl ?_
                              refine tr_callV (pc := 205) (d' := d + 1) (mc' := 0) (ms' := 0) [] k_fm_joint_205 ca_fm_changes ml_fm_152 ii_fm_changes ⟨by decide, rfl⟩ pa_fm_changes (by omega) (by omega) (by omega) rfl (Nat.le_of_ble_eq_true rfl) (Nat.le_of_ble_eq_true rfl) (Qk := fun v h9 => mT g me_fm_joint (d + 2) 0 0 208 [some (vr 10 0), some (vi x1), some (vi x2), some (vi x3), some (vi x4), some (vi x5)] (v.toList ++ []) h9 _) ?_ (fun _ _ z => z)
                              show mT g me_fm_changes (d + 1) 0 0 0 [some (vr 10 0)] [] (setI (setI (setI (setI (setI (setI (setI h 11 14 ((hI h 10 0 3).toNatClampNeg) (-9 : Int32)) 11 15 ((hI h 10 0 3).toNatClampNeg) x2) 11 16 ((hI h 10 0 3).toNatClampNeg) x3) 11 17 ((hI h 10 0 3).toNatClampNeg) x4) 11 18 ((hI h 10 0 3).toNatClampNeg) x5) 11 20 ((hI h 10 0 3).toNatClampNeg) (-9 : Int32)) 10 0 3 ((hI h 10 0 3) + (1 : Int32))) _
                              refine tr_aload_n (pc := 0) 0 k_fm_changes_0 rfl rfl ?_
                              refine tr_iconst (pc := 1) (v := 0) k_fm_changes_1 (by decide) ?_
                              refine tr_putI (pc := 2) k_fm_changes_2 fl_fm_137 (Or.inl rfl) rfl ⟨rfl, rfl⟩ ?_
                              refine tr_return (pc := 5) k_fm_changes_5 rfl ?_
                              show mT g me_fm_joint (d + 2) 0 0 208 [some (vr 10 0), some (vi x1), some (vi x2), some (vi x3), some (vi x4), some (vi x5)] [] (setI (setI (setI (setI (setI (setI (setI (setI h 11 14 ((hI h 10 0 3).toNatClampNeg) (-9 : Int32)) 11 15 ((hI h 10 0 3).toNatClampNeg) x2) 11 16 ((hI h 10 0 3).toNatClampNeg) x3) 11 17 ((hI h 10 0 3).toNatClampNeg) x4) 11 18 ((hI h 10 0 3).toNatClampNeg) x5) 11 20 ((hI h 10 0 3).toNatClampNeg) (-9 : Int32)) 10 0 3 ((hI h 10 0 3) + (1 : Int32))) 10 0 55 (0 : Int32)) _
                              refine tr_aload_n (pc := 208) 0 k_fm_joint_208 rfl rfl ?_
                              refine tr_getIx (pc := 209) k_fm_joint_209 fl_fm_155 rfl (Eq.trans (hI_nf (by decide)) (hI_eq)) ?_
                              refine tr_iconst (pc := 212) (v := 1) k_fm_joint_212 (by decide) ?_
                              refine tr_isub (pc := 213) k_fm_joint_213 ?_
                              refine tr_ireturn (pc := 214) k_fm_joint_214 rfl rfl ?_
                              exact hv
                        · replace hv := hv.2 q
                          refine tr_aload_n (pc := 102) 0 k_fm_joint_102 rfl rfl ?_
                          refine tr_bipush (pc := 103) (v := -3) k_fm_joint_103 (by decide) ?_
                          refine tr_callV (pc := 105) (d' := d + 1) (mc' := 0) (ms' := 0) [vi (-3 : Int32)] k_fm_joint_105 ca_fm_refuse ml_fm_133 ii_fm_refuse ⟨by decide, rfl⟩ pa_fm_refuse (by omega) (by omega) (by omega) rfl (Nat.le_of_ble_eq_true rfl) (Nat.le_of_ble_eq_true rfl) hv (fun v h9 hv => ?_)
                          obtain ⟨y16, rfl, hv⟩ := hv
                          obtain ⟨h15, eh⟩ : ∃ z, z = h9 := ⟨_, rfl⟩
                          subst eh
                          obtain ⟨hskh15, hv⟩ := hv
                          show mT g me_fm_joint (d + 2) 0 0 108 [some (vr 10 0), some (vi x1), some (vi x2), some (vi x3), some (vi x4), some (vi x5)] [vi y16] h15 _
                          refine tr_ireturn (pc := 108) k_fm_joint_108 rfl rfl ?_
                          exact hv
                    · replace hv := hv.2 q
                      refine tr_aload_n (pc := 82) 0 k_fm_joint_82 rfl rfl ?_
                      refine tr_bipush (pc := 83) (v := -6) k_fm_joint_83 (by decide) ?_
                      refine tr_callV (pc := 85) (d' := d + 1) (mc' := 0) (ms' := 0) [vi (-6 : Int32)] k_fm_joint_85 ca_fm_refuse ml_fm_133 ii_fm_refuse ⟨by decide, rfl⟩ pa_fm_refuse (by omega) (by omega) (by omega) rfl (Nat.le_of_ble_eq_true rfl) (Nat.le_of_ble_eq_true rfl) hv (fun v h9 hv => ?_)
                      obtain ⟨y18, rfl, hv⟩ := hv
                      obtain ⟨h17, eh⟩ : ∃ z, z = h9 := ⟨_, rfl⟩
                      subst eh
                      obtain ⟨hskh17, hv⟩ := hv
                      show mT g me_fm_joint (d + 2) 0 0 88 [some (vr 10 0), some (vi x1), some (vi x2), some (vi x3), some (vi x4), some (vi x5)] [vi y18] h17 _
                      refine tr_ireturn (pc := 88) k_fm_joint_88 rfl rfl ?_
                      exact hv
            · replace hv := hv.2 q
              refine tr_aload_n (pc := 44) 0 k_fm_joint_44 rfl rfl ?_
              refine tr_bipush (pc := 45) (v := -4) k_fm_joint_45 (by decide) ?_
              refine tr_callV (pc := 47) (d' := d + 1) (mc' := 0) (ms' := 0) [vi (-4 : Int32)] k_fm_joint_47 ca_fm_refuse ml_fm_133 ii_fm_refuse ⟨by decide, rfl⟩ pa_fm_refuse (by omega) (by omega) (by omega) rfl (Nat.le_of_ble_eq_true rfl) (Nat.le_of_ble_eq_true rfl) hv (fun v h9 hv => ?_)
              obtain ⟨y20, rfl, hv⟩ := hv
              obtain ⟨h19, eh⟩ : ∃ z, z = h9 := ⟨_, rfl⟩
              subst eh
              obtain ⟨hskh19, hv⟩ := hv
              show mT g me_fm_joint (d + 2) 0 0 50 [some (vr 10 0), some (vi x1), some (vi x2), some (vi x3), some (vi x4), some (vi x5)] [vi y20] h19 _
              refine tr_ireturn (pc := 50) k_fm_joint_50 rfl rfl ?_
              exact hv
  · replace hv := hv.2 q
    refine tr_aload_n (pc := 5) 0 k_fm_joint_5 rfl rfl ?_
    refine tr_getIx (pc := 6) k_fm_joint_6 fl_fm_141 rfl rfl ?_
    refine tr_goto (pc := 9) 16 k_fm_joint_9 (by decide) ?_
    refine tr_callS (pc := 16) (d' := d + 1) (mc' := 0) (ms' := 0) [vi x2, vi (hI h 10 0 2)] k_fm_joint_16 ca_fm_isIn ml_fm_144 is_fm_isIn pa_fm_isIn (by omega) (by omega) (by omega) rfl (Nat.le_of_ble_eq_true rfl) (Nat.le_of_ble_eq_true rfl) (Qk := fun v h9 => mT g me_fm_joint (d + 2) 0 0 19 [some (vr 10 0), some (vi x1), some (vi x2), some (vi x3), some (vi x4), some (vi x5)] (v.toList ++ []) h9 _) ?_ (fun _ _ z => z)
    show mT g me_fm_isIn (d + 1) 0 0 0 [some (vi x2), some (vi (hI h 10 0 2))] [] h _
    refine tr_iload_n (pc := 0) 0 k_fm_isIn_0 rfl rfl ?_
    refine tr_if_lt (pc := 1) 13 k_fm_isIn_1 (by decide) (fun q => ?_) (fun q => ?_)
    · replace hv := hv.1 q
      refine tr_iconst (pc := 13) (v := 0) k_fm_isIn_13 (by decide) ?_
      refine tr_ireturn (pc := 14) k_fm_isIn_14 rfl rfl ?_
      show mT g me_fm_joint (d + 2) 0 0 19 [some (vr 10 0), some (vi x1), some (vi x2), some (vi x3), some (vi x4), some (vi x5)] [vi (0 : Int32)] h _
      refine tr_if_ne (pc := 19) 28 k_fm_joint_19 (by decide) (fun q => absurd q (by decide)) (fun _ => ?_)
      refine tr_aload_n (pc := 22) 0 k_fm_joint_22 rfl rfl ?_
      refine tr_iconst (pc := 23) (v := -1) k_fm_joint_23 (by decide) ?_
      refine tr_callV (pc := 24) (d' := d + 1) (mc' := 0) (ms' := 0) [vi (-1 : Int32)] k_fm_joint_24 ca_fm_refuse ml_fm_133 ii_fm_refuse ⟨by decide, rfl⟩ pa_fm_refuse (by omega) (by omega) (by omega) rfl (Nat.le_of_ble_eq_true rfl) (Nat.le_of_ble_eq_true rfl) hv (fun v h9 hv => ?_)
      obtain ⟨y22, rfl, hv⟩ := hv
      obtain ⟨h21, eh⟩ : ∃ z, z = h9 := ⟨_, rfl⟩
      subst eh
      obtain ⟨hskh21, hv⟩ := hv
      show mT g me_fm_joint (d + 2) 0 0 27 [some (vr 10 0), some (vi x1), some (vi x2), some (vi x3), some (vi x4), some (vi x5)] [vi y22] h21 _
      refine tr_ireturn (pc := 27) k_fm_joint_27 rfl rfl ?_
      exact hv
    · replace hv := hv.2 q
      refine tr_iload_n (pc := 4) 0 k_fm_isIn_4 rfl rfl ?_
      refine tr_iload_n (pc := 5) 1 k_fm_isIn_5 rfl rfl ?_
      refine tr_icmp_ge (pc := 6) 13 k_fm_isIn_6 (by decide) (fun q => ?_) (fun q => ?_)
      · replace hv := hv.1 q
        refine tr_iconst (pc := 13) (v := 0) k_fm_isIn_13 (by decide) ?_
        refine tr_ireturn (pc := 14) k_fm_isIn_14 rfl rfl ?_
        show mT g me_fm_joint (d + 2) 0 0 19 [some (vr 10 0), some (vi x1), some (vi x2), some (vi x3), some (vi x4), some (vi x5)] [vi (0 : Int32)] h _
        refine tr_if_ne (pc := 19) 28 k_fm_joint_19 (by decide) (fun q => absurd q (by decide)) (fun _ => ?_)
        refine tr_aload_n (pc := 22) 0 k_fm_joint_22 rfl rfl ?_
        refine tr_iconst (pc := 23) (v := -1) k_fm_joint_23 (by decide) ?_
        refine tr_callV (pc := 24) (d' := d + 1) (mc' := 0) (ms' := 0) [vi (-1 : Int32)] k_fm_joint_24 ca_fm_refuse ml_fm_133 ii_fm_refuse ⟨by decide, rfl⟩ pa_fm_refuse (by omega) (by omega) (by omega) rfl (Nat.le_of_ble_eq_true rfl) (Nat.le_of_ble_eq_true rfl) hv (fun v h9 hv => ?_)
        obtain ⟨y24, rfl, hv⟩ := hv
        obtain ⟨h23, eh⟩ : ∃ z, z = h9 := ⟨_, rfl⟩
        subst eh
        obtain ⟨hskh23, hv⟩ := hv
        show mT g me_fm_joint (d + 2) 0 0 27 [some (vr 10 0), some (vi x1), some (vi x2), some (vi x3), some (vi x4), some (vi x5)] [vi y24] h23 _
        refine tr_ireturn (pc := 27) k_fm_joint_27 rfl rfl ?_
        exact hv
      · replace hv := hv.2 q
        refine tr_iconst (pc := 9) (v := 1) k_fm_isIn_9 (by decide) ?_
        refine tr_goto (pc := 10) 14 k_fm_isIn_10 (by decide) ?_
        refine tr_ireturn (pc := 14) k_fm_isIn_14 rfl rfl ?_
        show mT g me_fm_joint (d + 2) 0 0 19 [some (vr 10 0), some (vi x1), some (vi x2), some (vi x3), some (vi x4), some (vi x5)] [vi (1 : Int32)] h _
        refine tr_if_ne (pc := 19) 28 k_fm_joint_19 (by decide) (fun _ => ?_) (fun q => absurd q (by decide))
        refine tr_iload_n (pc := 28) 3 k_fm_joint_28 rfl rfl ?_
        refine tr_if_lt (pc := 29) 44 k_fm_joint_29 (by decide) (fun q => ?_) (fun q => ?_)
        · replace hv := hv.1 q
          refine tr_aload_n (pc := 44) 0 k_fm_joint_44 rfl rfl ?_
          refine tr_bipush (pc := 45) (v := -4) k_fm_joint_45 (by decide) ?_
          refine tr_callV (pc := 47) (d' := d + 1) (mc' := 0) (ms' := 0) [vi (-4 : Int32)] k_fm_joint_47 ca_fm_refuse ml_fm_133 ii_fm_refuse ⟨by decide, rfl⟩ pa_fm_refuse (by omega) (by omega) (by omega) rfl (Nat.le_of_ble_eq_true rfl) (Nat.le_of_ble_eq_true rfl) hv (fun v h9 hv => ?_)
          obtain ⟨y26, rfl, hv⟩ := hv
          obtain ⟨h25, eh⟩ : ∃ z, z = h9 := ⟨_, rfl⟩
          subst eh
          obtain ⟨hskh25, hv⟩ := hv
          show mT g me_fm_joint (d + 2) 0 0 50 [some (vr 10 0), some (vi x1), some (vi x2), some (vi x3), some (vi x4), some (vi x5)] [vi y26] h25 _
          refine tr_ireturn (pc := 50) k_fm_joint_50 rfl rfl ?_
          exact hv
        · replace hv := hv.2 q
          refine tr_iload (pc := 32) k_fm_joint_32 rfl ?_
          refine tr_iconst (pc := 34) (v := 1) k_fm_joint_34 (by decide) ?_
          refine tr_icmp_lt (pc := 35) 44 k_fm_joint_35 (by decide) (fun q => ?_) (fun q => ?_)
          · replace hv := hv.1 q
            refine tr_aload_n (pc := 44) 0 k_fm_joint_44 rfl rfl ?_
            refine tr_bipush (pc := 45) (v := -4) k_fm_joint_45 (by decide) ?_
            refine tr_callV (pc := 47) (d' := d + 1) (mc' := 0) (ms' := 0) [vi (-4 : Int32)] k_fm_joint_47 ca_fm_refuse ml_fm_133 ii_fm_refuse ⟨by decide, rfl⟩ pa_fm_refuse (by omega) (by omega) (by omega) rfl (Nat.le_of_ble_eq_true rfl) (Nat.le_of_ble_eq_true rfl) hv (fun v h9 hv => ?_)
            obtain ⟨y28, rfl, hv⟩ := hv
            obtain ⟨h27, eh⟩ : ∃ z, z = h9 := ⟨_, rfl⟩
            subst eh
            obtain ⟨hskh27, hv⟩ := hv
            show mT g me_fm_joint (d + 2) 0 0 50 [some (vr 10 0), some (vi x1), some (vi x2), some (vi x3), some (vi x4), some (vi x5)] [vi y28] h27 _
            refine tr_ireturn (pc := 50) k_fm_joint_50 rfl rfl ?_
            exact hv
          · replace hv := hv.2 q
            refine tr_iload (pc := 38) k_fm_joint_38 rfl ?_
            refine tr_iconst (pc := 40) (v := 1) k_fm_joint_40 (by decide) ?_
            refine tr_icmp_ge (pc := 41) 51 k_fm_joint_41 (by decide) (fun q => ?_) (fun q => ?_)
            · replace hv := hv.1 q
              refine tr_iload_n (pc := 51) 3 k_fm_joint_51 rfl rfl ?_
              refine tr_sipush (pc := 52) (v := 500) k_fm_joint_52 (by decide) ?_
              refine tr_icmp_gt (pc := 55) 82 k_fm_joint_55 (by decide) (fun q => ?_) (fun q => ?_)
              · replace hv := hv.1 q
                refine tr_aload_n (pc := 82) 0 k_fm_joint_82 rfl rfl ?_
                refine tr_bipush (pc := 83) (v := -6) k_fm_joint_83 (by decide) ?_
                refine tr_callV (pc := 85) (d' := d + 1) (mc' := 0) (ms' := 0) [vi (-6 : Int32)] k_fm_joint_85 ca_fm_refuse ml_fm_133 ii_fm_refuse ⟨by decide, rfl⟩ pa_fm_refuse (by omega) (by omega) (by omega) rfl (Nat.le_of_ble_eq_true rfl) (Nat.le_of_ble_eq_true rfl) hv (fun v h9 hv => ?_)
                obtain ⟨y30, rfl, hv⟩ := hv
                obtain ⟨h29, eh⟩ : ∃ z, z = h9 := ⟨_, rfl⟩
                subst eh
                obtain ⟨hskh29, hv⟩ := hv
                show mT g me_fm_joint (d + 2) 0 0 88 [some (vr 10 0), some (vi x1), some (vi x2), some (vi x3), some (vi x4), some (vi x5)] [vi y30] h29 _
                refine tr_ireturn (pc := 88) k_fm_joint_88 rfl rfl ?_
                exact hv
              · replace hv := hv.2 q
                refine tr_iload (pc := 58) k_fm_joint_58 rfl ?_
                refine tr_bipush (pc := 60) (v := 9) k_fm_joint_60 (by decide) ?_
                refine tr_icmp_gt (pc := 62) 82 k_fm_joint_62 (by decide) (fun q => ?_) (fun q => ?_)
                · replace hv := hv.1 q
                  refine tr_aload_n (pc := 82) 0 k_fm_joint_82 rfl rfl ?_
                  refine tr_bipush (pc := 83) (v := -6) k_fm_joint_83 (by decide) ?_
                  refine tr_callV (pc := 85) (d' := d + 1) (mc' := 0) (ms' := 0) [vi (-6 : Int32)] k_fm_joint_85 ca_fm_refuse ml_fm_133 ii_fm_refuse ⟨by decide, rfl⟩ pa_fm_refuse (by omega) (by omega) (by omega) rfl (Nat.le_of_ble_eq_true rfl) (Nat.le_of_ble_eq_true rfl) hv (fun v h9 hv => ?_)
                  obtain ⟨y32, rfl, hv⟩ := hv
                  obtain ⟨h31, eh⟩ : ∃ z, z = h9 := ⟨_, rfl⟩
                  subst eh
                  obtain ⟨hskh31, hv⟩ := hv
                  show mT g me_fm_joint (d + 2) 0 0 88 [some (vr 10 0), some (vi x1), some (vi x2), some (vi x3), some (vi x4), some (vi x5)] [vi y32] h31 _
                  refine tr_ireturn (pc := 88) k_fm_joint_88 rfl rfl ?_
                  exact hv
                · replace hv := hv.2 q
                  refine tr_iload (pc := 65) k_fm_joint_65 rfl ?_
                  refine tr_sipush (pc := 67) (v := 200) k_fm_joint_67 (by decide) ?_
                  refine tr_icmp_gt (pc := 70) 82 k_fm_joint_70 (by decide) (fun q => ?_) (fun q => ?_)
                  · replace hv := hv.1 q
                    refine tr_aload_n (pc := 82) 0 k_fm_joint_82 rfl rfl ?_
                    refine tr_bipush (pc := 83) (v := -6) k_fm_joint_83 (by decide) ?_
                    refine tr_callV (pc := 85) (d' := d + 1) (mc' := 0) (ms' := 0) [vi (-6 : Int32)] k_fm_joint_85 ca_fm_refuse ml_fm_133 ii_fm_refuse ⟨by decide, rfl⟩ pa_fm_refuse (by omega) (by omega) (by omega) rfl (Nat.le_of_ble_eq_true rfl) (Nat.le_of_ble_eq_true rfl) hv (fun v h9 hv => ?_)
                    obtain ⟨y34, rfl, hv⟩ := hv
                    obtain ⟨h33, eh⟩ : ∃ z, z = h9 := ⟨_, rfl⟩
                    subst eh
                    obtain ⟨hskh33, hv⟩ := hv
                    show mT g me_fm_joint (d + 2) 0 0 88 [some (vr 10 0), some (vi x1), some (vi x2), some (vi x3), some (vi x4), some (vi x5)] [vi y34] h33 _
                    refine tr_ireturn (pc := 88) k_fm_joint_88 rfl rfl ?_
                    exact hv
                  · replace hv := hv.2 q
                    refine tr_aload_n (pc := 73) 0 k_fm_joint_73 rfl rfl ?_
                    refine tr_getIx (pc := 74) k_fm_joint_74 fl_fm_155 rfl rfl ?_
                    refine tr_bipush (pc := 77) (v := 30) k_fm_joint_77 (by decide) ?_
                    refine tr_icmp_ne (pc := 79) 89 k_fm_joint_79 (by decide) (fun q => ?_) (fun q => ?_)
                    · replace hv := hv.1 q
                      refine tr_iload_n (pc := 89) 1 k_fm_joint_89 rfl rfl ?_
                      refine tr_if_ne (pc := 90) 109 k_fm_joint_90 (by decide) (fun q => ?_) (fun q => ?_)
                      · replace hv := hv.1 q
                        refine tr_aload_n (pc := 109) 0 k_fm_joint_109 rfl rfl ?_
                        refine tr_getP (pc := 110) k_fm_joint_110 fl_fm_38 rfl (Eq.trans rfl (hsk.1 10 15 _ rfl)) ?_
                        refine tr_aload_n (pc := 113) 0 k_fm_joint_113 rfl rfl ?_
                        refine tr_getIx (pc := 114) k_fm_joint_114 fl_fm_155 rfl rfl ?_
                        refine tr_iload_n (pc := 117) 1 k_fm_joint_117 rfl rfl ?_
                        refine tr_if_eq (pc := 118) 126 k_fm_joint_118 (by decide) (fun q => ?_) (fun q => ?_)
                        · replace hv := hv.1 q
                          refine tr_iload_n (pc := 126) 2 k_fm_joint_126 rfl rfl ?_
                          refine tr_iast (pc := 127) k_fm_joint_127 (mvin (hsk.2.1 11 14 _ rfl) hv.1) ?_
                          replace hv := hv.2
                          refine tr_aload_n (pc := 128) 0 k_fm_joint_128 rfl rfl ?_
                          refine tr_getP (pc := 129) k_fm_joint_129 fl_fm_41 rfl (Eq.trans (hP_setI) (hsk.1 10 16 _ rfl)) ?_
                          refine tr_aload_n (pc := 132) 0 k_fm_joint_132 rfl rfl ?_
                          refine tr_getIx (pc := 133) k_fm_joint_133 fl_fm_155 rfl (hI_nk (by decide)) ?_
                          refine tr_iload_n (pc := 136) 1 k_fm_joint_136 rfl rfl ?_
                          refine tr_if_eq (pc := 137) 144 k_fm_joint_137 (by decide) (fun q => ?_) (fun q => ?_)
                          · replace hv := hv.1 q
                            refine tr_aload_n (pc := 144) 0 k_fm_joint_144 rfl rfl ?_
                            refine tr_getP (pc := 145) k_fm_joint_145 fl_fm_41 rfl (Eq.trans (hP_setI) (hsk.1 10 16 _ rfl)) ?_
                            refine tr_iload_n (pc := 148) 2 k_fm_joint_148 rfl rfl ?_
                            refine tr_ialdx (pc := 149) k_fm_joint_149 (mvin (hsk.2.1 11 15 _ rfl) hv.1) (hI_nn (by decide)) ?_
                            replace hv := hv.2
                            refine tr_iast (pc := 150) k_fm_joint_150 (mvin (hsk.2.1 11 15 _ rfl) hv.1) ?_
                            replace hv := hv.2
                            refine tr_aload_n (pc := 151) 0 k_fm_joint_151 rfl rfl ?_
                            refine tr_getP (pc := 152) k_fm_joint_152 fl_fm_44 rfl (Eq.trans (Eq.trans (hP_setI) (hP_setI)) (hsk.1 10 17 _ rfl)) ?_
                            refine tr_aload_n (pc := 155) 0 k_fm_joint_155 rfl rfl ?_
                            refine tr_getIx (pc := 156) k_fm_joint_156 fl_fm_155 rfl (Eq.trans (hI_nk (by decide)) (hI_nk (by decide))) ?_
                            refine tr_iload_n (pc := 159) 3 k_fm_joint_159 rfl rfl ?_
                            refine tr_iast (pc := 160) k_fm_joint_160 (mvin (hsk.2.1 11 16 _ rfl) hv.1) ?_
                            replace hv := hv.2
                            refine tr_aload_n (pc := 161) 0 k_fm_joint_161 rfl rfl ?_
                            refine tr_getP (pc := 162) k_fm_joint_162 fl_fm_47 rfl (Eq.trans (Eq.trans (hP_setI) (Eq.trans (hP_setI) (hP_setI))) (hsk.1 10 18 _ rfl)) ?_
                            refine tr_aload_n (pc := 165) 0 k_fm_joint_165 rfl rfl ?_
                            refine tr_getIx (pc := 166) k_fm_joint_166 fl_fm_155 rfl (Eq.trans (hI_nk (by decide)) (Eq.trans (hI_nk (by decide)) (hI_nk (by decide)))) ?_
                            refine tr_iload (pc := 169) k_fm_joint_169 rfl ?_
                            refine tr_iast (pc := 171) k_fm_joint_171 (mvin (hsk.2.1 11 17 _ rfl) hv.1) ?_
                            replace hv := hv.2
                            refine tr_aload_n (pc := 172) 0 k_fm_joint_172 rfl rfl ?_
                            refine tr_getP (pc := 173) k_fm_joint_173 fl_fm_50 rfl (Eq.trans (Eq.trans (hP_setI) (Eq.trans (hP_setI) (Eq.trans (hP_setI) (hP_setI)))) (hsk.1 10 19 _ rfl)) ?_
                            refine tr_aload_n (pc := 176) 0 k_fm_joint_176 rfl rfl ?_
                            refine tr_getIx (pc := 177) k_fm_joint_177 fl_fm_155 rfl (Eq.trans (hI_nk (by decide)) (Eq.trans (hI_nk (by decide)) (Eq.trans (hI_nk (by decide)) (hI_nk (by decide))))) ?_
                            refine tr_iload (pc := 180) k_fm_joint_180 rfl ?_
                            refine tr_iast (pc := 182) k_fm_joint_182 (mvin (hsk.2.1 11 18 _ rfl) hv.1) ?_
                            replace hv := hv.2
                            refine tr_aload_n (pc := 183) 0 k_fm_joint_183 rfl rfl ?_
                            refine tr_getP (pc := 184) k_fm_joint_184 fl_fm_56 rfl (Eq.trans (Eq.trans (hP_setI) (Eq.trans (hP_setI) (Eq.trans (hP_setI) (Eq.trans (hP_setI) (hP_setI))))) (hsk.1 10 21 _ rfl)) ?_
                            refine tr_aload_n (pc := 187) 0 k_fm_joint_187 rfl rfl ?_
                            refine tr_getIx (pc := 188) k_fm_joint_188 fl_fm_155 rfl (Eq.trans (hI_nk (by decide)) (Eq.trans (hI_nk (by decide)) (Eq.trans (hI_nk (by decide)) (Eq.trans (hI_nk (by decide)) (hI_nk (by decide)))))) ?_
                            refine tr_bipush (pc := 191) (v := -9) k_fm_joint_191 (by decide) ?_
                            refine tr_iast (pc := 193) k_fm_joint_193 (mvin (hsk.2.1 11 20 _ rfl) hv.1) ?_
                            replace hv := hv.2
                            refine tr_aload_n (pc := 194) 0 k_fm_joint_194 rfl rfl ?_
                            refine tr_dup (pc := 195) k_fm_joint_195 rfl ?_
                            refine tr_getIx (pc := 196) k_fm_joint_196 fl_fm_155 rfl (Eq.trans (hI_nk (by decide)) (Eq.trans (hI_nk (by decide)) (Eq.trans (hI_nk (by decide)) (Eq.trans (hI_nk (by decide)) (Eq.trans (hI_nk (by decide)) (hI_nk (by decide))))))) ?_
                            refine tr_iconst (pc := 199) (v := 1) k_fm_joint_199 (by decide) ?_
                            refine tr_iadd (pc := 200) k_fm_joint_200 ?_
                            refine tr_putI (pc := 201) k_fm_joint_201 fl_fm_155 (Or.inl rfl) rfl ⟨rfl, rfl⟩ ?_
                            refine tr_aload_n (pc := 204) 0 k_fm_joint_204 rfl rfl ?_
                            refine tr_callV (pc := 205) (d' := d + 1) (mc' := 0) (ms' := 0) [] k_fm_joint_205 ca_fm_changes ml_fm_152 ii_fm_changes ⟨by decide, rfl⟩ pa_fm_changes (by omega) (by omega) (by omega) rfl (Nat.le_of_ble_eq_true rfl) (Nat.le_of_ble_eq_true rfl) (Qk := fun v h9 => mT g me_fm_joint (d + 2) 0 0 208 [some (vr 10 0), some (vi x1), some (vi x2), some (vi x3), some (vi x4), some (vi x5)] (v.toList ++ []) h9 _) ?_ (fun _ _ z => z)
                            show mT g me_fm_changes (d + 1) 0 0 0 [some (vr 10 0)] [] (setI (setI (setI (setI (setI (setI (setI h 11 14 ((hI h 10 0 3).toNatClampNeg) x2) 11 15 ((hI h 10 0 3).toNatClampNeg) (hI h 11 15 x2.toNatClampNeg)) 11 16 ((hI h 10 0 3).toNatClampNeg) x3) 11 17 ((hI h 10 0 3).toNatClampNeg) x4) 11 18 ((hI h 10 0 3).toNatClampNeg) x5) 11 20 ((hI h 10 0 3).toNatClampNeg) (-9 : Int32)) 10 0 3 ((hI h 10 0 3) + (1 : Int32))) _
                            refine tr_aload_n (pc := 0) 0 k_fm_changes_0 rfl rfl ?_
                            refine tr_iconst (pc := 1) (v := 0) k_fm_changes_1 (by decide) ?_
                            refine tr_putI (pc := 2) k_fm_changes_2 fl_fm_137 (Or.inl rfl) rfl ⟨rfl, rfl⟩ ?_
                            refine tr_return (pc := 5) k_fm_changes_5 rfl ?_
                            show mT g me_fm_joint (d + 2) 0 0 208 [some (vr 10 0), some (vi x1), some (vi x2), some (vi x3), some (vi x4), some (vi x5)] [] (setI (setI (setI (setI (setI (setI (setI (setI h 11 14 ((hI h 10 0 3).toNatClampNeg) x2) 11 15 ((hI h 10 0 3).toNatClampNeg) (hI h 11 15 x2.toNatClampNeg)) 11 16 ((hI h 10 0 3).toNatClampNeg) x3) 11 17 ((hI h 10 0 3).toNatClampNeg) x4) 11 18 ((hI h 10 0 3).toNatClampNeg) x5) 11 20 ((hI h 10 0 3).toNatClampNeg) (-9 : Int32)) 10 0 3 ((hI h 10 0 3) + (1 : Int32))) 10 0 55 (0 : Int32)) _
                            refine tr_aload_n (pc := 208) 0 k_fm_joint_208 rfl rfl ?_
                            refine tr_getIx (pc := 209) k_fm_joint_209 fl_fm_155 rfl (Eq.trans (hI_nf (by decide)) (hI_eq)) ?_
                            refine tr_iconst (pc := 212) (v := 1) k_fm_joint_212 (by decide) ?_
                            refine tr_isub (pc := 213) k_fm_joint_213 ?_
                            refine tr_ireturn (pc := 214) k_fm_joint_214 rfl rfl ?_
                            exact hv
                          · replace hv := hv.2 q
                            refine tr_iload_n (pc := 140) 2 k_fm_joint_140 rfl rfl ?_
                            refine tr_goto (pc := 141) 150 k_fm_joint_141 (by decide) ?_
                            refine tr_iast (pc := 150) k_fm_joint_150 (mvin (hsk.2.1 11 15 _ rfl) hv.1) ?_
                            replace hv := hv.2
                            refine tr_aload_n (pc := 151) 0 k_fm_joint_151 rfl rfl ?_
                            refine tr_getP (pc := 152) k_fm_joint_152 fl_fm_44 rfl (Eq.trans (Eq.trans (hP_setI) (hP_setI)) (hsk.1 10 17 _ rfl)) ?_
                            refine tr_aload_n (pc := 155) 0 k_fm_joint_155 rfl rfl ?_
                            refine tr_getIx (pc := 156) k_fm_joint_156 fl_fm_155 rfl (Eq.trans (hI_nk (by decide)) (hI_nk (by decide))) ?_
                            refine tr_iload_n (pc := 159) 3 k_fm_joint_159 rfl rfl ?_
                            refine tr_iast (pc := 160) k_fm_joint_160 (mvin (hsk.2.1 11 16 _ rfl) hv.1) ?_
                            replace hv := hv.2
                            refine tr_aload_n (pc := 161) 0 k_fm_joint_161 rfl rfl ?_
                            refine tr_getP (pc := 162) k_fm_joint_162 fl_fm_47 rfl (Eq.trans (Eq.trans (hP_setI) (Eq.trans (hP_setI) (hP_setI))) (hsk.1 10 18 _ rfl)) ?_
                            refine tr_aload_n (pc := 165) 0 k_fm_joint_165 rfl rfl ?_
                            refine tr_getIx (pc := 166) k_fm_joint_166 fl_fm_155 rfl (Eq.trans (hI_nk (by decide)) (Eq.trans (hI_nk (by decide)) (hI_nk (by decide)))) ?_
                            refine tr_iload (pc := 169) k_fm_joint_169 rfl ?_
                            refine tr_iast (pc := 171) k_fm_joint_171 (mvin (hsk.2.1 11 17 _ rfl) hv.1) ?_
                            replace hv := hv.2
                            refine tr_aload_n (pc := 172) 0 k_fm_joint_172 rfl rfl ?_
                            refine tr_getP (pc := 173) k_fm_joint_173 fl_fm_50 rfl (Eq.trans (Eq.trans (hP_setI) (Eq.trans (hP_setI) (Eq.trans (hP_setI) (hP_setI)))) (hsk.1 10 19 _ rfl)) ?_
                            refine tr_aload_n (pc := 176) 0 k_fm_joint_176 rfl rfl ?_
                            refine tr_getIx (pc := 177) k_fm_joint_177 fl_fm_155 rfl (Eq.trans (hI_nk (by decide)) (Eq.trans (hI_nk (by decide)) (Eq.trans (hI_nk (by decide)) (hI_nk (by decide))))) ?_
                            refine tr_iload (pc := 180) k_fm_joint_180 rfl ?_
                            refine tr_iast (pc := 182) k_fm_joint_182 (mvin (hsk.2.1 11 18 _ rfl) hv.1) ?_
                            replace hv := hv.2
                            refine tr_aload_n (pc := 183) 0 k_fm_joint_183 rfl rfl ?_
                            refine tr_getP (pc := 184) k_fm_joint_184 fl_fm_56 rfl (Eq.trans (Eq.trans (hP_setI) (Eq.trans (hP_setI) (Eq.trans (hP_setI) (Eq.trans (hP_setI) (hP_setI))))) (hsk.1 10 21 _ rfl)) ?_
                            refine tr_aload_n (pc := 187) 0 k_fm_joint_187 rfl rfl ?_
                            refine tr_getIx (pc := 188) k_fm_joint_188 fl_fm_155 rfl (Eq.trans (hI_nk (by decide)) (Eq.trans (hI_nk (by decide)) (Eq.trans (hI_nk (by decide)) (Eq.trans (hI_nk (by decide)) (hI_nk (by decide)))))) ?_
                            refine tr_bipush (pc := 191) (v := -9) k_fm_joint_191 (by decide) ?_
                            refine tr_iast (pc := 193) k_fm_joint_193 (mvin (hsk.2.1 11 20 _ rfl) hv.1) ?_
                            replace hv := hv.2
                            refine tr_aload_n (pc := 194) 0 k_fm_joint_194 rfl rfl ?_
                            refine tr_dup (pc := 195) k_fm_joint_195 rfl ?_
                            refine tr_getIx (pc := 196) k_fm_joint_196 fl_fm_155 rfl (Eq.trans (hI_nk (by decide)) (Eq.trans (hI_nk (by decide)) (Eq.trans (hI_nk (by decide)) (Eq.trans (hI_nk (by decide)) (Eq.trans (hI_nk (by decide)) (hI_nk (by decide))))))) ?_
                            refine tr_iconst (pc := 199) (v := 1) k_fm_joint_199 (by decide) ?_
                            refine tr_iadd (pc := 200) k_fm_joint_200 ?_
                            refine tr_putI (pc := 201) k_fm_joint_201 fl_fm_155 (Or.inl rfl) rfl ⟨rfl, rfl⟩ ?_
                            refine tr_aload_n (pc := 204) 0 k_fm_joint_204 rfl rfl ?_
                            refine tr_callV (pc := 205) (d' := d + 1) (mc' := 0) (ms' := 0) [] k_fm_joint_205 ca_fm_changes ml_fm_152 ii_fm_changes ⟨by decide, rfl⟩ pa_fm_changes (by omega) (by omega) (by omega) rfl (Nat.le_of_ble_eq_true rfl) (Nat.le_of_ble_eq_true rfl) (Qk := fun v h9 => mT g me_fm_joint (d + 2) 0 0 208 [some (vr 10 0), some (vi x1), some (vi x2), some (vi x3), some (vi x4), some (vi x5)] (v.toList ++ []) h9 _) ?_ (fun _ _ z => z)
                            show mT g me_fm_changes (d + 1) 0 0 0 [some (vr 10 0)] [] (setI (setI (setI (setI (setI (setI (setI h 11 14 ((hI h 10 0 3).toNatClampNeg) x2) 11 15 ((hI h 10 0 3).toNatClampNeg) x2) 11 16 ((hI h 10 0 3).toNatClampNeg) x3) 11 17 ((hI h 10 0 3).toNatClampNeg) x4) 11 18 ((hI h 10 0 3).toNatClampNeg) x5) 11 20 ((hI h 10 0 3).toNatClampNeg) (-9 : Int32)) 10 0 3 ((hI h 10 0 3) + (1 : Int32))) _
                            refine tr_aload_n (pc := 0) 0 k_fm_changes_0 rfl rfl ?_
                            refine tr_iconst (pc := 1) (v := 0) k_fm_changes_1 (by decide) ?_
                            refine tr_putI (pc := 2) k_fm_changes_2 fl_fm_137 (Or.inl rfl) rfl ⟨rfl, rfl⟩ ?_
                            refine tr_return (pc := 5) k_fm_changes_5 rfl ?_
                            show mT g me_fm_joint (d + 2) 0 0 208 [some (vr 10 0), some (vi x1), some (vi x2), some (vi x3), some (vi x4), some (vi x5)] [] (setI (setI (setI (setI (setI (setI (setI (setI h 11 14 ((hI h 10 0 3).toNatClampNeg) x2) 11 15 ((hI h 10 0 3).toNatClampNeg) x2) 11 16 ((hI h 10 0 3).toNatClampNeg) x3) 11 17 ((hI h 10 0 3).toNatClampNeg) x4) 11 18 ((hI h 10 0 3).toNatClampNeg) x5) 11 20 ((hI h 10 0 3).toNatClampNeg) (-9 : Int32)) 10 0 3 ((hI h 10 0 3) + (1 : Int32))) 10 0 55 (0 : Int32)) _
                            refine tr_aload_n (pc := 208) 0 k_fm_joint_208 rfl rfl ?_
                            refine tr_getIx (pc := 209) k_fm_joint_209 fl_fm_155 rfl (Eq.trans (hI_nf (by decide)) (hI_eq)) ?_
                            refine tr_iconst (pc := 212) (v := 1) k_fm_joint_212 (by decide) ?_
                            refine tr_isub (pc := 213) k_fm_joint_213 ?_
                            refine tr_ireturn (pc := 214) k_fm_joint_214 rfl rfl ?_
                            exact hv
                        · replace hv := hv.2 q
                          refine tr_bipush (pc := 121) (v := -9) k_fm_joint_121 (by decide) ?_
                          refine tr_goto (pc := 123) 127 k_fm_joint_123 (by decide) ?_
                          refine tr_iast (pc := 127) k_fm_joint_127 (mvin (hsk.2.1 11 14 _ rfl) hv.1) ?_
                          replace hv := hv.2
                          refine tr_aload_n (pc := 128) 0 k_fm_joint_128 rfl rfl ?_
                          refine tr_getP (pc := 129) k_fm_joint_129 fl_fm_41 rfl (Eq.trans (hP_setI) (hsk.1 10 16 _ rfl)) ?_
                          refine tr_aload_n (pc := 132) 0 k_fm_joint_132 rfl rfl ?_
                          refine tr_getIx (pc := 133) k_fm_joint_133 fl_fm_155 rfl (hI_nk (by decide)) ?_
                          refine tr_iload_n (pc := 136) 1 k_fm_joint_136 rfl rfl ?_
                          refine tr_if_eq (pc := 137) 144 k_fm_joint_137 (by decide) (fun q => ?_) (fun q => ?_)
                          · replace hv := hv.1 q
                            refine tr_aload_n (pc := 144) 0 k_fm_joint_144 rfl rfl ?_
                            refine tr_getP (pc := 145) k_fm_joint_145 fl_fm_41 rfl (Eq.trans (hP_setI) (hsk.1 10 16 _ rfl)) ?_
                            refine tr_iload_n (pc := 148) 2 k_fm_joint_148 rfl rfl ?_
                            refine tr_ialdx (pc := 149) k_fm_joint_149 (mvin (hsk.2.1 11 15 _ rfl) hv.1) (hI_nn (by decide)) ?_
                            replace hv := hv.2
                            refine tr_iast (pc := 150) k_fm_joint_150 (mvin (hsk.2.1 11 15 _ rfl) hv.1) ?_
                            replace hv := hv.2
                            refine tr_aload_n (pc := 151) 0 k_fm_joint_151 rfl rfl ?_
                            refine tr_getP (pc := 152) k_fm_joint_152 fl_fm_44 rfl (Eq.trans (Eq.trans (hP_setI) (hP_setI)) (hsk.1 10 17 _ rfl)) ?_
                            refine tr_aload_n (pc := 155) 0 k_fm_joint_155 rfl rfl ?_
                            refine tr_getIx (pc := 156) k_fm_joint_156 fl_fm_155 rfl (Eq.trans (hI_nk (by decide)) (hI_nk (by decide))) ?_
                            refine tr_iload_n (pc := 159) 3 k_fm_joint_159 rfl rfl ?_
                            refine tr_iast (pc := 160) k_fm_joint_160 (mvin (hsk.2.1 11 16 _ rfl) hv.1) ?_
                            replace hv := hv.2
                            refine tr_aload_n (pc := 161) 0 k_fm_joint_161 rfl rfl ?_
                            refine tr_getP (pc := 162) k_fm_joint_162 fl_fm_47 rfl (Eq.trans (Eq.trans (hP_setI) (Eq.trans (hP_setI) (hP_setI))) (hsk.1 10 18 _ rfl)) ?_
                            refine tr_aload_n (pc := 165) 0 k_fm_joint_165 rfl rfl ?_
                            refine tr_getIx (pc := 166) k_fm_joint_166 fl_fm_155 rfl (Eq.trans (hI_nk (by decide)) (Eq.trans (hI_nk (by decide)) (hI_nk (by decide)))) ?_
                            refine tr_iload (pc := 169) k_fm_joint_169 rfl ?_
                            refine tr_iast (pc := 171) k_fm_joint_171 (mvin (hsk.2.1 11 17 _ rfl) hv.1) ?_
                            replace hv := hv.2
                            refine tr_aload_n (pc := 172) 0 k_fm_joint_172 rfl rfl ?_
                            refine tr_getP (pc := 173) k_fm_joint_173 fl_fm_50 rfl (Eq.trans (Eq.trans (hP_setI) (Eq.trans (hP_setI) (Eq.trans (hP_setI) (hP_setI)))) (hsk.1 10 19 _ rfl)) ?_
                            refine tr_aload_n (pc := 176) 0 k_fm_joint_176 rfl rfl ?_
                            refine tr_getIx (pc := 177) k_fm_joint_177 fl_fm_155 rfl (Eq.trans (hI_nk (by decide)) (Eq.trans (hI_nk (by decide)) (Eq.trans (hI_nk (by decide)) (hI_nk (by decide))))) ?_
                            refine tr_iload (pc := 180) k_fm_joint_180 rfl ?_
                            refine tr_iast (pc := 182) k_fm_joint_182 (mvin (hsk.2.1 11 18 _ rfl) hv.1) ?_
                            replace hv := hv.2
                            refine tr_aload_n (pc := 183) 0 k_fm_joint_183 rfl rfl ?_
                            refine tr_getP (pc := 184) k_fm_joint_184 fl_fm_56 rfl (Eq.trans (Eq.trans (hP_setI) (Eq.trans (hP_setI) (Eq.trans (hP_setI) (Eq.trans (hP_setI) (hP_setI))))) (hsk.1 10 21 _ rfl)) ?_
                            refine tr_aload_n (pc := 187) 0 k_fm_joint_187 rfl rfl ?_
                            refine tr_getIx (pc := 188) k_fm_joint_188 fl_fm_155 rfl (Eq.trans (hI_nk (by decide)) (Eq.trans (hI_nk (by decide)) (Eq.trans (hI_nk (by decide)) (Eq.trans (hI_nk (by decide)) (hI_nk (by decide)))))) ?_
                            refine tr_bipush (pc := 191) (v := -9) k_fm_joint_191 (by decide) ?_
                            refine tr_iast (pc := 193) k_fm_joint_193 (mvin (hsk.2.1 11 20 _ rfl) hv.1) ?_
                            replace hv := hv.2
                            refine tr_aload_n (pc := 194) 0 k_fm_joint_194 rfl rfl ?_
                            refine tr_dup (pc := 195) k_fm_joint_195 rfl ?_
                            refine tr_getIx (pc := 196) k_fm_joint_196 fl_fm_155 rfl (Eq.trans (hI_nk (by decide)) (Eq.trans (hI_nk (by decide)) (Eq.trans (hI_nk (by decide)) (Eq.trans (hI_nk (by decide)) (Eq.trans (hI_nk (by decide)) (hI_nk (by decide))))))) ?_
                            refine tr_iconst (pc := 199) (v := 1) k_fm_joint_199 (by decide) ?_
                            refine tr_iadd (pc := 200) k_fm_joint_200 ?_
                            refine tr_putI (pc := 201) k_fm_joint_201 fl_fm_155 (Or.inl rfl) rfl ⟨rfl, rfl⟩ ?_
                            refine tr_aload_n (pc := 204) 0 k_fm_joint_204 rfl rfl ?_
                            refine tr_callV (pc := 205) (d' := d + 1) (mc' := 0) (ms' := 0) [] k_fm_joint_205 ca_fm_changes ml_fm_152 ii_fm_changes ⟨by decide, rfl⟩ pa_fm_changes (by omega) (by omega) (by omega) rfl (Nat.le_of_ble_eq_true rfl) (Nat.le_of_ble_eq_true rfl) (Qk := fun v h9 => mT g me_fm_joint (d + 2) 0 0 208 [some (vr 10 0), some (vi x1), some (vi x2), some (vi x3), some (vi x4), some (vi x5)] (v.toList ++ []) h9 _) ?_ (fun _ _ z => z)
                            show mT g me_fm_changes (d + 1) 0 0 0 [some (vr 10 0)] [] (setI (setI (setI (setI (setI (setI (setI h 11 14 ((hI h 10 0 3).toNatClampNeg) (-9 : Int32)) 11 15 ((hI h 10 0 3).toNatClampNeg) (hI h 11 15 x2.toNatClampNeg)) 11 16 ((hI h 10 0 3).toNatClampNeg) x3) 11 17 ((hI h 10 0 3).toNatClampNeg) x4) 11 18 ((hI h 10 0 3).toNatClampNeg) x5) 11 20 ((hI h 10 0 3).toNatClampNeg) (-9 : Int32)) 10 0 3 ((hI h 10 0 3) + (1 : Int32))) _
                            refine tr_aload_n (pc := 0) 0 k_fm_changes_0 rfl rfl ?_
                            refine tr_iconst (pc := 1) (v := 0) k_fm_changes_1 (by decide) ?_
                            refine tr_putI (pc := 2) k_fm_changes_2 fl_fm_137 (Or.inl rfl) rfl ⟨rfl, rfl⟩ ?_
                            refine tr_return (pc := 5) k_fm_changes_5 rfl ?_
                            show mT g me_fm_joint (d + 2) 0 0 208 [some (vr 10 0), some (vi x1), some (vi x2), some (vi x3), some (vi x4), some (vi x5)] [] (setI (setI (setI (setI (setI (setI (setI (setI h 11 14 ((hI h 10 0 3).toNatClampNeg) (-9 : Int32)) 11 15 ((hI h 10 0 3).toNatClampNeg) (hI h 11 15 x2.toNatClampNeg)) 11 16 ((hI h 10 0 3).toNatClampNeg) x3) 11 17 ((hI h 10 0 3).toNatClampNeg) x4) 11 18 ((hI h 10 0 3).toNatClampNeg) x5) 11 20 ((hI h 10 0 3).toNatClampNeg) (-9 : Int32)) 10 0 3 ((hI h 10 0 3) + (1 : Int32))) 10 0 55 (0 : Int32)) _
                            refine tr_aload_n (pc := 208) 0 k_fm_joint_208 rfl rfl ?_
                            refine tr_getIx (pc := 209) k_fm_joint_209 fl_fm_155 rfl (Eq.trans (hI_nf (by decide)) (hI_eq)) ?_
                            refine tr_iconst (pc := 212) (v := 1) k_fm_joint_212 (by decide) ?_
                            refine tr_isub (pc := 213) k_fm_joint_213 ?_
                            refine tr_ireturn (pc := 214) k_fm_joint_214 rfl rfl ?_
                            exact hv
                          · replace hv := hv.2 q
                            refine tr_iload_n (pc := 140) 2 k_fm_joint_140 rfl rfl ?_
                            refine tr_goto (pc := 141) 150 k_fm_joint_141 (by decide) ?_
                            refine tr_iast (pc := 150) k_fm_joint_150 (mvin (hsk.2.1 11 15 _ rfl) hv.1) ?_
                            replace hv := hv.2
                            refine tr_aload_n (pc := 151) 0 k_fm_joint_151 rfl rfl ?_
                            refine tr_getP (pc := 152) k_fm_joint_152 fl_fm_44 rfl (Eq.trans (Eq.trans (hP_setI) (hP_setI)) (hsk.1 10 17 _ rfl)) ?_
                            refine tr_aload_n (pc := 155) 0 k_fm_joint_155 rfl rfl ?_
                            refine tr_getIx (pc := 156) k_fm_joint_156 fl_fm_155 rfl (Eq.trans (hI_nk (by decide)) (hI_nk (by decide))) ?_
                            refine tr_iload_n (pc := 159) 3 k_fm_joint_159 rfl rfl ?_
                            refine tr_iast (pc := 160) k_fm_joint_160 (mvin (hsk.2.1 11 16 _ rfl) hv.1) ?_
                            replace hv := hv.2
                            refine tr_aload_n (pc := 161) 0 k_fm_joint_161 rfl rfl ?_
                            refine tr_getP (pc := 162) k_fm_joint_162 fl_fm_47 rfl (Eq.trans (Eq.trans (hP_setI) (Eq.trans (hP_setI) (hP_setI))) (hsk.1 10 18 _ rfl)) ?_
                            refine tr_aload_n (pc := 165) 0 k_fm_joint_165 rfl rfl ?_
                            refine tr_getIx (pc := 166) k_fm_joint_166 fl_fm_155 rfl (Eq.trans (hI_nk (by decide)) (Eq.trans (hI_nk (by decide)) (hI_nk (by decide)))) ?_
                            refine tr_iload (pc := 169) k_fm_joint_169 rfl ?_
                            refine tr_iast (pc := 171) k_fm_joint_171 (mvin (hsk.2.1 11 17 _ rfl) hv.1) ?_
                            replace hv := hv.2
                            refine tr_aload_n (pc := 172) 0 k_fm_joint_172 rfl rfl ?_
                            refine tr_getP (pc := 173) k_fm_joint_173 fl_fm_50 rfl (Eq.trans (Eq.trans (hP_setI) (Eq.trans (hP_setI) (Eq.trans (hP_setI) (hP_setI)))) (hsk.1 10 19 _ rfl)) ?_
                            refine tr_aload_n (pc := 176) 0 k_fm_joint_176 rfl rfl ?_
                            refine tr_getIx (pc := 177) k_fm_joint_177 fl_fm_155 rfl (Eq.trans (hI_nk (by decide)) (Eq.trans (hI_nk (by decide)) (Eq.trans (hI_nk (by decide)) (hI_nk (by decide))))) ?_
                            refine tr_iload (pc := 180) k_fm_joint_180 rfl ?_
                            refine tr_iast (pc := 182) k_fm_joint_182 (mvin (hsk.2.1 11 18 _ rfl) hv.1) ?_
                            replace hv := hv.2
                            refine tr_aload_n (pc := 183) 0 k_fm_joint_183 rfl rfl ?_
                            refine tr_getP (pc := 184) k_fm_joint_184 fl_fm_56 rfl (Eq.trans (Eq.trans (hP_setI) (Eq.trans (hP_setI) (Eq.trans (hP_setI) (Eq.trans (hP_setI) (hP_setI))))) (hsk.1 10 21 _ rfl)) ?_
                            refine tr_aload_n (pc := 187) 0 k_fm_joint_187 rfl rfl ?_
                            refine tr_getIx (pc := 188) k_fm_joint_188 fl_fm_155 rfl (Eq.trans (hI_nk (by decide)) (Eq.trans (hI_nk (by decide)) (Eq.trans (hI_nk (by decide)) (Eq.trans (hI_nk (by decide)) (hI_nk (by decide)))))) ?_
                            refine tr_bipush (pc := 191) (v := -9) k_fm_joint_191 (by decide) ?_
                            refine tr_iast (pc := 193) k_fm_joint_193 (mvin (hsk.2.1 11 20 _ rfl) hv.1) ?_
                            replace hv := hv.2
                            refine tr_aload_n (pc := 194) 0 k_fm_joint_194 rfl rfl ?_
                            refine tr_dup (pc := 195) k_fm_joint_195 rfl ?_
                            refine tr_getIx (pc := 196) k_fm_joint_196 fl_fm_155 rfl (Eq.trans (hI_nk (by decide)) (Eq.trans (hI_nk (by decide)) (Eq.trans (hI_nk (by decide)) (Eq.trans (hI_nk (by decide)) (Eq.trans (hI_nk (by decide)) (hI_nk (by decide))))))) ?_
                            refine tr_iconst (pc := 199) (v := 1) k_fm_joint_199 (by decide) ?_
                            refine tr_iadd (pc := 200) k_fm_joint_200 ?_
                            refine tr_putI (pc := 201) k_fm_joint_201 fl_fm_155 (Or.inl rfl) rfl ⟨rfl, rfl⟩ ?_
                            refine tr_aload_n (pc := 204) 0 k_fm_joint_204 rfl rfl ?_
                            refine tr_callV (pc := 205) (d' := d + 1) (mc' := 0) (ms' := 0) [] k_fm_joint_205 ca_fm_changes ml_fm_152 ii_fm_changes ⟨by decide, rfl⟩ pa_fm_changes (by omega) (by omega) (by omega) rfl (Nat.le_of_ble_eq_true rfl) (Nat.le_of_ble_eq_true rfl) (Qk := fun v h9 => mT g me_fm_joint (d + 2) 0 0 208 [some (vr 10 0), some (vi x1), some (vi x2), some (vi x3), some (vi x4), some (vi x5)] (v.toList ++ []) h9 _) ?_ (fun _ _ z => z)
                            show mT g me_fm_changes (d + 1) 0 0 0 [some (vr 10 0)] [] (setI (setI (setI (setI (setI (setI (setI h 11 14 ((hI h 10 0 3).toNatClampNeg) (-9 : Int32)) 11 15 ((hI h 10 0 3).toNatClampNeg) x2) 11 16 ((hI h 10 0 3).toNatClampNeg) x3) 11 17 ((hI h 10 0 3).toNatClampNeg) x4) 11 18 ((hI h 10 0 3).toNatClampNeg) x5) 11 20 ((hI h 10 0 3).toNatClampNeg) (-9 : Int32)) 10 0 3 ((hI h 10 0 3) + (1 : Int32))) _
                            refine tr_aload_n (pc := 0) 0 k_fm_changes_0 rfl rfl ?_
                            refine tr_iconst (pc := 1) (v := 0) k_fm_changes_1 (by decide) ?_
                            refine tr_putI (pc := 2) k_fm_changes_2 fl_fm_137 (Or.inl rfl) rfl ⟨rfl, rfl⟩ ?_
                            refine tr_return (pc := 5) k_fm_changes_5 rfl ?_
                            show mT g me_fm_joint (d + 2) 0 0 208 [some (vr 10 0), some (vi x1), some (vi x2), some (vi x3), some (vi x4), some (vi x5)] [] (setI (setI (setI (setI (setI (setI (setI (setI h 11 14 ((hI h 10 0 3).toNatClampNeg) (-9 : Int32)) 11 15 ((hI h 10 0 3).toNatClampNeg) x2) 11 16 ((hI h 10 0 3).toNatClampNeg) x3) 11 17 ((hI h 10 0 3).toNatClampNeg) x4) 11 18 ((hI h 10 0 3).toNatClampNeg) x5) 11 20 ((hI h 10 0 3).toNatClampNeg) (-9 : Int32)) 10 0 3 ((hI h 10 0 3) + (1 : Int32))) 10 0 55 (0 : Int32)) _
                            refine tr_aload_n (pc := 208) 0 k_fm_joint_208 rfl rfl ?_
                            refine tr_getIx (pc := 209) k_fm_joint_209 fl_fm_155 rfl (Eq.trans (hI_nf (by decide)) (hI_eq)) ?_
                            refine tr_iconst (pc := 212) (v := 1) k_fm_joint_212 (by decide) ?_
                            refine tr_isub (pc := 213) k_fm_joint_213 ?_
                            refine tr_ireturn (pc := 214) k_fm_joint_214 rfl rfl ?_
                            exact hv
                      · replace hv := hv.2 q
                        refine tr_aload_n (pc := 93) 0 k_fm_joint_93 rfl rfl ?_
                        refine tr_getP (pc := 94) k_fm_joint_94 fl_fm_59 rfl (Eq.trans rfl (hsk.1 10 22 _ rfl)) ?_
                        refine tr_iload_n (pc := 97) 2 k_fm_joint_97 rfl rfl ?_
                        refine tr_zaldx (pc := 98) k_fm_joint_98 (mvin (hsk.2.1 12 0 _ rfl) hv.1) rfl ?_
                        replace hv := hv.2
                        refine tr_if_eq (pc := 99) 109 k_fm_joint_99 (by decide) (fun q => ?_) (fun q => ?_)
                        · replace hv := hv.1 q
                          refine tr_aload_n (pc := 109) 0 k_fm_joint_109 rfl rfl ?_
                          refine tr_getP (pc := 110) k_fm_joint_110 fl_fm_38 rfl (Eq.trans rfl (hsk.1 10 15 _ rfl)) ?_
                          refine tr_aload_n (pc := 113) 0 k_fm_joint_113 rfl rfl ?_
                          refine tr_getIx (pc := 114) k_fm_joint_114 fl_fm_155 rfl rfl ?_
                          refine tr_iload_n (pc := 117) 1 k_fm_joint_117 rfl rfl ?_
                          refine tr_if_eq (pc := 118) 126 k_fm_joint_118 (by decide) (fun q => ?_) (fun q => ?_)
                          · replace hv := hv.1 q
                            refine tr_iload_n (pc := 126) 2 k_fm_joint_126 rfl rfl ?_
                            refine tr_iast (pc := 127) k_fm_joint_127 (mvin (hsk.2.1 11 14 _ rfl) hv.1) ?_
                            replace hv := hv.2
                            refine tr_aload_n (pc := 128) 0 k_fm_joint_128 rfl rfl ?_
                            refine tr_getP (pc := 129) k_fm_joint_129 fl_fm_41 rfl (Eq.trans (hP_setI) (hsk.1 10 16 _ rfl)) ?_
                            refine tr_aload_n (pc := 132) 0 k_fm_joint_132 rfl rfl ?_
                            refine tr_getIx (pc := 133) k_fm_joint_133 fl_fm_155 rfl (hI_nk (by decide)) ?_
                            refine tr_iload_n (pc := 136) 1 k_fm_joint_136 rfl rfl ?_
                            refine tr_if_eq (pc := 137) 144 k_fm_joint_137 (by decide) (fun q => ?_) (fun q => ?_)
                            · replace hv := hv.1 q
                              refine tr_aload_n (pc := 144) 0 k_fm_joint_144 rfl rfl ?_
                              refine tr_getP (pc := 145) k_fm_joint_145 fl_fm_41 rfl (Eq.trans (hP_setI) (hsk.1 10 16 _ rfl)) ?_
                              refine tr_iload_n (pc := 148) 2 k_fm_joint_148 rfl rfl ?_
                              refine tr_ialdx (pc := 149) k_fm_joint_149 (mvin (hsk.2.1 11 15 _ rfl) hv.1) (hI_nn (by decide)) ?_
                              replace hv := hv.2
                              refine tr_iast (pc := 150) k_fm_joint_150 (mvin (hsk.2.1 11 15 _ rfl) hv.1) ?_
                              replace hv := hv.2
                              refine tr_aload_n (pc := 151) 0 k_fm_joint_151 rfl rfl ?_
                              refine tr_getP (pc := 152) k_fm_joint_152 fl_fm_44 rfl (Eq.trans (Eq.trans (hP_setI) (hP_setI)) (hsk.1 10 17 _ rfl)) ?_
                              refine tr_aload_n (pc := 155) 0 k_fm_joint_155 rfl rfl ?_
                              refine tr_getIx (pc := 156) k_fm_joint_156 fl_fm_155 rfl (Eq.trans (hI_nk (by decide)) (hI_nk (by decide))) ?_
                              refine tr_iload_n (pc := 159) 3 k_fm_joint_159 rfl rfl ?_
                              refine tr_iast (pc := 160) k_fm_joint_160 (mvin (hsk.2.1 11 16 _ rfl) hv.1) ?_
                              replace hv := hv.2
                              refine tr_aload_n (pc := 161) 0 k_fm_joint_161 rfl rfl ?_
                              refine tr_getP (pc := 162) k_fm_joint_162 fl_fm_47 rfl (Eq.trans (Eq.trans (hP_setI) (Eq.trans (hP_setI) (hP_setI))) (hsk.1 10 18 _ rfl)) ?_
                              refine tr_aload_n (pc := 165) 0 k_fm_joint_165 rfl rfl ?_
                              refine tr_getIx (pc := 166) k_fm_joint_166 fl_fm_155 rfl (Eq.trans (hI_nk (by decide)) (Eq.trans (hI_nk (by decide)) (hI_nk (by decide)))) ?_
                              refine tr_iload (pc := 169) k_fm_joint_169 rfl ?_
                              refine tr_iast (pc := 171) k_fm_joint_171 (mvin (hsk.2.1 11 17 _ rfl) hv.1) ?_
                              replace hv := hv.2
                              refine tr_aload_n (pc := 172) 0 k_fm_joint_172 rfl rfl ?_
                              refine tr_getP (pc := 173) k_fm_joint_173 fl_fm_50 rfl (Eq.trans (Eq.trans (hP_setI) (Eq.trans (hP_setI) (Eq.trans (hP_setI) (hP_setI)))) (hsk.1 10 19 _ rfl)) ?_
                              refine tr_aload_n (pc := 176) 0 k_fm_joint_176 rfl rfl ?_
                              refine tr_getIx (pc := 177) k_fm_joint_177 fl_fm_155 rfl (Eq.trans (hI_nk (by decide)) (Eq.trans (hI_nk (by decide)) (Eq.trans (hI_nk (by decide)) (hI_nk (by decide))))) ?_
                              refine tr_iload (pc := 180) k_fm_joint_180 rfl ?_
                              refine tr_iast (pc := 182) k_fm_joint_182 (mvin (hsk.2.1 11 18 _ rfl) hv.1) ?_
                              replace hv := hv.2
                              refine tr_aload_n (pc := 183) 0 k_fm_joint_183 rfl rfl ?_
                              refine tr_getP (pc := 184) k_fm_joint_184 fl_fm_56 rfl (Eq.trans (Eq.trans (hP_setI) (Eq.trans (hP_setI) (Eq.trans (hP_setI) (Eq.trans (hP_setI) (hP_setI))))) (hsk.1 10 21 _ rfl)) ?_
                              refine tr_aload_n (pc := 187) 0 k_fm_joint_187 rfl rfl ?_
                              refine tr_getIx (pc := 188) k_fm_joint_188 fl_fm_155 rfl (Eq.trans (hI_nk (by decide)) (Eq.trans (hI_nk (by decide)) (Eq.trans (hI_nk (by decide)) (Eq.trans (hI_nk (by decide)) (hI_nk (by decide)))))) ?_
                              refine tr_bipush (pc := 191) (v := -9) k_fm_joint_191 (by decide) ?_
                              refine tr_iast (pc := 193) k_fm_joint_193 (mvin (hsk.2.1 11 20 _ rfl) hv.1) ?_
                              replace hv := hv.2
                              refine tr_aload_n (pc := 194) 0 k_fm_joint_194 rfl rfl ?_
                              refine tr_dup (pc := 195) k_fm_joint_195 rfl ?_
                              refine tr_getIx (pc := 196) k_fm_joint_196 fl_fm_155 rfl (Eq.trans (hI_nk (by decide)) (Eq.trans (hI_nk (by decide)) (Eq.trans (hI_nk (by decide)) (Eq.trans (hI_nk (by decide)) (Eq.trans (hI_nk (by decide)) (hI_nk (by decide))))))) ?_
                              refine tr_iconst (pc := 199) (v := 1) k_fm_joint_199 (by decide) ?_
                              refine tr_iadd (pc := 200) k_fm_joint_200 ?_
                              refine tr_putI (pc := 201) k_fm_joint_201 fl_fm_155 (Or.inl rfl) rfl ⟨rfl, rfl⟩ ?_
                              refine tr_aload_n (pc := 204) 0 k_fm_joint_204 rfl rfl ?_
                              refine tr_callV (pc := 205) (d' := d + 1) (mc' := 0) (ms' := 0) [] k_fm_joint_205 ca_fm_changes ml_fm_152 ii_fm_changes ⟨by decide, rfl⟩ pa_fm_changes (by omega) (by omega) (by omega) rfl (Nat.le_of_ble_eq_true rfl) (Nat.le_of_ble_eq_true rfl) (Qk := fun v h9 => mT g me_fm_joint (d + 2) 0 0 208 [some (vr 10 0), some (vi x1), some (vi x2), some (vi x3), some (vi x4), some (vi x5)] (v.toList ++ []) h9 _) ?_ (fun _ _ z => z)
                              show mT g me_fm_changes (d + 1) 0 0 0 [some (vr 10 0)] [] (setI (setI (setI (setI (setI (setI (setI h 11 14 ((hI h 10 0 3).toNatClampNeg) x2) 11 15 ((hI h 10 0 3).toNatClampNeg) (hI h 11 15 x2.toNatClampNeg)) 11 16 ((hI h 10 0 3).toNatClampNeg) x3) 11 17 ((hI h 10 0 3).toNatClampNeg) x4) 11 18 ((hI h 10 0 3).toNatClampNeg) x5) 11 20 ((hI h 10 0 3).toNatClampNeg) (-9 : Int32)) 10 0 3 ((hI h 10 0 3) + (1 : Int32))) _
                              refine tr_aload_n (pc := 0) 0 k_fm_changes_0 rfl rfl ?_
                              refine tr_iconst (pc := 1) (v := 0) k_fm_changes_1 (by decide) ?_
                              refine tr_putI (pc := 2) k_fm_changes_2 fl_fm_137 (Or.inl rfl) rfl ⟨rfl, rfl⟩ ?_
                              refine tr_return (pc := 5) k_fm_changes_5 rfl ?_
                              show mT g me_fm_joint (d + 2) 0 0 208 [some (vr 10 0), some (vi x1), some (vi x2), some (vi x3), some (vi x4), some (vi x5)] [] (setI (setI (setI (setI (setI (setI (setI (setI h 11 14 ((hI h 10 0 3).toNatClampNeg) x2) 11 15 ((hI h 10 0 3).toNatClampNeg) (hI h 11 15 x2.toNatClampNeg)) 11 16 ((hI h 10 0 3).toNatClampNeg) x3) 11 17 ((hI h 10 0 3).toNatClampNeg) x4) 11 18 ((hI h 10 0 3).toNatClampNeg) x5) 11 20 ((hI h 10 0 3).toNatClampNeg) (-9 : Int32)) 10 0 3 ((hI h 10 0 3) + (1 : Int32))) 10 0 55 (0 : Int32)) _
                              refine tr_aload_n (pc := 208) 0 k_fm_joint_208 rfl rfl ?_
                              refine tr_getIx (pc := 209) k_fm_joint_209 fl_fm_155 rfl (Eq.trans (hI_nf (by decide)) (hI_eq)) ?_
                              refine tr_iconst (pc := 212) (v := 1) k_fm_joint_212 (by decide) ?_
                              refine tr_isub (pc := 213) k_fm_joint_213 ?_
                              refine tr_ireturn (pc := 214) k_fm_joint_214 rfl rfl ?_
                              exact hv
                            · replace hv := hv.2 q
                              refine tr_iload_n (pc := 140) 2 k_fm_joint_140 rfl rfl ?_
                              refine tr_goto (pc := 141) 150 k_fm_joint_141 (by decide) ?_
                              refine tr_iast (pc := 150) k_fm_joint_150 (mvin (hsk.2.1 11 15 _ rfl) hv.1) ?_
                              replace hv := hv.2
                              refine tr_aload_n (pc := 151) 0 k_fm_joint_151 rfl rfl ?_
                              refine tr_getP (pc := 152) k_fm_joint_152 fl_fm_44 rfl (Eq.trans (Eq.trans (hP_setI) (hP_setI)) (hsk.1 10 17 _ rfl)) ?_
                              refine tr_aload_n (pc := 155) 0 k_fm_joint_155 rfl rfl ?_
                              refine tr_getIx (pc := 156) k_fm_joint_156 fl_fm_155 rfl (Eq.trans (hI_nk (by decide)) (hI_nk (by decide))) ?_
                              refine tr_iload_n (pc := 159) 3 k_fm_joint_159 rfl rfl ?_
                              refine tr_iast (pc := 160) k_fm_joint_160 (mvin (hsk.2.1 11 16 _ rfl) hv.1) ?_
                              replace hv := hv.2
                              refine tr_aload_n (pc := 161) 0 k_fm_joint_161 rfl rfl ?_
                              refine tr_getP (pc := 162) k_fm_joint_162 fl_fm_47 rfl (Eq.trans (Eq.trans (hP_setI) (Eq.trans (hP_setI) (hP_setI))) (hsk.1 10 18 _ rfl)) ?_
                              refine tr_aload_n (pc := 165) 0 k_fm_joint_165 rfl rfl ?_
                              refine tr_getIx (pc := 166) k_fm_joint_166 fl_fm_155 rfl (Eq.trans (hI_nk (by decide)) (Eq.trans (hI_nk (by decide)) (hI_nk (by decide)))) ?_
                              refine tr_iload (pc := 169) k_fm_joint_169 rfl ?_
                              refine tr_iast (pc := 171) k_fm_joint_171 (mvin (hsk.2.1 11 17 _ rfl) hv.1) ?_
                              replace hv := hv.2
                              refine tr_aload_n (pc := 172) 0 k_fm_joint_172 rfl rfl ?_
                              refine tr_getP (pc := 173) k_fm_joint_173 fl_fm_50 rfl (Eq.trans (Eq.trans (hP_setI) (Eq.trans (hP_setI) (Eq.trans (hP_setI) (hP_setI)))) (hsk.1 10 19 _ rfl)) ?_
                              refine tr_aload_n (pc := 176) 0 k_fm_joint_176 rfl rfl ?_
                              refine tr_getIx (pc := 177) k_fm_joint_177 fl_fm_155 rfl (Eq.trans (hI_nk (by decide)) (Eq.trans (hI_nk (by decide)) (Eq.trans (hI_nk (by decide)) (hI_nk (by decide))))) ?_
                              refine tr_iload (pc := 180) k_fm_joint_180 rfl ?_
                              refine tr_iast (pc := 182) k_fm_joint_182 (mvin (hsk.2.1 11 18 _ rfl) hv.1) ?_
                              replace hv := hv.2
                              refine tr_aload_n (pc := 183) 0 k_fm_joint_183 rfl rfl ?_
                              refine tr_getP (pc := 184) k_fm_joint_184 fl_fm_56 rfl (Eq.trans (Eq.trans (hP_setI) (Eq.trans (hP_setI) (Eq.trans (hP_setI) (Eq.trans (hP_setI) (hP_setI))))) (hsk.1 10 21 _ rfl)) ?_
                              refine tr_aload_n (pc := 187) 0 k_fm_joint_187 rfl rfl ?_
                              refine tr_getIx (pc := 188) k_fm_joint_188 fl_fm_155 rfl (Eq.trans (hI_nk (by decide)) (Eq.trans (hI_nk (by decide)) (Eq.trans (hI_nk (by decide)) (Eq.trans (hI_nk (by decide)) (hI_nk (by decide)))))) ?_
                              refine tr_bipush (pc := 191) (v := -9) k_fm_joint_191 (by decide) ?_
                              refine tr_iast (pc := 193) k_fm_joint_193 (mvin (hsk.2.1 11 20 _ rfl) hv.1) ?_
                              replace hv := hv.2
                              refine tr_aload_n (pc := 194) 0 k_fm_joint_194 rfl rfl ?_
                              refine tr_dup (pc := 195) k_fm_joint_195 rfl ?_
                              refine tr_getIx (pc := 196) k_fm_joint_196 fl_fm_155 rfl (Eq.trans (hI_nk (by decide)) (Eq.trans (hI_nk (by decide)) (Eq.trans (hI_nk (by decide)) (Eq.trans (hI_nk (by decide)) (Eq.trans (hI_nk (by decide)) (hI_nk (by decide))))))) ?_
                              refine tr_iconst (pc := 199) (v := 1) k_fm_joint_199 (by decide) ?_
                              refine tr_iadd (pc := 200) k_fm_joint_200 ?_
                              refine tr_putI (pc := 201) k_fm_joint_201 fl_fm_155 (Or.inl rfl) rfl ⟨rfl, rfl⟩ ?_
                              refine tr_aload_n (pc := 204) 0 k_fm_joint_204 rfl rfl ?_
                              refine tr_callV (pc := 205) (d' := d + 1) (mc' := 0) (ms' := 0) [] k_fm_joint_205 ca_fm_changes ml_fm_152 ii_fm_changes ⟨by decide, rfl⟩ pa_fm_changes (by omega) (by omega) (by omega) rfl (Nat.le_of_ble_eq_true rfl) (Nat.le_of_ble_eq_true rfl) (Qk := fun v h9 => mT g me_fm_joint (d + 2) 0 0 208 [some (vr 10 0), some (vi x1), some (vi x2), some (vi x3), some (vi x4), some (vi x5)] (v.toList ++ []) h9 _) ?_ (fun _ _ z => z)
                              show mT g me_fm_changes (d + 1) 0 0 0 [some (vr 10 0)] [] (setI (setI (setI (setI (setI (setI (setI h 11 14 ((hI h 10 0 3).toNatClampNeg) x2) 11 15 ((hI h 10 0 3).toNatClampNeg) x2) 11 16 ((hI h 10 0 3).toNatClampNeg) x3) 11 17 ((hI h 10 0 3).toNatClampNeg) x4) 11 18 ((hI h 10 0 3).toNatClampNeg) x5) 11 20 ((hI h 10 0 3).toNatClampNeg) (-9 : Int32)) 10 0 3 ((hI h 10 0 3) + (1 : Int32))) _
                              refine tr_aload_n (pc := 0) 0 k_fm_changes_0 rfl rfl ?_
                              refine tr_iconst (pc := 1) (v := 0) k_fm_changes_1 (by decide) ?_
                              refine tr_putI (pc := 2) k_fm_changes_2 fl_fm_137 (Or.inl rfl) rfl ⟨rfl, rfl⟩ ?_
                              refine tr_return (pc := 5) k_fm_changes_5 rfl ?_
                              show mT g me_fm_joint (d + 2) 0 0 208 [some (vr 10 0), some (vi x1), some (vi x2), some (vi x3), some (vi x4), some (vi x5)] [] (setI (setI (setI (setI (setI (setI (setI (setI h 11 14 ((hI h 10 0 3).toNatClampNeg) x2) 11 15 ((hI h 10 0 3).toNatClampNeg) x2) 11 16 ((hI h 10 0 3).toNatClampNeg) x3) 11 17 ((hI h 10 0 3).toNatClampNeg) x4) 11 18 ((hI h 10 0 3).toNatClampNeg) x5) 11 20 ((hI h 10 0 3).toNatClampNeg) (-9 : Int32)) 10 0 3 ((hI h 10 0 3) + (1 : Int32))) 10 0 55 (0 : Int32)) _
                              refine tr_aload_n (pc := 208) 0 k_fm_joint_208 rfl rfl ?_
                              refine tr_getIx (pc := 209) k_fm_joint_209 fl_fm_155 rfl (Eq.trans (hI_nf (by decide)) (hI_eq)) ?_
                              refine tr_iconst (pc := 212) (v := 1) k_fm_joint_212 (by decide) ?_
                              refine tr_isub (pc := 213) k_fm_joint_213 ?_
                              refine tr_ireturn (pc := 214) k_fm_joint_214 rfl rfl ?_
                              exact hv
                          · replace hv := hv.2 q
                            refine tr_bipush (pc := 121) (v := -9) k_fm_joint_121 (by decide) ?_
                            refine tr_goto (pc := 123) 127 k_fm_joint_123 (by decide) ?_
                            refine tr_iast (pc := 127) k_fm_joint_127 (mvin (hsk.2.1 11 14 _ rfl) hv.1) ?_
                            replace hv := hv.2
                            refine tr_aload_n (pc := 128) 0 k_fm_joint_128 rfl rfl ?_
                            refine tr_getP (pc := 129) k_fm_joint_129 fl_fm_41 rfl (Eq.trans (hP_setI) (hsk.1 10 16 _ rfl)) ?_
                            refine tr_aload_n (pc := 132) 0 k_fm_joint_132 rfl rfl ?_
                            refine tr_getIx (pc := 133) k_fm_joint_133 fl_fm_155 rfl (hI_nk (by decide)) ?_
                            refine tr_iload_n (pc := 136) 1 k_fm_joint_136 rfl rfl ?_
                            refine tr_if_eq (pc := 137) 144 k_fm_joint_137 (by decide) (fun q => ?_) (fun q => ?_)
                            · replace hv := hv.1 q
                              refine tr_aload_n (pc := 144) 0 k_fm_joint_144 rfl rfl ?_
                              refine tr_getP (pc := 145) k_fm_joint_145 fl_fm_41 rfl (Eq.trans (hP_setI) (hsk.1 10 16 _ rfl)) ?_
                              refine tr_iload_n (pc := 148) 2 k_fm_joint_148 rfl rfl ?_
                              refine tr_ialdx (pc := 149) k_fm_joint_149 (mvin (hsk.2.1 11 15 _ rfl) hv.1) (hI_nn (by decide)) ?_
                              replace hv := hv.2
                              refine tr_iast (pc := 150) k_fm_joint_150 (mvin (hsk.2.1 11 15 _ rfl) hv.1) ?_
                              replace hv := hv.2
                              refine tr_aload_n (pc := 151) 0 k_fm_joint_151 rfl rfl ?_
                              refine tr_getP (pc := 152) k_fm_joint_152 fl_fm_44 rfl (Eq.trans (Eq.trans (hP_setI) (hP_setI)) (hsk.1 10 17 _ rfl)) ?_
                              refine tr_aload_n (pc := 155) 0 k_fm_joint_155 rfl rfl ?_
                              refine tr_getIx (pc := 156) k_fm_joint_156 fl_fm_155 rfl (Eq.trans (hI_nk (by decide)) (hI_nk (by decide))) ?_
                              refine tr_iload_n (pc := 159) 3 k_fm_joint_159 rfl rfl ?_
                              refine tr_iast (pc := 160) k_fm_joint_160 (mvin (hsk.2.1 11 16 _ rfl) hv.1) ?_
                              replace hv := hv.2
                              refine tr_aload_n (pc := 161) 0 k_fm_joint_161 rfl rfl ?_
                              refine tr_getP (pc := 162) k_fm_joint_162 fl_fm_47 rfl (Eq.trans (Eq.trans (hP_setI) (Eq.trans (hP_setI) (hP_setI))) (hsk.1 10 18 _ rfl)) ?_
                              refine tr_aload_n (pc := 165) 0 k_fm_joint_165 rfl rfl ?_
                              refine tr_getIx (pc := 166) k_fm_joint_166 fl_fm_155 rfl (Eq.trans (hI_nk (by decide)) (Eq.trans (hI_nk (by decide)) (hI_nk (by decide)))) ?_
                              refine tr_iload (pc := 169) k_fm_joint_169 rfl ?_
                              refine tr_iast (pc := 171) k_fm_joint_171 (mvin (hsk.2.1 11 17 _ rfl) hv.1) ?_
                              replace hv := hv.2
                              refine tr_aload_n (pc := 172) 0 k_fm_joint_172 rfl rfl ?_
                              refine tr_getP (pc := 173) k_fm_joint_173 fl_fm_50 rfl (Eq.trans (Eq.trans (hP_setI) (Eq.trans (hP_setI) (Eq.trans (hP_setI) (hP_setI)))) (hsk.1 10 19 _ rfl)) ?_
                              refine tr_aload_n (pc := 176) 0 k_fm_joint_176 rfl rfl ?_
                              refine tr_getIx (pc := 177) k_fm_joint_177 fl_fm_155 rfl (Eq.trans (hI_nk (by decide)) (Eq.trans (hI_nk (by decide)) (Eq.trans (hI_nk (by decide)) (hI_nk (by decide))))) ?_
                              refine tr_iload (pc := 180) k_fm_joint_180 rfl ?_
                              refine tr_iast (pc := 182) k_fm_joint_182 (mvin (hsk.2.1 11 18 _ rfl) hv.1) ?_
                              replace hv := hv.2
                              refine tr_aload_n (pc := 183) 0 k_fm_joint_183 rfl rfl ?_
                              refine tr_getP (pc := 184) k_fm_joint_184 fl_fm_56 rfl (Eq.trans (Eq.trans (hP_setI) (Eq.trans (hP_setI) (Eq.trans (hP_setI) (Eq.trans (hP_setI) (hP_setI))))) (hsk.1 10 21 _ rfl)) ?_
                              refine tr_aload_n (pc := 187) 0 k_fm_joint_187 rfl rfl ?_
                              refine tr_getIx (pc := 188) k_fm_joint_188 fl_fm_155 rfl (Eq.trans (hI_nk (by decide)) (Eq.trans (hI_nk (by decide)) (Eq.trans (hI_nk (by decide)) (Eq.trans (hI_nk (by decide)) (hI_nk (by decide)))))) ?_
                              refine tr_bipush (pc := 191) (v := -9) k_fm_joint_191 (by decide) ?_
                              refine tr_iast (pc := 193) k_fm_joint_193 (mvin (hsk.2.1 11 20 _ rfl) hv.1) ?_
                              replace hv := hv.2
                              refine tr_aload_n (pc := 194) 0 k_fm_joint_194 rfl rfl ?_
                              refine tr_dup (pc := 195) k_fm_joint_195 rfl ?_
                              refine tr_getIx (pc := 196) k_fm_joint_196 fl_fm_155 rfl (Eq.trans (hI_nk (by decide)) (Eq.trans (hI_nk (by decide)) (Eq.trans (hI_nk (by decide)) (Eq.trans (hI_nk (by decide)) (Eq.trans (hI_nk (by decide)) (hI_nk (by decide))))))) ?_
                              refine tr_iconst (pc := 199) (v := 1) k_fm_joint_199 (by decide) ?_
                              refine tr_iadd (pc := 200) k_fm_joint_200 ?_
                              refine tr_putI (pc := 201) k_fm_joint_201 fl_fm_155 (Or.inl rfl) rfl ⟨rfl, rfl⟩ ?_
                              refine tr_aload_n (pc := 204) 0 k_fm_joint_204 rfl rfl ?_
                              refine tr_callV (pc := 205) (d' := d + 1) (mc' := 0) (ms' := 0) [] k_fm_joint_205 ca_fm_changes ml_fm_152 ii_fm_changes ⟨by decide, rfl⟩ pa_fm_changes (by omega) (by omega) (by omega) rfl (Nat.le_of_ble_eq_true rfl) (Nat.le_of_ble_eq_true rfl) (Qk := fun v h9 => mT g me_fm_joint (d + 2) 0 0 208 [some (vr 10 0), some (vi x1), some (vi x2), some (vi x3), some (vi x4), some (vi x5)] (v.toList ++ []) h9 _) ?_ (fun _ _ z => z)
                              show mT g me_fm_changes (d + 1) 0 0 0 [some (vr 10 0)] [] (setI (setI (setI (setI (setI (setI (setI h 11 14 ((hI h 10 0 3).toNatClampNeg) (-9 : Int32)) 11 15 ((hI h 10 0 3).toNatClampNeg) (hI h 11 15 x2.toNatClampNeg)) 11 16 ((hI h 10 0 3).toNatClampNeg) x3) 11 17 ((hI h 10 0 3).toNatClampNeg) x4) 11 18 ((hI h 10 0 3).toNatClampNeg) x5) 11 20 ((hI h 10 0 3).toNatClampNeg) (-9 : Int32)) 10 0 3 ((hI h 10 0 3) + (1 : Int32))) _
                              refine tr_aload_n (pc := 0) 0 k_fm_changes_0 rfl rfl ?_
                              refine tr_iconst (pc := 1) (v := 0) k_fm_changes_1 (by decide) ?_
                              refine tr_putI (pc := 2) k_fm_changes_2 fl_fm_137 (Or.inl rfl) rfl ⟨rfl, rfl⟩ ?_
                              refine tr_return (pc := 5) k_fm_changes_5 rfl ?_
                              show mT g me_fm_joint (d + 2) 0 0 208 [some (vr 10 0), some (vi x1), some (vi x2), some (vi x3), some (vi x4), some (vi x5)] [] (setI (setI (setI (setI (setI (setI (setI (setI h 11 14 ((hI h 10 0 3).toNatClampNeg) (-9 : Int32)) 11 15 ((hI h 10 0 3).toNatClampNeg) (hI h 11 15 x2.toNatClampNeg)) 11 16 ((hI h 10 0 3).toNatClampNeg) x3) 11 17 ((hI h 10 0 3).toNatClampNeg) x4) 11 18 ((hI h 10 0 3).toNatClampNeg) x5) 11 20 ((hI h 10 0 3).toNatClampNeg) (-9 : Int32)) 10 0 3 ((hI h 10 0 3) + (1 : Int32))) 10 0 55 (0 : Int32)) _
                              refine tr_aload_n (pc := 208) 0 k_fm_joint_208 rfl rfl ?_
                              refine tr_getIx (pc := 209) k_fm_joint_209 fl_fm_155 rfl (Eq.trans (hI_nf (by decide)) (hI_eq)) ?_
                              refine tr_iconst (pc := 212) (v := 1) k_fm_joint_212 (by decide) ?_
                              refine tr_isub (pc := 213) k_fm_joint_213 ?_
                              refine tr_ireturn (pc := 214) k_fm_joint_214 rfl rfl ?_
                              exact hv
                            · replace hv := hv.2 q
                              refine tr_iload_n (pc := 140) 2 k_fm_joint_140 rfl rfl ?_
                              refine tr_goto (pc := 141) 150 k_fm_joint_141 (by decide) ?_
                              refine tr_iast (pc := 150) k_fm_joint_150 (mvin (hsk.2.1 11 15 _ rfl) hv.1) ?_
                              replace hv := hv.2
                              refine tr_aload_n (pc := 151) 0 k_fm_joint_151 rfl rfl ?_
                              refine tr_getP (pc := 152) k_fm_joint_152 fl_fm_44 rfl (Eq.trans (Eq.trans (hP_setI) (hP_setI)) (hsk.1 10 17 _ rfl)) ?_
                              refine tr_aload_n (pc := 155) 0 k_fm_joint_155 rfl rfl ?_
                              refine tr_getIx (pc := 156) k_fm_joint_156 fl_fm_155 rfl (Eq.trans (hI_nk (by decide)) (hI_nk (by decide))) ?_
                              refine tr_iload_n (pc := 159) 3 k_fm_joint_159 rfl rfl ?_
                              refine tr_iast (pc := 160) k_fm_joint_160 (mvin (hsk.2.1 11 16 _ rfl) hv.1) ?_
                              replace hv := hv.2
                              refine tr_aload_n (pc := 161) 0 k_fm_joint_161 rfl rfl ?_
                              refine tr_getP (pc := 162) k_fm_joint_162 fl_fm_47 rfl (Eq.trans (Eq.trans (hP_setI) (Eq.trans (hP_setI) (hP_setI))) (hsk.1 10 18 _ rfl)) ?_
                              refine tr_aload_n (pc := 165) 0 k_fm_joint_165 rfl rfl ?_
                              refine tr_getIx (pc := 166) k_fm_joint_166 fl_fm_155 rfl (Eq.trans (hI_nk (by decide)) (Eq.trans (hI_nk (by decide)) (hI_nk (by decide)))) ?_
                              refine tr_iload (pc := 169) k_fm_joint_169 rfl ?_
                              refine tr_iast (pc := 171) k_fm_joint_171 (mvin (hsk.2.1 11 17 _ rfl) hv.1) ?_
                              replace hv := hv.2
                              refine tr_aload_n (pc := 172) 0 k_fm_joint_172 rfl rfl ?_
                              refine tr_getP (pc := 173) k_fm_joint_173 fl_fm_50 rfl (Eq.trans (Eq.trans (hP_setI) (Eq.trans (hP_setI) (Eq.trans (hP_setI) (hP_setI)))) (hsk.1 10 19 _ rfl)) ?_
                              refine tr_aload_n (pc := 176) 0 k_fm_joint_176 rfl rfl ?_
                              refine tr_getIx (pc := 177) k_fm_joint_177 fl_fm_155 rfl (Eq.trans (hI_nk (by decide)) (Eq.trans (hI_nk (by decide)) (Eq.trans (hI_nk (by decide)) (hI_nk (by decide))))) ?_
                              refine tr_iload (pc := 180) k_fm_joint_180 rfl ?_
                              refine tr_iast (pc := 182) k_fm_joint_182 (mvin (hsk.2.1 11 18 _ rfl) hv.1) ?_
                              replace hv := hv.2
                              refine tr_aload_n (pc := 183) 0 k_fm_joint_183 rfl rfl ?_
                              refine tr_getP (pc := 184) k_fm_joint_184 fl_fm_56 rfl (Eq.trans (Eq.trans (hP_setI) (Eq.trans (hP_setI) (Eq.trans (hP_setI) (Eq.trans (hP_setI) (hP_setI))))) (hsk.1 10 21 _ rfl)) ?_
                              refine tr_aload_n (pc := 187) 0 k_fm_joint_187 rfl rfl ?_
                              refine tr_getIx (pc := 188) k_fm_joint_188 fl_fm_155 rfl (Eq.trans (hI_nk (by decide)) (Eq.trans (hI_nk (by decide)) (Eq.trans (hI_nk (by decide)) (Eq.trans (hI_nk (by decide)) (hI_nk (by decide)))))) ?_
                              refine tr_bipush (pc := 191) (v := -9) k_fm_joint_191 (by decide) ?_
                              refine tr_iast (pc := 193) k_fm_joint_193 (mvin (hsk.2.1 11 20 _ rfl) hv.1) ?_
                              replace hv := hv.2
                              refine tr_aload_n (pc := 194) 0 k_fm_joint_194 rfl rfl ?_
                              refine tr_dup (pc := 195) k_fm_joint_195 rfl ?_
                              refine tr_getIx (pc := 196) k_fm_joint_196 fl_fm_155 rfl (Eq.trans (hI_nk (by decide)) (Eq.trans (hI_nk (by decide)) (Eq.trans (hI_nk (by decide)) (Eq.trans (hI_nk (by decide)) (Eq.trans (hI_nk (by decide)) (hI_nk (by decide))))))) ?_
                              refine tr_iconst (pc := 199) (v := 1) k_fm_joint_199 (by decide) ?_
                              refine tr_iadd (pc := 200) k_fm_joint_200 ?_
                              refine tr_putI (pc := 201) k_fm_joint_201 fl_fm_155 (Or.inl rfl) rfl ⟨rfl, rfl⟩ ?_
                              refine tr_aload_n (pc := 204) 0 k_fm_joint_204 rfl rfl ?_
                              refine tr_callV (pc := 205) (d' := d + 1) (mc' := 0) (ms' := 0) [] k_fm_joint_205 ca_fm_changes ml_fm_152 ii_fm_changes ⟨by decide, rfl⟩ pa_fm_changes (by omega) (by omega) (by omega) rfl (Nat.le_of_ble_eq_true rfl) (Nat.le_of_ble_eq_true rfl) (Qk := fun v h9 => mT g me_fm_joint (d + 2) 0 0 208 [some (vr 10 0), some (vi x1), some (vi x2), some (vi x3), some (vi x4), some (vi x5)] (v.toList ++ []) h9 _) ?_ (fun _ _ z => z)
                              show mT g me_fm_changes (d + 1) 0 0 0 [some (vr 10 0)] [] (setI (setI (setI (setI (setI (setI (setI h 11 14 ((hI h 10 0 3).toNatClampNeg) (-9 : Int32)) 11 15 ((hI h 10 0 3).toNatClampNeg) x2) 11 16 ((hI h 10 0 3).toNatClampNeg) x3) 11 17 ((hI h 10 0 3).toNatClampNeg) x4) 11 18 ((hI h 10 0 3).toNatClampNeg) x5) 11 20 ((hI h 10 0 3).toNatClampNeg) (-9 : Int32)) 10 0 3 ((hI h 10 0 3) + (1 : Int32))) _
                              refine tr_aload_n (pc := 0) 0 k_fm_changes_0 rfl rfl ?_
                              refine tr_iconst (pc := 1) (v := 0) k_fm_changes_1 (by decide) ?_
                              refine tr_putI (pc := 2) k_fm_changes_2 fl_fm_137 (Or.inl rfl) rfl ⟨rfl, rfl⟩ ?_
                              refine tr_return (pc := 5) k_fm_changes_5 rfl ?_
                              show mT g me_fm_joint (d + 2) 0 0 208 [some (vr 10 0), some (vi x1), some (vi x2), some (vi x3), some (vi x4), some (vi x5)] [] (setI (setI (setI (setI (setI (setI (setI (setI h 11 14 ((hI h 10 0 3).toNatClampNeg) (-9 : Int32)) 11 15 ((hI h 10 0 3).toNatClampNeg) x2) 11 16 ((hI h 10 0 3).toNatClampNeg) x3) 11 17 ((hI h 10 0 3).toNatClampNeg) x4) 11 18 ((hI h 10 0 3).toNatClampNeg) x5) 11 20 ((hI h 10 0 3).toNatClampNeg) (-9 : Int32)) 10 0 3 ((hI h 10 0 3) + (1 : Int32))) 10 0 55 (0 : Int32)) _
                              refine tr_aload_n (pc := 208) 0 k_fm_joint_208 rfl rfl ?_
                              refine tr_getIx (pc := 209) k_fm_joint_209 fl_fm_155 rfl (Eq.trans (hI_nf (by decide)) (hI_eq)) ?_
                              refine tr_iconst (pc := 212) (v := 1) k_fm_joint_212 (by decide) ?_
                              refine tr_isub (pc := 213) k_fm_joint_213 ?_
                              refine tr_ireturn (pc := 214) k_fm_joint_214 rfl rfl ?_
                              exact hv
                        · replace hv := hv.2 q
                          refine tr_aload_n (pc := 102) 0 k_fm_joint_102 rfl rfl ?_
                          refine tr_bipush (pc := 103) (v := -3) k_fm_joint_103 (by decide) ?_
                          refine tr_callV (pc := 105) (d' := d + 1) (mc' := 0) (ms' := 0) [vi (-3 : Int32)] k_fm_joint_105 ca_fm_refuse ml_fm_133 ii_fm_refuse ⟨by decide, rfl⟩ pa_fm_refuse (by omega) (by omega) (by omega) rfl (Nat.le_of_ble_eq_true rfl) (Nat.le_of_ble_eq_true rfl) hv (fun v h9 hv => ?_)
                          obtain ⟨y36, rfl, hv⟩ := hv
                          obtain ⟨h35, eh⟩ : ∃ z, z = h9 := ⟨_, rfl⟩
                          subst eh
                          obtain ⟨hskh35, hv⟩ := hv
                          show mT g me_fm_joint (d + 2) 0 0 108 [some (vr 10 0), some (vi x1), some (vi x2), some (vi x3), some (vi x4), some (vi x5)] [vi y36] h35 _
                          refine tr_ireturn (pc := 108) k_fm_joint_108 rfl rfl ?_
                          exact hv
                    · replace hv := hv.2 q
                      refine tr_aload_n (pc := 82) 0 k_fm_joint_82 rfl rfl ?_
                      refine tr_bipush (pc := 83) (v := -6) k_fm_joint_83 (by decide) ?_
                      refine tr_callV (pc := 85) (d' := d + 1) (mc' := 0) (ms' := 0) [vi (-6 : Int32)] k_fm_joint_85 ca_fm_refuse ml_fm_133 ii_fm_refuse ⟨by decide, rfl⟩ pa_fm_refuse (by omega) (by omega) (by omega) rfl (Nat.le_of_ble_eq_true rfl) (Nat.le_of_ble_eq_true rfl) hv (fun v h9 hv => ?_)
                      obtain ⟨y38, rfl, hv⟩ := hv
                      obtain ⟨h37, eh⟩ : ∃ z, z = h9 := ⟨_, rfl⟩
                      subst eh
                      obtain ⟨hskh37, hv⟩ := hv
                      show mT g me_fm_joint (d + 2) 0 0 88 [some (vr 10 0), some (vi x1), some (vi x2), some (vi x3), some (vi x4), some (vi x5)] [vi y38] h37 _
                      refine tr_ireturn (pc := 88) k_fm_joint_88 rfl rfl ?_
                      exact hv
            · replace hv := hv.2 q
              refine tr_aload_n (pc := 44) 0 k_fm_joint_44 rfl rfl ?_
              refine tr_bipush (pc := 45) (v := -4) k_fm_joint_45 (by decide) ?_
              refine tr_callV (pc := 47) (d' := d + 1) (mc' := 0) (ms' := 0) [vi (-4 : Int32)] k_fm_joint_47 ca_fm_refuse ml_fm_133 ii_fm_refuse ⟨by decide, rfl⟩ pa_fm_refuse (by omega) (by omega) (by omega) rfl (Nat.le_of_ble_eq_true rfl) (Nat.le_of_ble_eq_true rfl) hv (fun v h9 hv => ?_)
              obtain ⟨y40, rfl, hv⟩ := hv
              obtain ⟨h39, eh⟩ : ∃ z, z = h9 := ⟨_, rfl⟩
              subst eh
              obtain ⟨hskh39, hv⟩ := hv
              show mT g me_fm_joint (d + 2) 0 0 50 [some (vr 10 0), some (vi x1), some (vi x2), some (vi x3), some (vi x4), some (vi x5)] [vi y40] h39 _
              refine tr_ireturn (pc := 50) k_fm_joint_50 rfl rfl ?_
              exact hv
theorem v_fm_jet_0 {g : mG} {d : Nat} (x1 : Int32) (x2 : Int32) {h : mH} {Q : Option mV → mH → Prop} (hsk : mSK h) (hv : ((x1 < 0 → mT g me_fm_refuse (d + 2) 0 0 0 [some (vr 10 0), some (vi (-1 : Int32))] [] h (fun v h1 => ∃ y2, v = some (vi y2) ∧ mSK h1 ∧ Q (some (vi y2)) h1)) ∧ (¬ x1 < 0 → (((hI h 10 0 3) ≤ x1 → mT g me_fm_refuse (d + 2) 0 0 0 [some (vr 10 0), some (vi (-1 : Int32))] [] h (fun v h3 => ∃ y4, v = some (vi y4) ∧ mSK h3 ∧ Q (some (vi y4)) h3)) ∧ (¬ (hI h 10 0 3) ≤ x1 → (vp_in x1 30 ∧ (((hI h 11 20 x1.toNatClampNeg) < 0 → (((1 : Int32) ≤ x2 → (((60 : Int32) < x2 → mT g me_fm_refuse (d + 2) 0 0 0 [some (vr 10 0), some (vi (-6 : Int32))] [] h (fun v h5 => ∃ y6, v = some (vi y6) ∧ mSK h5 ∧ Q (some (vi y6)) h5)) ∧ (¬ (60 : Int32) < x2 → ((¬ (hI h 10 0 4) = (24 : Int32) → (vp_in (hI h 10 0 4) 24 ∧ (vp_in (hI h 10 0 4) 24 ∧ (vp_in (hI h 10 0 4) 24 ∧ (vp_in x1 30 ∧ Q (some (vi (((hI h 10 0 4) + (1 : Int32)) - (1 : Int32)))) (setI (setI (setI (setI (setI h 11 21 ((hI h 10 0 4).toNatClampNeg) x1) 11 22 ((hI h 10 0 4).toNatClampNeg) x2) 11 23 ((hI h 10 0 4).toNatClampNeg) (-1 : Int32)) 11 20 x1.toNatClampNeg (hI h 10 0 4)) 10 0 4 ((hI h 10 0 4) + (1 : Int32)))))))) ∧ ((hI h 10 0 4) = (24 : Int32) → mT g me_fm_refuse (d + 2) 0 0 0 [some (vr 10 0), some (vi (-6 : Int32))] [] h (fun v h7 => ∃ y8, v = some (vi y8) ∧ mSK h7 ∧ Q (some (vi y8)) h7)))))) ∧ (¬ (1 : Int32) ≤ x2 → mT g me_fm_refuse (d + 2) 0 0 0 [some (vr 10 0), some (vi (-4 : Int32))] [] h (fun v h9 => ∃ y10, v = some (vi y10) ∧ mSK h9 ∧ Q (some (vi y10)) h9)))) ∧ (¬ (hI h 11 20 x1.toNatClampNeg) < 0 → mT g me_fm_refuse (d + 2) 0 0 0 [some (vr 10 0), some (vi (-3 : Int32))] [] h (fun v h11 => ∃ y12, v = some (vi y12) ∧ mSK h11 ∧ Q (some (vi y12)) h11))))))))) : mT g me_fm_jet (d + 3) 0 0 0 [some (vr 10 0), some (vi x1), some (vi x2)] [] h Q := by
  refine tr_aload_n (pc := 0) 0 k_fm_jet_0 rfl rfl ?_
  refine tr_iload_n (pc := 1) 1 k_fm_jet_1 rfl rfl ?_
  refine tr_callV (pc := 2) (d' := d + 2) (mc' := 0) (ms' := 0) [vi x1] k_fm_jet_2 ca_fm_isJoint ml_fm_161 ii_fm_isJoint ⟨by decide, rfl⟩ pa_fm_isJoint (by omega) (by omega) (by omega) rfl (Nat.le_of_ble_eq_true rfl) (Nat.le_of_ble_eq_true rfl) (Qk := fun v h9 => mT g me_fm_jet (d + 3) 0 0 5 [some (vr 10 0), some (vi x1), some (vi x2)] (v.toList ++ []) h9 _) ?_ (fun _ _ z => z)
  show mT g me_fm_isJoint (d + 2) 0 0 0 [some (vr 10 0), some (vi x1)] [] h _
  refine tr_iload_n (pc := 0) 1 k_fm_isJoint_0 rfl rfl ?_
  refine tr_aload_n (pc := 1) 0 k_fm_isJoint_1 rfl rfl ?_
  refine tr_getIx (pc := 2) k_fm_isJoint_2 fl_fm_155 rfl rfl ?_
  refine tr_callS (pc := 5) (d' := d + 1) (mc' := 0) (ms' := 0) [vi x1, vi (hI h 10 0 3)] k_fm_isJoint_5 ca_fm_isIn ml_fm_144 is_fm_isIn pa_fm_isIn (by omega) (by omega) (by omega) rfl (Nat.le_of_ble_eq_true rfl) (Nat.le_of_ble_eq_true rfl) (Qk := fun v h9 => mT g me_fm_isJoint (d + 2) 0 0 8 [some (vr 10 0), some (vi x1)] (v.toList ++ []) h9 _) ?_ (fun _ _ z => z)
  show mT g me_fm_isIn (d + 1) 0 0 0 [some (vi x1), some (vi (hI h 10 0 3))] [] h _
  refine tr_iload_n (pc := 0) 0 k_fm_isIn_0 rfl rfl ?_
  refine tr_if_lt (pc := 1) 13 k_fm_isIn_1 (by decide) (fun q => ?_) (fun q => ?_)
  · replace hv := hv.1 q
    refine tr_iconst (pc := 13) (v := 0) k_fm_isIn_13 (by decide) ?_
    refine tr_ireturn (pc := 14) k_fm_isIn_14 rfl rfl ?_
    show mT g me_fm_isJoint (d + 2) 0 0 8 [some (vr 10 0), some (vi x1)] [vi (0 : Int32)] h _
    refine tr_ireturn (pc := 8) k_fm_isJoint_8 rfl rfl ?_
    show mT g me_fm_jet (d + 3) 0 0 5 [some (vr 10 0), some (vi x1), some (vi x2)] [vi (0 : Int32)] h _
    refine tr_if_ne (pc := 5) 14 k_fm_jet_5 (by decide) (fun q => absurd q (by decide)) (fun _ => ?_)
    refine tr_aload_n (pc := 8) 0 k_fm_jet_8 rfl rfl ?_
    refine tr_iconst (pc := 9) (v := -1) k_fm_jet_9 (by decide) ?_
    refine tr_callV (pc := 10) (d' := d + 2) (mc' := 0) (ms' := 0) [vi (-1 : Int32)] k_fm_jet_10 ca_fm_refuse ml_fm_133 ii_fm_refuse ⟨by decide, rfl⟩ pa_fm_refuse (by omega) (by omega) (by omega) rfl (Nat.le_of_ble_eq_true rfl) (Nat.le_of_ble_eq_true rfl) hv (fun v h9 hv => ?_)
    obtain ⟨y2, rfl, hv⟩ := hv
    obtain ⟨h1, eh⟩ : ∃ z, z = h9 := ⟨_, rfl⟩
    subst eh
    obtain ⟨hskh1, hv⟩ := hv
    show mT g me_fm_jet (d + 3) 0 0 13 [some (vr 10 0), some (vi x1), some (vi x2)] [vi y2] h1 _
    refine tr_ireturn (pc := 13) k_fm_jet_13 rfl rfl ?_
    exact hv
  · replace hv := hv.2 q
    refine tr_iload_n (pc := 4) 0 k_fm_isIn_4 rfl rfl ?_
    refine tr_iload_n (pc := 5) 1 k_fm_isIn_5 rfl rfl ?_
    refine tr_icmp_ge (pc := 6) 13 k_fm_isIn_6 (by decide) (fun q => ?_) (fun q => ?_)
    · replace hv := hv.1 q
      refine tr_iconst (pc := 13) (v := 0) k_fm_isIn_13 (by decide) ?_
      refine tr_ireturn (pc := 14) k_fm_isIn_14 rfl rfl ?_
      show mT g me_fm_isJoint (d + 2) 0 0 8 [some (vr 10 0), some (vi x1)] [vi (0 : Int32)] h _
      refine tr_ireturn (pc := 8) k_fm_isJoint_8 rfl rfl ?_
      show mT g me_fm_jet (d + 3) 0 0 5 [some (vr 10 0), some (vi x1), some (vi x2)] [vi (0 : Int32)] h _
      refine tr_if_ne (pc := 5) 14 k_fm_jet_5 (by decide) (fun q => absurd q (by decide)) (fun _ => ?_)
      refine tr_aload_n (pc := 8) 0 k_fm_jet_8 rfl rfl ?_
      refine tr_iconst (pc := 9) (v := -1) k_fm_jet_9 (by decide) ?_
      refine tr_callV (pc := 10) (d' := d + 2) (mc' := 0) (ms' := 0) [vi (-1 : Int32)] k_fm_jet_10 ca_fm_refuse ml_fm_133 ii_fm_refuse ⟨by decide, rfl⟩ pa_fm_refuse (by omega) (by omega) (by omega) rfl (Nat.le_of_ble_eq_true rfl) (Nat.le_of_ble_eq_true rfl) hv (fun v h9 hv => ?_)
      obtain ⟨y4, rfl, hv⟩ := hv
      obtain ⟨h3, eh⟩ : ∃ z, z = h9 := ⟨_, rfl⟩
      subst eh
      obtain ⟨hskh3, hv⟩ := hv
      show mT g me_fm_jet (d + 3) 0 0 13 [some (vr 10 0), some (vi x1), some (vi x2)] [vi y4] h3 _
      refine tr_ireturn (pc := 13) k_fm_jet_13 rfl rfl ?_
      exact hv
    · replace hv := hv.2 q
      refine tr_iconst (pc := 9) (v := 1) k_fm_isIn_9 (by decide) ?_
      refine tr_goto (pc := 10) 14 k_fm_isIn_10 (by decide) ?_
      refine tr_ireturn (pc := 14) k_fm_isIn_14 rfl rfl ?_
      show mT g me_fm_isJoint (d + 2) 0 0 8 [some (vr 10 0), some (vi x1)] [vi (1 : Int32)] h _
      refine tr_ireturn (pc := 8) k_fm_isJoint_8 rfl rfl ?_
      show mT g me_fm_jet (d + 3) 0 0 5 [some (vr 10 0), some (vi x1), some (vi x2)] [vi (1 : Int32)] h _
      refine tr_if_ne (pc := 5) 14 k_fm_jet_5 (by decide) (fun _ => ?_) (fun q => absurd q (by decide))
      refine tr_aload_n (pc := 14) 0 k_fm_jet_14 rfl rfl ?_
      refine tr_getP (pc := 15) k_fm_jet_15 fl_fm_56 rfl (Eq.trans rfl (hsk.1 10 21 _ rfl)) ?_
      refine tr_iload_n (pc := 18) 1 k_fm_jet_18 rfl rfl ?_
      refine tr_ialdx (pc := 19) k_fm_jet_19 (mvin (hsk.2.1 11 20 _ rfl) hv.1) rfl ?_
      replace hv := hv.2
      refine tr_if_lt (pc := 20) 30 k_fm_jet_20 (by decide) (fun q => ?_) (fun q => ?_)
      · replace hv := hv.1 q
        refine tr_iload_n (pc := 30) 2 k_fm_jet_30 rfl rfl ?_
        refine tr_iconst (pc := 31) (v := 1) k_fm_jet_31 (by decide) ?_
        refine tr_icmp_ge (pc := 32) 42 k_fm_jet_32 (by decide) (fun q => ?_) (fun q => ?_)
        · replace hv := hv.1 q
          refine tr_iload_n (pc := 42) 2 k_fm_jet_42 rfl rfl ?_
          refine tr_bipush (pc := 43) (v := 60) k_fm_jet_43 (by decide) ?_
          refine tr_icmp_gt (pc := 45) 57 k_fm_jet_45 (by decide) (fun q => ?_) (fun q => ?_)
          · replace hv := hv.1 q
            refine tr_aload_n (pc := 57) 0 k_fm_jet_57 rfl rfl ?_
            refine tr_bipush (pc := 58) (v := -6) k_fm_jet_58 (by decide) ?_
            refine tr_callV (pc := 60) (d' := d + 2) (mc' := 0) (ms' := 0) [vi (-6 : Int32)] k_fm_jet_60 ca_fm_refuse ml_fm_133 ii_fm_refuse ⟨by decide, rfl⟩ pa_fm_refuse (by omega) (by omega) (by omega) rfl (Nat.le_of_ble_eq_true rfl) (Nat.le_of_ble_eq_true rfl) hv (fun v h9 hv => ?_)
            obtain ⟨y6, rfl, hv⟩ := hv
            obtain ⟨h5, eh⟩ : ∃ z, z = h9 := ⟨_, rfl⟩
            subst eh
            obtain ⟨hskh5, hv⟩ := hv
            show mT g me_fm_jet (d + 3) 0 0 63 [some (vr 10 0), some (vi x1), some (vi x2)] [vi y6] h5 _
            refine tr_ireturn (pc := 63) k_fm_jet_63 rfl rfl ?_
            exact hv
          · replace hv := hv.2 q
            refine tr_aload_n (pc := 48) 0 k_fm_jet_48 rfl rfl ?_
            refine tr_getIx (pc := 49) k_fm_jet_49 fl_fm_158 rfl rfl ?_
            refine tr_bipush (pc := 52) (v := 24) k_fm_jet_52 (by decide) ?_
            refine tr_icmp_ne (pc := 54) 64 k_fm_jet_54 (by decide) (fun q => ?_) (fun q => ?_)
            · replace hv := hv.1 q
              refine tr_aload_n (pc := 64) 0 k_fm_jet_64 rfl rfl ?_
              refine tr_getP (pc := 65) k_fm_jet_65 fl_fm_63 rfl (Eq.trans rfl (hsk.1 10 23 _ rfl)) ?_
              refine tr_aload_n (pc := 68) 0 k_fm_jet_68 rfl rfl ?_
              refine tr_getIx (pc := 69) k_fm_jet_69 fl_fm_158 rfl rfl ?_
              refine tr_iload_n (pc := 72) 1 k_fm_jet_72 rfl rfl ?_
              refine tr_iast (pc := 73) k_fm_jet_73 (mvin (hsk.2.1 11 21 _ rfl) hv.1) ?_
              replace hv := hv.2
              refine tr_aload_n (pc := 74) 0 k_fm_jet_74 rfl rfl ?_
              refine tr_getP (pc := 75) k_fm_jet_75 fl_fm_66 rfl (Eq.trans (hP_setI) (hsk.1 10 24 _ rfl)) ?_
              refine tr_aload_n (pc := 78) 0 k_fm_jet_78 rfl rfl ?_
              refine tr_getIx (pc := 79) k_fm_jet_79 fl_fm_158 rfl (hI_nk (by decide)) ?_
              refine tr_iload_n (pc := 82) 2 k_fm_jet_82 rfl rfl ?_
              refine tr_iast (pc := 83) k_fm_jet_83 (mvin (hsk.2.1 11 22 _ rfl) hv.1) ?_
              replace hv := hv.2
              refine tr_aload_n (pc := 84) 0 k_fm_jet_84 rfl rfl ?_
              refine tr_getP (pc := 85) k_fm_jet_85 fl_fm_69 rfl (Eq.trans (Eq.trans (hP_setI) (hP_setI)) (hsk.1 10 25 _ rfl)) ?_
              refine tr_aload_n (pc := 88) 0 k_fm_jet_88 rfl rfl ?_
              refine tr_getIx (pc := 89) k_fm_jet_89 fl_fm_158 rfl (Eq.trans (hI_nk (by decide)) (hI_nk (by decide))) ?_
              refine tr_iconst (pc := 92) (v := -1) k_fm_jet_92 (by decide) ?_
              refine tr_iast (pc := 93) k_fm_jet_93 (mvin (hsk.2.1 11 23 _ rfl) hv.1) ?_
              replace hv := hv.2
              refine tr_aload_n (pc := 94) 0 k_fm_jet_94 rfl rfl ?_
              refine tr_getP (pc := 95) k_fm_jet_95 fl_fm_56 rfl (Eq.trans (Eq.trans (hP_setI) (Eq.trans (hP_setI) (hP_setI))) (hsk.1 10 21 _ rfl)) ?_
              refine tr_iload_n (pc := 98) 1 k_fm_jet_98 rfl rfl ?_
              refine tr_aload_n (pc := 99) 0 k_fm_jet_99 rfl rfl ?_
              refine tr_getIx (pc := 100) k_fm_jet_100 fl_fm_158 rfl (Eq.trans (hI_nk (by decide)) (Eq.trans (hI_nk (by decide)) (hI_nk (by decide)))) ?_
              refine tr_iast (pc := 103) k_fm_jet_103 (mvin (hsk.2.1 11 20 _ rfl) hv.1) ?_
              replace hv := hv.2
              refine tr_aload_n (pc := 104) 0 k_fm_jet_104 rfl rfl ?_
              refine tr_dup (pc := 105) k_fm_jet_105 rfl ?_
              refine tr_getIx (pc := 106) k_fm_jet_106 fl_fm_158 rfl (Eq.trans (hI_nk (by decide)) (Eq.trans (hI_nk (by decide)) (Eq.trans (hI_nk (by decide)) (hI_nk (by decide))))) ?_
              refine tr_iconst (pc := 109) (v := 1) k_fm_jet_109 (by decide) ?_
              refine tr_iadd (pc := 110) k_fm_jet_110 ?_
              refine tr_putI (pc := 111) k_fm_jet_111 fl_fm_158 (Or.inl rfl) rfl ⟨rfl, rfl⟩ ?_
              refine tr_aload_n (pc := 114) 0 k_fm_jet_114 rfl rfl ?_
              refine tr_getIx (pc := 115) k_fm_jet_115 fl_fm_158 rfl (hI_eq) ?_
              refine tr_iconst (pc := 118) (v := 1) k_fm_jet_118 (by decide) ?_
              refine tr_isub (pc := 119) k_fm_jet_119 ?_
              refine tr_ireturn (pc := 120) k_fm_jet_120 rfl rfl ?_
              exact hv
            · replace hv := hv.2 q
              refine tr_aload_n (pc := 57) 0 k_fm_jet_57 rfl rfl ?_
              refine tr_bipush (pc := 58) (v := -6) k_fm_jet_58 (by decide) ?_
              refine tr_callV (pc := 60) (d' := d + 2) (mc' := 0) (ms' := 0) [vi (-6 : Int32)] k_fm_jet_60 ca_fm_refuse ml_fm_133 ii_fm_refuse ⟨by decide, rfl⟩ pa_fm_refuse (by omega) (by omega) (by omega) rfl (Nat.le_of_ble_eq_true rfl) (Nat.le_of_ble_eq_true rfl) hv (fun v h9 hv => ?_)
              obtain ⟨y8, rfl, hv⟩ := hv
              obtain ⟨h7, eh⟩ : ∃ z, z = h9 := ⟨_, rfl⟩
              subst eh
              obtain ⟨hskh7, hv⟩ := hv
              show mT g me_fm_jet (d + 3) 0 0 63 [some (vr 10 0), some (vi x1), some (vi x2)] [vi y8] h7 _
              refine tr_ireturn (pc := 63) k_fm_jet_63 rfl rfl ?_
              exact hv
        · replace hv := hv.2 q
          refine tr_aload_n (pc := 35) 0 k_fm_jet_35 rfl rfl ?_
          refine tr_bipush (pc := 36) (v := -4) k_fm_jet_36 (by decide) ?_
          refine tr_callV (pc := 38) (d' := d + 2) (mc' := 0) (ms' := 0) [vi (-4 : Int32)] k_fm_jet_38 ca_fm_refuse ml_fm_133 ii_fm_refuse ⟨by decide, rfl⟩ pa_fm_refuse (by omega) (by omega) (by omega) rfl (Nat.le_of_ble_eq_true rfl) (Nat.le_of_ble_eq_true rfl) hv (fun v h9 hv => ?_)
          obtain ⟨y10, rfl, hv⟩ := hv
          obtain ⟨h9, eh⟩ : ∃ z, z = h9 := ⟨_, rfl⟩
          subst eh
          obtain ⟨hskh9, hv⟩ := hv
          show mT g me_fm_jet (d + 3) 0 0 41 [some (vr 10 0), some (vi x1), some (vi x2)] [vi y10] h9 _
          refine tr_ireturn (pc := 41) k_fm_jet_41 rfl rfl ?_
          exact hv
      · replace hv := hv.2 q
        refine tr_aload_n (pc := 23) 0 k_fm_jet_23 rfl rfl ?_
        refine tr_bipush (pc := 24) (v := -3) k_fm_jet_24 (by decide) ?_
        refine tr_callV (pc := 26) (d' := d + 2) (mc' := 0) (ms' := 0) [vi (-3 : Int32)] k_fm_jet_26 ca_fm_refuse ml_fm_133 ii_fm_refuse ⟨by decide, rfl⟩ pa_fm_refuse (by omega) (by omega) (by omega) rfl (Nat.le_of_ble_eq_true rfl) (Nat.le_of_ble_eq_true rfl) hv (fun v h9 hv => ?_)
        obtain ⟨y12, rfl, hv⟩ := hv
        obtain ⟨h11, eh⟩ : ∃ z, z = h9 := ⟨_, rfl⟩
        subst eh
        obtain ⟨hskh11, hv⟩ := hv
        show mT g me_fm_jet (d + 3) 0 0 29 [some (vr 10 0), some (vi x1), some (vi x2)] [vi y12] h11 _
        refine tr_ireturn (pc := 29) k_fm_jet_29 rfl rfl ?_
        exact hv
theorem v_fm_play_0 {g : mG} {d : Nat} (x1 : Int32) (x2 : Int32) {h : mH} {Q : Option mV → mH → Prop} (hsk : mSK h) (hv : ((x1 < 0 → mT g me_fm_refuse (d + 2) 0 0 0 [some (vr 10 0), some (vi (-1 : Int32))] [] h (fun v h1 => ∃ y2, v = some (vi y2) ∧ mSK h1 ∧ Q (some (vi y2)) h1)) ∧ (¬ x1 < 0 → (((hI h 10 0 4) ≤ x1 → mT g me_fm_refuse (d + 2) 0 0 0 [some (vr 10 0), some (vi (-1 : Int32))] [] h (fun v h3 => ∃ y4, v = some (vi y4) ∧ mSK h3 ∧ Q (some (vi y4)) h3)) ∧ (¬ (hI h 10 0 4) ≤ x1 → ((x2 = 0 → (vp_in x1 24 ∧ ((¬ (hI h 12 1 x1.toNatClampNeg) = x2 → (vp_in x1 24 ∧ vp_nar .boolean x2 = x2 ∧ Q (some (vi (1 : Int32))) (setI (setI h 12 1 x1.toNatClampNeg x2) 10 0 55 (0 : Int32)))) ∧ ((hI h 12 1 x1.toNatClampNeg) = x2 → Q (some (vi (0 : Int32))) h)))) ∧ (¬ x2 = 0 → (vp_in x1 24 ∧ mT g me_fm_isCut (d + 2) 0 0 0 [some (vr 10 0), some (vi (hI h 11 21 x1.toNatClampNeg)), none, none] [] h (fun v h5 => ∃ y6, v = some (vi y6) ∧ mSK h5 ∧ ((y6 = 0 → (vp_in x1 24 ∧ ((¬ (hI h5 12 1 x1.toNatClampNeg) = x2 → (vp_in x1 24 ∧ vp_nar .boolean x2 = x2 ∧ Q (some (vi (1 : Int32))) (setI (setI h5 12 1 x1.toNatClampNeg x2) 10 0 55 (0 : Int32)))) ∧ ((hI h5 12 1 x1.toNatClampNeg) = x2 → Q (some (vi (0 : Int32))) h5)))) ∧ (¬ y6 = 0 → mT g me_fm_refuse (d + 2) 0 0 0 [some (vr 10 0), some (vi (-3 : Int32))] [] h5 (fun v h7 => ∃ y8, v = some (vi y8) ∧ mSK h7 ∧ Q (some (vi y8)) h7)))))))))))) : mT g me_fm_play (d + 3) 0 0 0 [some (vr 10 0), some (vi x1), some (vi x2)] [] h Q := by
  refine tr_aload_n (pc := 0) 0 k_fm_play_0 rfl rfl ?_
  refine tr_iload_n (pc := 1) 1 k_fm_play_1 rfl rfl ?_
  refine tr_callV (pc := 2) (d' := d + 2) (mc' := 0) (ms' := 0) [vi x1] k_fm_play_2 ca_fm_isJet ml_fm_165 ii_fm_isJet ⟨by decide, rfl⟩ pa_fm_isJet (by omega) (by omega) (by omega) rfl (Nat.le_of_ble_eq_true rfl) (Nat.le_of_ble_eq_true rfl) (Qk := fun v h9 => mT g me_fm_play (d + 3) 0 0 5 [some (vr 10 0), some (vi x1), some (vi x2)] (v.toList ++ []) h9 _) ?_ (fun _ _ z => z)
  show mT g me_fm_isJet (d + 2) 0 0 0 [some (vr 10 0), some (vi x1)] [] h _
  refine tr_iload_n (pc := 0) 1 k_fm_isJet_0 rfl rfl ?_
  refine tr_aload_n (pc := 1) 0 k_fm_isJet_1 rfl rfl ?_
  refine tr_getIx (pc := 2) k_fm_isJet_2 fl_fm_158 rfl rfl ?_
  refine tr_callS (pc := 5) (d' := d + 1) (mc' := 0) (ms' := 0) [vi x1, vi (hI h 10 0 4)] k_fm_isJet_5 ca_fm_isIn ml_fm_144 is_fm_isIn pa_fm_isIn (by omega) (by omega) (by omega) rfl (Nat.le_of_ble_eq_true rfl) (Nat.le_of_ble_eq_true rfl) (Qk := fun v h9 => mT g me_fm_isJet (d + 2) 0 0 8 [some (vr 10 0), some (vi x1)] (v.toList ++ []) h9 _) ?_ (fun _ _ z => z)
  show mT g me_fm_isIn (d + 1) 0 0 0 [some (vi x1), some (vi (hI h 10 0 4))] [] h _
  refine tr_iload_n (pc := 0) 0 k_fm_isIn_0 rfl rfl ?_
  refine tr_if_lt (pc := 1) 13 k_fm_isIn_1 (by decide) (fun q => ?_) (fun q => ?_)
  · replace hv := hv.1 q
    refine tr_iconst (pc := 13) (v := 0) k_fm_isIn_13 (by decide) ?_
    refine tr_ireturn (pc := 14) k_fm_isIn_14 rfl rfl ?_
    show mT g me_fm_isJet (d + 2) 0 0 8 [some (vr 10 0), some (vi x1)] [vi (0 : Int32)] h _
    refine tr_ireturn (pc := 8) k_fm_isJet_8 rfl rfl ?_
    show mT g me_fm_play (d + 3) 0 0 5 [some (vr 10 0), some (vi x1), some (vi x2)] [vi (0 : Int32)] h _
    refine tr_if_ne (pc := 5) 14 k_fm_play_5 (by decide) (fun q => absurd q (by decide)) (fun _ => ?_)
    refine tr_aload_n (pc := 8) 0 k_fm_play_8 rfl rfl ?_
    refine tr_iconst (pc := 9) (v := -1) k_fm_play_9 (by decide) ?_
    refine tr_callV (pc := 10) (d' := d + 2) (mc' := 0) (ms' := 0) [vi (-1 : Int32)] k_fm_play_10 ca_fm_refuse ml_fm_133 ii_fm_refuse ⟨by decide, rfl⟩ pa_fm_refuse (by omega) (by omega) (by omega) rfl (Nat.le_of_ble_eq_true rfl) (Nat.le_of_ble_eq_true rfl) hv (fun v h9 hv => ?_)
    obtain ⟨y2, rfl, hv⟩ := hv
    obtain ⟨h1, eh⟩ : ∃ z, z = h9 := ⟨_, rfl⟩
    subst eh
    obtain ⟨hskh1, hv⟩ := hv
    show mT g me_fm_play (d + 3) 0 0 13 [some (vr 10 0), some (vi x1), some (vi x2)] [vi y2] h1 _
    refine tr_ireturn (pc := 13) k_fm_play_13 rfl rfl ?_
    exact hv
  · replace hv := hv.2 q
    refine tr_iload_n (pc := 4) 0 k_fm_isIn_4 rfl rfl ?_
    refine tr_iload_n (pc := 5) 1 k_fm_isIn_5 rfl rfl ?_
    refine tr_icmp_ge (pc := 6) 13 k_fm_isIn_6 (by decide) (fun q => ?_) (fun q => ?_)
    · replace hv := hv.1 q
      refine tr_iconst (pc := 13) (v := 0) k_fm_isIn_13 (by decide) ?_
      refine tr_ireturn (pc := 14) k_fm_isIn_14 rfl rfl ?_
      show mT g me_fm_isJet (d + 2) 0 0 8 [some (vr 10 0), some (vi x1)] [vi (0 : Int32)] h _
      refine tr_ireturn (pc := 8) k_fm_isJet_8 rfl rfl ?_
      show mT g me_fm_play (d + 3) 0 0 5 [some (vr 10 0), some (vi x1), some (vi x2)] [vi (0 : Int32)] h _
      refine tr_if_ne (pc := 5) 14 k_fm_play_5 (by decide) (fun q => absurd q (by decide)) (fun _ => ?_)
      refine tr_aload_n (pc := 8) 0 k_fm_play_8 rfl rfl ?_
      refine tr_iconst (pc := 9) (v := -1) k_fm_play_9 (by decide) ?_
      refine tr_callV (pc := 10) (d' := d + 2) (mc' := 0) (ms' := 0) [vi (-1 : Int32)] k_fm_play_10 ca_fm_refuse ml_fm_133 ii_fm_refuse ⟨by decide, rfl⟩ pa_fm_refuse (by omega) (by omega) (by omega) rfl (Nat.le_of_ble_eq_true rfl) (Nat.le_of_ble_eq_true rfl) hv (fun v h9 hv => ?_)
      obtain ⟨y4, rfl, hv⟩ := hv
      obtain ⟨h3, eh⟩ : ∃ z, z = h9 := ⟨_, rfl⟩
      subst eh
      obtain ⟨hskh3, hv⟩ := hv
      show mT g me_fm_play (d + 3) 0 0 13 [some (vr 10 0), some (vi x1), some (vi x2)] [vi y4] h3 _
      refine tr_ireturn (pc := 13) k_fm_play_13 rfl rfl ?_
      exact hv
    · replace hv := hv.2 q
      refine tr_iconst (pc := 9) (v := 1) k_fm_isIn_9 (by decide) ?_
      refine tr_goto (pc := 10) 14 k_fm_isIn_10 (by decide) ?_
      refine tr_ireturn (pc := 14) k_fm_isIn_14 rfl rfl ?_
      show mT g me_fm_isJet (d + 2) 0 0 8 [some (vr 10 0), some (vi x1)] [vi (1 : Int32)] h _
      refine tr_ireturn (pc := 8) k_fm_isJet_8 rfl rfl ?_
      show mT g me_fm_play (d + 3) 0 0 5 [some (vr 10 0), some (vi x1), some (vi x2)] [vi (1 : Int32)] h _
      refine tr_if_ne (pc := 5) 14 k_fm_play_5 (by decide) (fun _ => ?_) (fun q => absurd q (by decide))
      refine tr_iload_n (pc := 14) 2 k_fm_play_14 rfl rfl ?_
      refine tr_if_eq (pc := 15) 38 k_fm_play_15 (by decide) (fun q => ?_) (fun q => ?_)
      · replace hv := hv.1 q
        refine tr_aload_n (pc := 38) 0 k_fm_play_38 rfl rfl ?_
        refine tr_getP (pc := 39) k_fm_play_39 fl_fm_72 rfl (Eq.trans rfl (hsk.1 10 26 _ rfl)) ?_
        refine tr_iload_n (pc := 42) 1 k_fm_play_42 rfl rfl ?_
        refine tr_zaldx (pc := 43) k_fm_play_43 (mvin (hsk.2.1 12 1 _ rfl) hv.1) rfl ?_
        replace hv := hv.2
        refine tr_iload_n (pc := 44) 2 k_fm_play_44 rfl rfl ?_
        refine tr_icmp_ne (pc := 45) 50 k_fm_play_45 (by decide) (fun q => ?_) (fun q => ?_)
        · replace hv := hv.1 q
          refine tr_aload_n (pc := 50) 0 k_fm_play_50 rfl rfl ?_
          refine tr_getP (pc := 51) k_fm_play_51 fl_fm_72 rfl (Eq.trans rfl (hsk.1 10 26 _ rfl)) ?_
          refine tr_iload_n (pc := 54) 1 k_fm_play_54 rfl rfl ?_
          refine tr_iload_n (pc := 55) 2 k_fm_play_55 rfl rfl ?_
          refine tr_zast (pc := 56) k_fm_play_56 (mvin (hsk.2.1 12 1 _ rfl) hv.1) hv.2.1 ?_
          replace hv := hv.2.2
          refine tr_aload_n (pc := 57) 0 k_fm_play_57 rfl rfl ?_
          refine tr_callV (pc := 58) (d' := d + 2) (mc' := 0) (ms' := 0) [] k_fm_play_58 ca_fm_changes ml_fm_152 ii_fm_changes ⟨by decide, rfl⟩ pa_fm_changes (by omega) (by omega) (by omega) rfl (Nat.le_of_ble_eq_true rfl) (Nat.le_of_ble_eq_true rfl) (Qk := fun v h9 => mT g me_fm_play (d + 3) 0 0 61 [some (vr 10 0), some (vi x1), some (vi x2)] (v.toList ++ []) h9 _) ?_ (fun _ _ z => z)
          show mT g me_fm_changes (d + 2) 0 0 0 [some (vr 10 0)] [] (setI h 12 1 x1.toNatClampNeg x2) _
          refine tr_aload_n (pc := 0) 0 k_fm_changes_0 rfl rfl ?_
          refine tr_iconst (pc := 1) (v := 0) k_fm_changes_1 (by decide) ?_
          refine tr_putI (pc := 2) k_fm_changes_2 fl_fm_137 (Or.inl rfl) rfl ⟨rfl, rfl⟩ ?_
          refine tr_return (pc := 5) k_fm_changes_5 rfl ?_
          show mT g me_fm_play (d + 3) 0 0 61 [some (vr 10 0), some (vi x1), some (vi x2)] [] (setI (setI h 12 1 x1.toNatClampNeg x2) 10 0 55 (0 : Int32)) _
          refine tr_iconst (pc := 61) (v := 1) k_fm_play_61 (by decide) ?_
          refine tr_ireturn (pc := 62) k_fm_play_62 rfl rfl ?_
          exact hv
        · replace hv := hv.2 q
          refine tr_iconst (pc := 48) (v := 0) k_fm_play_48 (by decide) ?_
          refine tr_ireturn (pc := 49) k_fm_play_49 rfl rfl ?_
          exact hv
      · replace hv := hv.2 q
        refine tr_aload_n (pc := 18) 0 k_fm_play_18 rfl rfl ?_
        refine tr_aload_n (pc := 19) 0 k_fm_play_19 rfl rfl ?_
        refine tr_getP (pc := 20) k_fm_play_20 fl_fm_63 rfl (Eq.trans rfl (hsk.1 10 23 _ rfl)) ?_
        refine tr_iload_n (pc := 23) 1 k_fm_play_23 rfl rfl ?_
        refine tr_ialdx (pc := 24) k_fm_play_24 (mvin (hsk.2.1 11 21 _ rfl) hv.1) rfl ?_
        replace hv := hv.2
        refine tr_callV (pc := 25) (d' := d + 2) (mc' := 0) (ms' := 0) [vi (hI h 11 21 x1.toNatClampNeg)] k_fm_play_25 ca_fm_isCut ml_fm_168 ii_fm_isCut ⟨by decide, rfl⟩ pa_fm_isCut (by omega) (by omega) (by omega) rfl (Nat.le_of_ble_eq_true rfl) (Nat.le_of_ble_eq_true rfl) hv (fun v h9 hv => ?_)
        obtain ⟨y6, rfl, hv⟩ := hv
        obtain ⟨h5, eh⟩ : ∃ z, z = h9 := ⟨_, rfl⟩
        subst eh
        obtain ⟨hskh5, hv⟩ := hv
        show mT g me_fm_play (d + 3) 0 0 28 [some (vr 10 0), some (vi x1), some (vi x2)] [vi y6] h5 _
        refine tr_if_eq (pc := 28) 38 k_fm_play_28 (by decide) (fun q => ?_) (fun q => ?_)
        · replace hv := hv.1 q
          refine tr_aload_n (pc := 38) 0 k_fm_play_38 rfl rfl ?_
          refine tr_getP (pc := 39) k_fm_play_39 fl_fm_72 rfl (Eq.trans rfl (hskh5.1 10 26 _ rfl)) ?_
          refine tr_iload_n (pc := 42) 1 k_fm_play_42 rfl rfl ?_
          refine tr_zaldx (pc := 43) k_fm_play_43 (mvin (hskh5.2.1 12 1 _ rfl) hv.1) rfl ?_
          replace hv := hv.2
          refine tr_iload_n (pc := 44) 2 k_fm_play_44 rfl rfl ?_
          refine tr_icmp_ne (pc := 45) 50 k_fm_play_45 (by decide) (fun q => ?_) (fun q => ?_)
          · replace hv := hv.1 q
            refine tr_aload_n (pc := 50) 0 k_fm_play_50 rfl rfl ?_
            refine tr_getP (pc := 51) k_fm_play_51 fl_fm_72 rfl (Eq.trans rfl (hskh5.1 10 26 _ rfl)) ?_
            refine tr_iload_n (pc := 54) 1 k_fm_play_54 rfl rfl ?_
            refine tr_iload_n (pc := 55) 2 k_fm_play_55 rfl rfl ?_
            refine tr_zast (pc := 56) k_fm_play_56 (mvin (hskh5.2.1 12 1 _ rfl) hv.1) hv.2.1 ?_
            replace hv := hv.2.2
            refine tr_aload_n (pc := 57) 0 k_fm_play_57 rfl rfl ?_
            refine tr_callV (pc := 58) (d' := d + 2) (mc' := 0) (ms' := 0) [] k_fm_play_58 ca_fm_changes ml_fm_152 ii_fm_changes ⟨by decide, rfl⟩ pa_fm_changes (by omega) (by omega) (by omega) rfl (Nat.le_of_ble_eq_true rfl) (Nat.le_of_ble_eq_true rfl) (Qk := fun v h9 => mT g me_fm_play (d + 3) 0 0 61 [some (vr 10 0), some (vi x1), some (vi x2)] (v.toList ++ []) h9 _) ?_ (fun _ _ z => z)
            show mT g me_fm_changes (d + 2) 0 0 0 [some (vr 10 0)] [] (setI h5 12 1 x1.toNatClampNeg x2) _
            refine tr_aload_n (pc := 0) 0 k_fm_changes_0 rfl rfl ?_
            refine tr_iconst (pc := 1) (v := 0) k_fm_changes_1 (by decide) ?_
            refine tr_putI (pc := 2) k_fm_changes_2 fl_fm_137 (Or.inl rfl) rfl ⟨rfl, rfl⟩ ?_
            refine tr_return (pc := 5) k_fm_changes_5 rfl ?_
            show mT g me_fm_play (d + 3) 0 0 61 [some (vr 10 0), some (vi x1), some (vi x2)] [] (setI (setI h5 12 1 x1.toNatClampNeg x2) 10 0 55 (0 : Int32)) _
            refine tr_iconst (pc := 61) (v := 1) k_fm_play_61 (by decide) ?_
            refine tr_ireturn (pc := 62) k_fm_play_62 rfl rfl ?_
            exact hv
          · replace hv := hv.2 q
            refine tr_iconst (pc := 48) (v := 0) k_fm_play_48 (by decide) ?_
            refine tr_ireturn (pc := 49) k_fm_play_49 rfl rfl ?_
            exact hv
        · replace hv := hv.2 q
          refine tr_aload_n (pc := 31) 0 k_fm_play_31 rfl rfl ?_
          refine tr_bipush (pc := 32) (v := -3) k_fm_play_32 (by decide) ?_
          refine tr_callV (pc := 34) (d' := d + 2) (mc' := 0) (ms' := 0) [vi (-3 : Int32)] k_fm_play_34 ca_fm_refuse ml_fm_133 ii_fm_refuse ⟨by decide, rfl⟩ pa_fm_refuse (by omega) (by omega) (by omega) rfl (Nat.le_of_ble_eq_true rfl) (Nat.le_of_ble_eq_true rfl) hv (fun v h9 hv => ?_)
          obtain ⟨y8, rfl, hv⟩ := hv
          obtain ⟨h7, eh⟩ : ∃ z, z = h9 := ⟨_, rfl⟩
          subst eh
          obtain ⟨hskh7, hv⟩ := hv
          show mT g me_fm_play (d + 3) 0 0 37 [some (vr 10 0), some (vi x1), some (vi x2)] [vi y8] h7 _
          refine tr_ireturn (pc := 37) k_fm_play_37 rfl rfl ?_
          exact hv
theorem v_fm_isCut_0 {g : mG} {d : Nat} (x1 : Int32) {h : mH} {Q : Option mV → mH → Prop} (hsk : mSK h) (hv : mT g me_fm_isCut (d + 1) 0 0 4 [some (vr 10 0), some (vi x1), some (vi (0 : Int32)), some (vi x1)] [] h Q) : mT g me_fm_isCut (d + 1) 0 0 0 [some (vr 10 0), some (vi x1), none, none] [] h Q := by
  refine tr_iconst (pc := 0) (v := 0) k_fm_isCut_0 (by decide) ?_
  refine tr_istore_n (pc := 1) 2 k_fm_isCut_1 rfl (by decide) rfl ?_
  show mT g me_fm_isCut (d + 1) 0 0 2 [some (vr 10 0), some (vi x1), some (vi (0 : Int32)), none] [] h _
  refine tr_iload_n (pc := 2) 1 k_fm_isCut_2 rfl rfl ?_
  refine tr_istore_n (pc := 3) 3 k_fm_isCut_3 rfl (by decide) rfl ?_
  show mT g me_fm_isCut (d + 1) 0 0 4 [some (vr 10 0), some (vi x1), some (vi (0 : Int32)), some (vi x1)] [] h _
  exact hv
theorem v_fm_isCut_4 {g : mG} {d : Nat} (x1 : Int32) (x2 : Int32) (x3 : Int32) {h : mH} {Q : Option mV → mH → Prop} (hsk : mSK h) (hv : ((x3 < 0 → (vp_nar .boolean x2 = x2 ∧ Q (some (vi x2)) h)) ∧ (¬ x3 < 0 → ((¬ x2 = 0 → (vp_in x3 30 ∧ mT g me_fm_isCut (d + 1) 0 0 4 [some (vr 10 0), some (vi x1), some (vi (1 : Int32)), some (vi (hI h 11 14 x3.toNatClampNeg))] [] h Q)) ∧ (x2 = 0 → (vp_in x3 30 ∧ (((hI h 12 0 x3.toNatClampNeg) = 0 → (vp_in x3 30 ∧ mT g me_fm_isCut (d + 1) 0 0 4 [some (vr 10 0), some (vi x1), some (vi (0 : Int32)), some (vi (hI h 11 14 x3.toNatClampNeg))] [] h Q)) ∧ (¬ (hI h 12 0 x3.toNatClampNeg) = 0 → (vp_in x3 30 ∧ mT g me_fm_isCut (d + 1) 0 0 4 [some (vr 10 0), some (vi x1), some (vi (1 : Int32)), some (vi (hI h 11 14 x3.toNatClampNeg))] [] h Q))))))))) : mT g me_fm_isCut (d + 1) 0 0 4 [some (vr 10 0), some (vi x1), some (vi x2), some (vi x3)] [] h Q := by
  refine tr_iload_n (pc := 4) 3 k_fm_isCut_4 rfl rfl ?_
  refine tr_if_lt (pc := 5) 37 k_fm_isCut_5 (by decide) (fun q => ?_) (fun q => ?_)
  · replace hv := hv.1 q
    refine tr_iload_n (pc := 37) 2 k_fm_isCut_37 rfl rfl ?_
    refine tr_ireturn (pc := 38) k_fm_isCut_38 rfl (mzret hv.1) ?_
    replace hv := hv.2
    exact hv
  · replace hv := hv.2 q
    refine tr_iload_n (pc := 8) 2 k_fm_isCut_8 rfl rfl ?_
    refine tr_if_ne (pc := 9) 21 k_fm_isCut_9 (by decide) (fun q => ?_) (fun q => ?_)
    · replace hv := hv.1 q
      refine tr_iconst (pc := 21) (v := 1) k_fm_isCut_21 (by decide) ?_
      refine tr_goto (pc := 22) 26 k_fm_isCut_22 (by decide) ?_
      refine tr_istore_n (pc := 26) 2 k_fm_isCut_26 rfl (by decide) rfl ?_
      show mT g me_fm_isCut (d + 1) 0 0 27 [some (vr 10 0), some (vi x1), some (vi (1 : Int32)), some (vi x3)] [] h _
      refine tr_aload_n (pc := 27) 0 k_fm_isCut_27 rfl rfl ?_
      refine tr_getP (pc := 28) k_fm_isCut_28 fl_fm_38 rfl (Eq.trans rfl (hsk.1 10 15 _ rfl)) ?_
      refine tr_iload_n (pc := 31) 3 k_fm_isCut_31 rfl rfl ?_
      refine tr_ialdx (pc := 32) k_fm_isCut_32 (mvin (hsk.2.1 11 14 _ rfl) hv.1) rfl ?_
      replace hv := hv.2
      refine tr_istore_n (pc := 33) 3 k_fm_isCut_33 rfl (by decide) rfl ?_
      show mT g me_fm_isCut (d + 1) 0 0 34 [some (vr 10 0), some (vi x1), some (vi (1 : Int32)), some (vi (hI h 11 14 x3.toNatClampNeg))] [] h _
      refine tr_goto (pc := 34) 4 k_fm_isCut_34 (by decide) ?_
      exact hv
    · replace hv := hv.2 q
      refine tr_aload_n (pc := 12) 0 k_fm_isCut_12 rfl rfl ?_
      refine tr_getP (pc := 13) k_fm_isCut_13 fl_fm_59 rfl (Eq.trans rfl (hsk.1 10 22 _ rfl)) ?_
      refine tr_iload_n (pc := 16) 3 k_fm_isCut_16 rfl rfl ?_
      refine tr_zaldx (pc := 17) k_fm_isCut_17 (mvin (hsk.2.1 12 0 _ rfl) hv.1) rfl ?_
      replace hv := hv.2
      refine tr_if_eq (pc := 18) 25 k_fm_isCut_18 (by decide) (fun q => ?_) (fun q => ?_)
      · replace hv := hv.1 q
        refine tr_iconst (pc := 25) (v := 0) k_fm_isCut_25 (by decide) ?_
        refine tr_istore_n (pc := 26) 2 k_fm_isCut_26 rfl (by decide) rfl ?_
        show mT g me_fm_isCut (d + 1) 0 0 27 [some (vr 10 0), some (vi x1), some (vi (0 : Int32)), some (vi x3)] [] h _
        refine tr_aload_n (pc := 27) 0 k_fm_isCut_27 rfl rfl ?_
        refine tr_getP (pc := 28) k_fm_isCut_28 fl_fm_38 rfl (Eq.trans rfl (hsk.1 10 15 _ rfl)) ?_
        refine tr_iload_n (pc := 31) 3 k_fm_isCut_31 rfl rfl ?_
        refine tr_ialdx (pc := 32) k_fm_isCut_32 (mvin (hsk.2.1 11 14 _ rfl) hv.1) rfl ?_
        replace hv := hv.2
        refine tr_istore_n (pc := 33) 3 k_fm_isCut_33 rfl (by decide) rfl ?_
        show mT g me_fm_isCut (d + 1) 0 0 34 [some (vr 10 0), some (vi x1), some (vi (0 : Int32)), some (vi (hI h 11 14 x3.toNatClampNeg))] [] h _
        refine tr_goto (pc := 34) 4 k_fm_isCut_34 (by decide) ?_
        exact hv
      · replace hv := hv.2 q
        refine tr_iconst (pc := 21) (v := 1) k_fm_isCut_21 (by decide) ?_
        refine tr_goto (pc := 22) 26 k_fm_isCut_22 (by decide) ?_
        refine tr_istore_n (pc := 26) 2 k_fm_isCut_26 rfl (by decide) rfl ?_
        show mT g me_fm_isCut (d + 1) 0 0 27 [some (vr 10 0), some (vi x1), some (vi (1 : Int32)), some (vi x3)] [] h _
        refine tr_aload_n (pc := 27) 0 k_fm_isCut_27 rfl rfl ?_
        refine tr_getP (pc := 28) k_fm_isCut_28 fl_fm_38 rfl (Eq.trans rfl (hsk.1 10 15 _ rfl)) ?_
        refine tr_iload_n (pc := 31) 3 k_fm_isCut_31 rfl rfl ?_
        refine tr_ialdx (pc := 32) k_fm_isCut_32 (mvin (hsk.2.1 11 14 _ rfl) hv.1) rfl ?_
        replace hv := hv.2
        refine tr_istore_n (pc := 33) 3 k_fm_isCut_33 rfl (by decide) rfl ?_
        show mT g me_fm_isCut (d + 1) 0 0 34 [some (vr 10 0), some (vi x1), some (vi (1 : Int32)), some (vi (hI h 11 14 x3.toNatClampNeg))] [] h _
        refine tr_goto (pc := 34) 4 k_fm_isCut_34 (by decide) ?_
        exact hv
theorem v_fm_pipe_0 {g : mG} {d : Nat} (x1 : Int32) (x2 : Int32) {h : mH} {Q : Option mV → mH → Prop} (hsk : mSK h) (hv : ((x1 < 0 → mT g me_fm_refuse (d + 2) 0 0 0 [some (vr 10 0), some (vi (-1 : Int32))] [] h (fun v h1 => ∃ y2, v = some (vi y2) ∧ mSK h1 ∧ Q (some (vi y2)) h1)) ∧ (¬ x1 < 0 → (((hI h 10 0 3) ≤ x1 → mT g me_fm_refuse (d + 2) 0 0 0 [some (vr 10 0), some (vi (-1 : Int32))] [] h (fun v h3 => ∃ y4, v = some (vi y4) ∧ mSK h3 ∧ Q (some (vi y4)) h3)) ∧ (¬ (hI h 10 0 3) ≤ x1 → (((1 : Int32) ≤ x2 → ((x2 ≤ (9 : Int32) → (vp_in x1 30 ∧ (vp_in x1 30 ∧ Q (some (vi (hI h 11 17 x1.toNatClampNeg))) (setI (setI h 11 17 x1.toNatClampNeg x2) 10 0 55 (0 : Int32))))) ∧ (¬ x2 ≤ (9 : Int32) → mT g me_fm_refuse (d + 2) 0 0 0 [some (vr 10 0), some (vi (-6 : Int32))] [] h (fun v h5 => ∃ y6, v = some (vi y6) ∧ mSK h5 ∧ Q (some (vi y6)) h5)))) ∧ (¬ (1 : Int32) ≤ x2 → mT g me_fm_refuse (d + 2) 0 0 0 [some (vr 10 0), some (vi (-4 : Int32))] [] h (fun v h7 => ∃ y8, v = some (vi y8) ∧ mSK h7 ∧ Q (some (vi y8)) h7)))))))) : mT g me_fm_pipe (d + 3) 0 0 0 [some (vr 10 0), some (vi x1), some (vi x2), none, none] [] h Q := by
  refine tr_aload_n (pc := 0) 0 k_fm_pipe_0 rfl rfl ?_
  refine tr_iload_n (pc := 1) 1 k_fm_pipe_1 rfl rfl ?_
  refine tr_callV (pc := 2) (d' := d + 2) (mc' := 0) (ms' := 0) [vi x1] k_fm_pipe_2 ca_fm_isJoint ml_fm_161 ii_fm_isJoint ⟨by decide, rfl⟩ pa_fm_isJoint (by omega) (by omega) (by omega) rfl (Nat.le_of_ble_eq_true rfl) (Nat.le_of_ble_eq_true rfl) (Qk := fun v h9 => mT g me_fm_pipe (d + 3) 0 0 5 [some (vr 10 0), some (vi x1), some (vi x2), none, none] (v.toList ++ []) h9 _) ?_ (fun _ _ z => z)
  show mT g me_fm_isJoint (d + 2) 0 0 0 [some (vr 10 0), some (vi x1)] [] h _
  refine tr_iload_n (pc := 0) 1 k_fm_isJoint_0 rfl rfl ?_
  refine tr_aload_n (pc := 1) 0 k_fm_isJoint_1 rfl rfl ?_
  refine tr_getIx (pc := 2) k_fm_isJoint_2 fl_fm_155 rfl rfl ?_
  refine tr_callS (pc := 5) (d' := d + 1) (mc' := 0) (ms' := 0) [vi x1, vi (hI h 10 0 3)] k_fm_isJoint_5 ca_fm_isIn ml_fm_144 is_fm_isIn pa_fm_isIn (by omega) (by omega) (by omega) rfl (Nat.le_of_ble_eq_true rfl) (Nat.le_of_ble_eq_true rfl) (Qk := fun v h9 => mT g me_fm_isJoint (d + 2) 0 0 8 [some (vr 10 0), some (vi x1)] (v.toList ++ []) h9 _) ?_ (fun _ _ z => z)
  show mT g me_fm_isIn (d + 1) 0 0 0 [some (vi x1), some (vi (hI h 10 0 3))] [] h _
  refine tr_iload_n (pc := 0) 0 k_fm_isIn_0 rfl rfl ?_
  refine tr_if_lt (pc := 1) 13 k_fm_isIn_1 (by decide) (fun q => ?_) (fun q => ?_)
  · replace hv := hv.1 q
    refine tr_iconst (pc := 13) (v := 0) k_fm_isIn_13 (by decide) ?_
    refine tr_ireturn (pc := 14) k_fm_isIn_14 rfl rfl ?_
    show mT g me_fm_isJoint (d + 2) 0 0 8 [some (vr 10 0), some (vi x1)] [vi (0 : Int32)] h _
    refine tr_ireturn (pc := 8) k_fm_isJoint_8 rfl rfl ?_
    show mT g me_fm_pipe (d + 3) 0 0 5 [some (vr 10 0), some (vi x1), some (vi x2), none, none] [vi (0 : Int32)] h _
    refine tr_if_eq (pc := 5) 18 k_fm_pipe_5 (by decide) (fun _ => ?_) (fun q => absurd q (by decide))
    refine tr_iconst (pc := 18) (v := -1) k_fm_pipe_18 (by decide) ?_
    refine tr_istore_n (pc := 19) 3 k_fm_pipe_19 rfl (by decide) rfl ?_
    show mT g me_fm_pipe (d + 3) 0 0 20 [some (vr 10 0), some (vi x1), some (vi x2), some (vi (-1 : Int32)), none] [] h _
    refine tr_iload_n (pc := 20) 3 k_fm_pipe_20 rfl rfl ?_
    refine tr_if_eq (pc := 21) 30 k_fm_pipe_21 (by decide) (fun q => absurd q (by decide)) (fun _ => ?_)
    refine tr_aload_n (pc := 24) 0 k_fm_pipe_24 rfl rfl ?_
    refine tr_iload_n (pc := 25) 3 k_fm_pipe_25 rfl rfl ?_
    refine tr_callV (pc := 26) (d' := d + 2) (mc' := 0) (ms' := 0) [vi (-1 : Int32)] k_fm_pipe_26 ca_fm_refuse ml_fm_133 ii_fm_refuse ⟨by decide, rfl⟩ pa_fm_refuse (by omega) (by omega) (by omega) rfl (Nat.le_of_ble_eq_true rfl) (Nat.le_of_ble_eq_true rfl) hv (fun v h9 hv => ?_)
    obtain ⟨y2, rfl, hv⟩ := hv
    obtain ⟨h1, eh⟩ : ∃ z, z = h9 := ⟨_, rfl⟩
    subst eh
    obtain ⟨hskh1, hv⟩ := hv
    show mT g me_fm_pipe (d + 3) 0 0 29 [some (vr 10 0), some (vi x1), some (vi x2), some (vi (-1 : Int32)), none] [vi y2] h1 _
    refine tr_ireturn (pc := 29) k_fm_pipe_29 rfl rfl ?_
    exact hv
  · replace hv := hv.2 q
    refine tr_iload_n (pc := 4) 0 k_fm_isIn_4 rfl rfl ?_
    refine tr_iload_n (pc := 5) 1 k_fm_isIn_5 rfl rfl ?_
    refine tr_icmp_ge (pc := 6) 13 k_fm_isIn_6 (by decide) (fun q => ?_) (fun q => ?_)
    · replace hv := hv.1 q
      refine tr_iconst (pc := 13) (v := 0) k_fm_isIn_13 (by decide) ?_
      refine tr_ireturn (pc := 14) k_fm_isIn_14 rfl rfl ?_
      show mT g me_fm_isJoint (d + 2) 0 0 8 [some (vr 10 0), some (vi x1)] [vi (0 : Int32)] h _
      refine tr_ireturn (pc := 8) k_fm_isJoint_8 rfl rfl ?_
      show mT g me_fm_pipe (d + 3) 0 0 5 [some (vr 10 0), some (vi x1), some (vi x2), none, none] [vi (0 : Int32)] h _
      refine tr_if_eq (pc := 5) 18 k_fm_pipe_5 (by decide) (fun _ => ?_) (fun q => absurd q (by decide))
      refine tr_iconst (pc := 18) (v := -1) k_fm_pipe_18 (by decide) ?_
      refine tr_istore_n (pc := 19) 3 k_fm_pipe_19 rfl (by decide) rfl ?_
      show mT g me_fm_pipe (d + 3) 0 0 20 [some (vr 10 0), some (vi x1), some (vi x2), some (vi (-1 : Int32)), none] [] h _
      refine tr_iload_n (pc := 20) 3 k_fm_pipe_20 rfl rfl ?_
      refine tr_if_eq (pc := 21) 30 k_fm_pipe_21 (by decide) (fun q => absurd q (by decide)) (fun _ => ?_)
      refine tr_aload_n (pc := 24) 0 k_fm_pipe_24 rfl rfl ?_
      refine tr_iload_n (pc := 25) 3 k_fm_pipe_25 rfl rfl ?_
      refine tr_callV (pc := 26) (d' := d + 2) (mc' := 0) (ms' := 0) [vi (-1 : Int32)] k_fm_pipe_26 ca_fm_refuse ml_fm_133 ii_fm_refuse ⟨by decide, rfl⟩ pa_fm_refuse (by omega) (by omega) (by omega) rfl (Nat.le_of_ble_eq_true rfl) (Nat.le_of_ble_eq_true rfl) hv (fun v h9 hv => ?_)
      obtain ⟨y4, rfl, hv⟩ := hv
      obtain ⟨h3, eh⟩ : ∃ z, z = h9 := ⟨_, rfl⟩
      subst eh
      obtain ⟨hskh3, hv⟩ := hv
      show mT g me_fm_pipe (d + 3) 0 0 29 [some (vr 10 0), some (vi x1), some (vi x2), some (vi (-1 : Int32)), none] [vi y4] h3 _
      refine tr_ireturn (pc := 29) k_fm_pipe_29 rfl rfl ?_
      exact hv
    · replace hv := hv.2 q
      refine tr_iconst (pc := 9) (v := 1) k_fm_isIn_9 (by decide) ?_
      refine tr_goto (pc := 10) 14 k_fm_isIn_10 (by decide) ?_
      refine tr_ireturn (pc := 14) k_fm_isIn_14 rfl rfl ?_
      show mT g me_fm_isJoint (d + 2) 0 0 8 [some (vr 10 0), some (vi x1)] [vi (1 : Int32)] h _
      refine tr_ireturn (pc := 8) k_fm_isJoint_8 rfl rfl ?_
      show mT g me_fm_pipe (d + 3) 0 0 5 [some (vr 10 0), some (vi x1), some (vi x2), none, none] [vi (1 : Int32)] h _
      refine tr_if_eq (pc := 5) 18 k_fm_pipe_5 (by decide) (fun q => absurd q (by decide)) (fun _ => ?_)
      refine tr_iload_n (pc := 8) 2 k_fm_pipe_8 rfl rfl ?_
      refine tr_iconst (pc := 9) (v := 1) k_fm_pipe_9 (by decide) ?_
      refine tr_bipush (pc := 10) (v := 9) k_fm_pipe_10 (by decide) ?_
      refine tr_callS (pc := 12) (d' := d + 2) (mc' := 0) (ms' := 0) [vi x2, vi (1 : Int32), vi (9 : Int32)] k_fm_pipe_12 ca_fm_wrong ml_fm_148 is_fm_wrong pa_fm_wrong (by omega) (by omega) (by omega) rfl (Nat.le_of_ble_eq_true rfl) (Nat.le_of_ble_eq_true rfl) (Qk := fun v h9 => mT g me_fm_pipe (d + 3) 0 0 15 [some (vr 10 0), some (vi x1), some (vi x2), none, none] (v.toList ++ []) h9 _) ?_ (fun _ _ z => z)
      show mT g me_fm_wrong (d + 2) 0 0 0 [some (vi x2), some (vi (1 : Int32)), some (vi (9 : Int32))] [] h _
      refine tr_iload_n (pc := 0) 0 k_fm_wrong_0 rfl rfl ?_
      refine tr_iload_n (pc := 1) 1 k_fm_wrong_1 rfl rfl ?_
      refine tr_icmp_ge (pc := 2) 10 k_fm_wrong_2 (by decide) (fun q => ?_) (fun q => ?_)
      · replace hv := hv.1 q
        refine tr_iload_n (pc := 10) 0 k_fm_wrong_10 rfl rfl ?_
        refine tr_iload_n (pc := 11) 2 k_fm_wrong_11 rfl rfl ?_
        refine tr_icmp_le (pc := 12) 20 k_fm_wrong_12 (by decide) (fun q => ?_) (fun q => ?_)
        · replace hv := hv.1 q
          refine tr_iconst (pc := 20) (v := 0) k_fm_wrong_20 (by decide) ?_
          refine tr_ireturn (pc := 21) k_fm_wrong_21 rfl rfl ?_
          show mT g me_fm_pipe (d + 3) 0 0 15 [some (vr 10 0), some (vi x1), some (vi x2), none, none] [vi (0 : Int32)] h _
          refine tr_goto (pc := 15) 19 k_fm_pipe_15 (by decide) ?_
          refine tr_istore_n (pc := 19) 3 k_fm_pipe_19 rfl (by decide) rfl ?_
          show mT g me_fm_pipe (d + 3) 0 0 20 [some (vr 10 0), some (vi x1), some (vi x2), some (vi (0 : Int32)), none] [] h _
          refine tr_iload_n (pc := 20) 3 k_fm_pipe_20 rfl rfl ?_
          refine tr_if_eq (pc := 21) 30 k_fm_pipe_21 (by decide) (fun _ => ?_) (fun q => absurd q (by decide))
          refine tr_aload_n (pc := 30) 0 k_fm_pipe_30 rfl rfl ?_
          refine tr_getP (pc := 31) k_fm_pipe_31 fl_fm_47 rfl (Eq.trans rfl (hsk.1 10 18 _ rfl)) ?_
          refine tr_iload_n (pc := 34) 1 k_fm_pipe_34 rfl rfl ?_
          refine tr_ialdx (pc := 35) k_fm_pipe_35 (mvin (hsk.2.1 11 17 _ rfl) hv.1) rfl ?_
          replace hv := hv.2
          refine tr_istore (pc := 36) k_fm_pipe_36 (by decide) rfl ?_
          show mT g me_fm_pipe (d + 3) 0 0 38 [some (vr 10 0), some (vi x1), some (vi x2), some (vi (0 : Int32)), some (vi (hI h 11 17 x1.toNatClampNeg))] [] h _
          refine tr_aload_n (pc := 38) 0 k_fm_pipe_38 rfl rfl ?_
          refine tr_getP (pc := 39) k_fm_pipe_39 fl_fm_47 rfl (Eq.trans rfl (hsk.1 10 18 _ rfl)) ?_
          refine tr_iload_n (pc := 42) 1 k_fm_pipe_42 rfl rfl ?_
          refine tr_iload_n (pc := 43) 2 k_fm_pipe_43 rfl rfl ?_
          refine tr_iast (pc := 44) k_fm_pipe_44 (mvin (hsk.2.1 11 17 _ rfl) hv.1) ?_
          replace hv := hv.2
          refine tr_aload_n (pc := 45) 0 k_fm_pipe_45 rfl rfl ?_
          refine tr_callV (pc := 46) (d' := d + 2) (mc' := 0) (ms' := 0) [] k_fm_pipe_46 ca_fm_changes ml_fm_152 ii_fm_changes ⟨by decide, rfl⟩ pa_fm_changes (by omega) (by omega) (by omega) rfl (Nat.le_of_ble_eq_true rfl) (Nat.le_of_ble_eq_true rfl) (Qk := fun v h9 => mT g me_fm_pipe (d + 3) 0 0 49 [some (vr 10 0), some (vi x1), some (vi x2), some (vi (0 : Int32)), some (vi (hI h 11 17 x1.toNatClampNeg))] (v.toList ++ []) h9 _) ?_ (fun _ _ z => z)
          show mT g me_fm_changes (d + 2) 0 0 0 [some (vr 10 0)] [] (setI h 11 17 x1.toNatClampNeg x2) _
          refine tr_aload_n (pc := 0) 0 k_fm_changes_0 rfl rfl ?_
          refine tr_iconst (pc := 1) (v := 0) k_fm_changes_1 (by decide) ?_
          refine tr_putI (pc := 2) k_fm_changes_2 fl_fm_137 (Or.inl rfl) rfl ⟨rfl, rfl⟩ ?_
          refine tr_return (pc := 5) k_fm_changes_5 rfl ?_
          show mT g me_fm_pipe (d + 3) 0 0 49 [some (vr 10 0), some (vi x1), some (vi x2), some (vi (0 : Int32)), some (vi (hI h 11 17 x1.toNatClampNeg))] [] (setI (setI h 11 17 x1.toNatClampNeg x2) 10 0 55 (0 : Int32)) _
          refine tr_iload (pc := 49) k_fm_pipe_49 rfl ?_
          refine tr_ireturn (pc := 51) k_fm_pipe_51 rfl rfl ?_
          exact hv
        · replace hv := hv.2 q
          refine tr_bipush (pc := 15) (v := -6) k_fm_wrong_15 (by decide) ?_
          refine tr_goto (pc := 17) 21 k_fm_wrong_17 (by decide) ?_
          refine tr_ireturn (pc := 21) k_fm_wrong_21 rfl rfl ?_
          show mT g me_fm_pipe (d + 3) 0 0 15 [some (vr 10 0), some (vi x1), some (vi x2), none, none] [vi (-6 : Int32)] h _
          refine tr_goto (pc := 15) 19 k_fm_pipe_15 (by decide) ?_
          refine tr_istore_n (pc := 19) 3 k_fm_pipe_19 rfl (by decide) rfl ?_
          show mT g me_fm_pipe (d + 3) 0 0 20 [some (vr 10 0), some (vi x1), some (vi x2), some (vi (-6 : Int32)), none] [] h _
          refine tr_iload_n (pc := 20) 3 k_fm_pipe_20 rfl rfl ?_
          refine tr_if_eq (pc := 21) 30 k_fm_pipe_21 (by decide) (fun q => absurd q (by decide)) (fun _ => ?_)
          refine tr_aload_n (pc := 24) 0 k_fm_pipe_24 rfl rfl ?_
          refine tr_iload_n (pc := 25) 3 k_fm_pipe_25 rfl rfl ?_
          refine tr_callV (pc := 26) (d' := d + 2) (mc' := 0) (ms' := 0) [vi (-6 : Int32)] k_fm_pipe_26 ca_fm_refuse ml_fm_133 ii_fm_refuse ⟨by decide, rfl⟩ pa_fm_refuse (by omega) (by omega) (by omega) rfl (Nat.le_of_ble_eq_true rfl) (Nat.le_of_ble_eq_true rfl) hv (fun v h9 hv => ?_)
          obtain ⟨y6, rfl, hv⟩ := hv
          obtain ⟨h5, eh⟩ : ∃ z, z = h9 := ⟨_, rfl⟩
          subst eh
          obtain ⟨hskh5, hv⟩ := hv
          show mT g me_fm_pipe (d + 3) 0 0 29 [some (vr 10 0), some (vi x1), some (vi x2), some (vi (-6 : Int32)), none] [vi y6] h5 _
          refine tr_ireturn (pc := 29) k_fm_pipe_29 rfl rfl ?_
          exact hv
      · replace hv := hv.2 q
        refine tr_bipush (pc := 5) (v := -4) k_fm_wrong_5 (by decide) ?_
        refine tr_goto (pc := 7) 21 k_fm_wrong_7 (by decide) ?_
        refine tr_ireturn (pc := 21) k_fm_wrong_21 rfl rfl ?_
        show mT g me_fm_pipe (d + 3) 0 0 15 [some (vr 10 0), some (vi x1), some (vi x2), none, none] [vi (-4 : Int32)] h _
        refine tr_goto (pc := 15) 19 k_fm_pipe_15 (by decide) ?_
        refine tr_istore_n (pc := 19) 3 k_fm_pipe_19 rfl (by decide) rfl ?_
        show mT g me_fm_pipe (d + 3) 0 0 20 [some (vr 10 0), some (vi x1), some (vi x2), some (vi (-4 : Int32)), none] [] h _
        refine tr_iload_n (pc := 20) 3 k_fm_pipe_20 rfl rfl ?_
        refine tr_if_eq (pc := 21) 30 k_fm_pipe_21 (by decide) (fun q => absurd q (by decide)) (fun _ => ?_)
        refine tr_aload_n (pc := 24) 0 k_fm_pipe_24 rfl rfl ?_
        refine tr_iload_n (pc := 25) 3 k_fm_pipe_25 rfl rfl ?_
        refine tr_callV (pc := 26) (d' := d + 2) (mc' := 0) (ms' := 0) [vi (-4 : Int32)] k_fm_pipe_26 ca_fm_refuse ml_fm_133 ii_fm_refuse ⟨by decide, rfl⟩ pa_fm_refuse (by omega) (by omega) (by omega) rfl (Nat.le_of_ble_eq_true rfl) (Nat.le_of_ble_eq_true rfl) hv (fun v h9 hv => ?_)
        obtain ⟨y8, rfl, hv⟩ := hv
        obtain ⟨h7, eh⟩ : ∃ z, z = h9 := ⟨_, rfl⟩
        subst eh
        obtain ⟨hskh7, hv⟩ := hv
        show mT g me_fm_pipe (d + 3) 0 0 29 [some (vr 10 0), some (vi x1), some (vi x2), some (vi (-4 : Int32)), none] [vi y8] h7 _
        refine tr_ireturn (pc := 29) k_fm_pipe_29 rfl rfl ?_
        exact hv
