/-! printed by my own program: walks between loop heads -/
theorem v_fn_tank_0 {g : mG} {d : Nat} (x1 : Int32) (x2 : Int32) (x3 : Int32) (x4 : Int32) {h : mH} {Q : Option mV → mH → Prop} (hsk : mSK h) (hv : ((x1 < 0 → mT g me_fn_refuse (d + 6) 0 0 0 [some (vr 0 0), some (vi (-4 : Int32)), none] [] h (fun v h1 => ∃ y2, v = some (vi y2) ∧ mSK h1 ∧ Q (some (vi y2)) h1)) ∧ (¬ x1 < 0 → ((x2 < (1 : Int32) → mT g me_fn_refuse (d + 6) 0 0 0 [some (vr 0 0), some (vi (-4 : Int32)), none] [] h (fun v h3 => ∃ y4, v = some (vi y4) ∧ mSK h3 ∧ Q (some (vi y4)) h3)) ∧ (¬ x2 < (1 : Int32) → ((x3 < (1 : Int32) → mT g me_fn_refuse (d + 6) 0 0 0 [some (vr 0 0), some (vi (-4 : Int32)), none] [] h (fun v h5 => ∃ y6, v = some (vi y6) ∧ mSK h5 ∧ Q (some (vi y6)) h5)) ∧ (¬ x3 < (1 : Int32) → ((0 ≤ x4 → (((500 : Int32) < x1 → mT g me_fn_refuse (d + 6) 0 0 0 [some (vr 0 0), some (vi (-6 : Int32)), none] [] h (fun v h7 => ∃ y8, v = some (vi y8) ∧ mSK h7 ∧ Q (some (vi y8)) h7)) ∧ (¬ (500 : Int32) < x1 → (((1000 : Int32) < x2 → mT g me_fn_refuse (d + 6) 0 0 0 [some (vr 0 0), some (vi (-6 : Int32)), none] [] h (fun v h9 => ∃ y10, v = some (vi y10) ∧ mSK h9 ∧ Q (some (vi y10)) h9)) ∧ (¬ (1000 : Int32) < x2 → (((60 : Int32) < x3 → mT g me_fn_refuse (d + 6) 0 0 0 [some (vr 0 0), some (vi (-6 : Int32)), none] [] h (fun v h11 => ∃ y12, v = some (vi y12) ∧ mSK h11 ∧ Q (some (vi y12)) h11)) ∧ (¬ (60 : Int32) < x3 → ((x4 ≤ (500 : Int32) → (((hI h 2 0 1) < (4 : Int32) → mT g me_al_add (d + 6) 1 74 0 [some (vr 2 0), some (vr 6 (hC h 6))] [] (setI (setI (setI (setI (setI (setI (newC h 6 0) 6 (hC h 6) 0 (hI h 2 0 1)) 6 (hC h 6) 1 x1) 6 (hC h 6) 2 x2) 6 (hC h 6) 3 x3) 6 (hC h 6) 4 x4) 6 (hC h 6) 5 (x2 * x3)) (fun v h13 => ∃ y14, v = some (vi y14) ∧ mSK h13 ∧ Q (some (vi (hI h 2 0 1))) h13)) ∧ (¬ (hI h 2 0 1) < (4 : Int32) → mT g me_fn_refuse (d + 6) 0 0 0 [some (vr 0 0), some (vi (-6 : Int32)), none] [] h (fun v h15 => ∃ y16, v = some (vi y16) ∧ mSK h15 ∧ Q (some (vi y16)) h15)))) ∧ (¬ x4 ≤ (500 : Int32) → mT g me_fn_refuse (d + 6) 0 0 0 [some (vr 0 0), some (vi (-6 : Int32)), none] [] h (fun v h17 => ∃ y18, v = some (vi y18) ∧ mSK h17 ∧ Q (some (vi y18)) h17)))))))))) ∧ (¬ 0 ≤ x4 → mT g me_fn_refuse (d + 6) 0 0 0 [some (vr 0 0), some (vi (-4 : Int32)), none] [] h (fun v h19 => ∃ y20, v = some (vi y20) ∧ mSK h19 ∧ Q (some (vi y20)) h19)))))))))) : mT g me_fn_tank (d + 7) 2 84 0 [some (vr 0 0), some (vi x1), some (vi x2), some (vi x3), some (vi x4), none] [] h Q := by
  refine tr_iload_n (pc := 0) 1 k_fn_tank_0 rfl rfl ?_
  refine tr_if_lt (pc := 1) 19 k_fn_tank_1 (by decide) (fun q => ?_) (fun q => ?_)
  · replace hv := hv.1 q
    refine tr_aload_n (pc := 19) 0 k_fn_tank_19 rfl rfl ?_
    refine tr_bipush (pc := 20) (v := -4) k_fn_tank_20 (by decide) ?_
    have hT := hv
    clear hv
    refine tr_callV (pc := 22) (d' := d + 6) (mc' := 0) (ms' := 0) [vi (-4 : Int32)] k_fn_tank_22 ca_fn_refuse ml_fn_56 ii_fn_refuse ⟨by decide, rfl⟩ pa_fn_refuse (by omega) (by omega) (by omega) rfl (Nat.le_of_ble_eq_true rfl) (Nat.le_of_ble_eq_true rfl) hT (fun v h9 hv => ?_)
    clear hT
    obtain ⟨y2, rfl, hv⟩ := hv
    obtain ⟨h1, eh⟩ : ∃ z, z = h9 := ⟨_, rfl⟩
    subst eh
    obtain ⟨hskh1, hv⟩ := hv
    show mT g me_fn_tank (d + 7) 2 84 25 [some (vr 0 0), some (vi x1), some (vi x2), some (vi x3), some (vi x4), none] [vi y2] h1 _
    refine tr_ireturn (pc := 25) k_fn_tank_25 rfl rfl ?_
    exact hv
  · replace hv := hv.2 q
    refine tr_iload_n (pc := 4) 2 k_fn_tank_4 rfl rfl ?_
    refine tr_iconst (pc := 5) (v := 1) k_fn_tank_5 (by decide) ?_
    refine tr_icmp_lt (pc := 6) 19 k_fn_tank_6 (by decide) (fun q => ?_) (fun q => ?_)
    · replace hv := hv.1 q
      refine tr_aload_n (pc := 19) 0 k_fn_tank_19 rfl rfl ?_
      refine tr_bipush (pc := 20) (v := -4) k_fn_tank_20 (by decide) ?_
      have hT := hv
      clear hv
      refine tr_callV (pc := 22) (d' := d + 6) (mc' := 0) (ms' := 0) [vi (-4 : Int32)] k_fn_tank_22 ca_fn_refuse ml_fn_56 ii_fn_refuse ⟨by decide, rfl⟩ pa_fn_refuse (by omega) (by omega) (by omega) rfl (Nat.le_of_ble_eq_true rfl) (Nat.le_of_ble_eq_true rfl) hT (fun v h9 hv => ?_)
      clear hT
      obtain ⟨y4, rfl, hv⟩ := hv
      obtain ⟨h3, eh⟩ : ∃ z, z = h9 := ⟨_, rfl⟩
      subst eh
      obtain ⟨hskh3, hv⟩ := hv
      show mT g me_fn_tank (d + 7) 2 84 25 [some (vr 0 0), some (vi x1), some (vi x2), some (vi x3), some (vi x4), none] [vi y4] h3 _
      refine tr_ireturn (pc := 25) k_fn_tank_25 rfl rfl ?_
      exact hv
    · replace hv := hv.2 q
      refine tr_iload_n (pc := 9) 3 k_fn_tank_9 rfl rfl ?_
      refine tr_iconst (pc := 10) (v := 1) k_fn_tank_10 (by decide) ?_
      refine tr_icmp_lt (pc := 11) 19 k_fn_tank_11 (by decide) (fun q => ?_) (fun q => ?_)
      · replace hv := hv.1 q
        refine tr_aload_n (pc := 19) 0 k_fn_tank_19 rfl rfl ?_
        refine tr_bipush (pc := 20) (v := -4) k_fn_tank_20 (by decide) ?_
        have hT := hv
        clear hv
        refine tr_callV (pc := 22) (d' := d + 6) (mc' := 0) (ms' := 0) [vi (-4 : Int32)] k_fn_tank_22 ca_fn_refuse ml_fn_56 ii_fn_refuse ⟨by decide, rfl⟩ pa_fn_refuse (by omega) (by omega) (by omega) rfl (Nat.le_of_ble_eq_true rfl) (Nat.le_of_ble_eq_true rfl) hT (fun v h9 hv => ?_)
        clear hT
        obtain ⟨y6, rfl, hv⟩ := hv
        obtain ⟨h5, eh⟩ : ∃ z, z = h9 := ⟨_, rfl⟩
        subst eh
        obtain ⟨hskh5, hv⟩ := hv
        show mT g me_fn_tank (d + 7) 2 84 25 [some (vr 0 0), some (vi x1), some (vi x2), some (vi x3), some (vi x4), none] [vi y6] h5 _
        refine tr_ireturn (pc := 25) k_fn_tank_25 rfl rfl ?_
        exact hv
      · replace hv := hv.2 q
        refine tr_iload (pc := 14) k_fn_tank_14 rfl ?_
        refine tr_if_ge (pc := 16) 26 k_fn_tank_16 (by decide) (fun q => ?_) (fun q => ?_)
        · replace hv := hv.1 q
          refine tr_iload_n (pc := 26) 1 k_fn_tank_26 rfl rfl ?_
          refine tr_sipush (pc := 27) (v := 500) k_fn_tank_27 (by decide) ?_
          refine tr_icmp_gt (pc := 30) 54 k_fn_tank_30 (by decide) (fun q => ?_) (fun q => ?_)
          · replace hv := hv.1 q
            refine tr_aload_n (pc := 54) 0 k_fn_tank_54 rfl rfl ?_
            refine tr_bipush (pc := 55) (v := -6) k_fn_tank_55 (by decide) ?_
            have hT := hv
            clear hv
            refine tr_callV (pc := 57) (d' := d + 6) (mc' := 0) (ms' := 0) [vi (-6 : Int32)] k_fn_tank_57 ca_fn_refuse ml_fn_56 ii_fn_refuse ⟨by decide, rfl⟩ pa_fn_refuse (by omega) (by omega) (by omega) rfl (Nat.le_of_ble_eq_true rfl) (Nat.le_of_ble_eq_true rfl) hT (fun v h9 hv => ?_)
            clear hT
            obtain ⟨y8, rfl, hv⟩ := hv
            obtain ⟨h7, eh⟩ : ∃ z, z = h9 := ⟨_, rfl⟩
            subst eh
            obtain ⟨hskh7, hv⟩ := hv
            show mT g me_fn_tank (d + 7) 2 84 60 [some (vr 0 0), some (vi x1), some (vi x2), some (vi x3), some (vi x4), none] [vi y8] h7 _
            refine tr_ireturn (pc := 60) k_fn_tank_60 rfl rfl ?_
            exact hv
          · replace hv := hv.2 q
            refine tr_iload_n (pc := 33) 2 k_fn_tank_33 rfl rfl ?_
            refine tr_sipush (pc := 34) (v := 1000) k_fn_tank_34 (by decide) ?_
            refine tr_icmp_gt (pc := 37) 54 k_fn_tank_37 (by decide) (fun q => ?_) (fun q => ?_)
            · replace hv := hv.1 q
              refine tr_aload_n (pc := 54) 0 k_fn_tank_54 rfl rfl ?_
              refine tr_bipush (pc := 55) (v := -6) k_fn_tank_55 (by decide) ?_
              have hT := hv
              clear hv
              refine tr_callV (pc := 57) (d' := d + 6) (mc' := 0) (ms' := 0) [vi (-6 : Int32)] k_fn_tank_57 ca_fn_refuse ml_fn_56 ii_fn_refuse ⟨by decide, rfl⟩ pa_fn_refuse (by omega) (by omega) (by omega) rfl (Nat.le_of_ble_eq_true rfl) (Nat.le_of_ble_eq_true rfl) hT (fun v h9 hv => ?_)
              clear hT
              obtain ⟨y10, rfl, hv⟩ := hv
              obtain ⟨h9, eh⟩ : ∃ z, z = h9 := ⟨_, rfl⟩
              subst eh
              obtain ⟨hskh9, hv⟩ := hv
              show mT g me_fn_tank (d + 7) 2 84 60 [some (vr 0 0), some (vi x1), some (vi x2), some (vi x3), some (vi x4), none] [vi y10] h9 _
              refine tr_ireturn (pc := 60) k_fn_tank_60 rfl rfl ?_
              exact hv
            · replace hv := hv.2 q
              refine tr_iload_n (pc := 40) 3 k_fn_tank_40 rfl rfl ?_
              refine tr_bipush (pc := 41) (v := 60) k_fn_tank_41 (by decide) ?_
              refine tr_icmp_gt (pc := 43) 54 k_fn_tank_43 (by decide) (fun q => ?_) (fun q => ?_)
              · replace hv := hv.1 q
                refine tr_aload_n (pc := 54) 0 k_fn_tank_54 rfl rfl ?_
                refine tr_bipush (pc := 55) (v := -6) k_fn_tank_55 (by decide) ?_
                have hT := hv
                clear hv
                refine tr_callV (pc := 57) (d' := d + 6) (mc' := 0) (ms' := 0) [vi (-6 : Int32)] k_fn_tank_57 ca_fn_refuse ml_fn_56 ii_fn_refuse ⟨by decide, rfl⟩ pa_fn_refuse (by omega) (by omega) (by omega) rfl (Nat.le_of_ble_eq_true rfl) (Nat.le_of_ble_eq_true rfl) hT (fun v h9 hv => ?_)
                clear hT
                obtain ⟨y12, rfl, hv⟩ := hv
                obtain ⟨h11, eh⟩ : ∃ z, z = h9 := ⟨_, rfl⟩
                subst eh
                obtain ⟨hskh11, hv⟩ := hv
                show mT g me_fn_tank (d + 7) 2 84 60 [some (vr 0 0), some (vi x1), some (vi x2), some (vi x3), some (vi x4), none] [vi y12] h11 _
                refine tr_ireturn (pc := 60) k_fn_tank_60 rfl rfl ?_
                exact hv
              · replace hv := hv.2 q
                refine tr_iload (pc := 46) k_fn_tank_46 rfl ?_
                refine tr_sipush (pc := 48) (v := 500) k_fn_tank_48 (by decide) ?_
                refine tr_icmp_le (pc := 51) 61 k_fn_tank_51 (by decide) (fun q => ?_) (fun q => ?_)
                · replace hv := hv.1 q
                  refine tr_aload_n (pc := 61) 0 k_fn_tank_61 rfl rfl ?_
                  refine tr_getP (pc := 62) k_fn_tank_62 fl_fn_12 rfl (Eq.trans rfl (hsk.1 0 0 _ rfl)) ?_
                  refine tr_getP (pc := 65) k_fn_tank_65 fl_fn_60 rfl (Eq.trans rfl (hsk.1 1 0 _ rfl)) ?_
                  refine tr_callV (pc := 68) (d' := d + 6) (mc' := 0) (ms' := 0) [] k_fn_tank_68 ca_al_size ml_fn_63 ii_al_size ⟨by decide, rfl⟩ pa_al_size (by omega) (by omega) (by omega) rfl (Nat.le_of_ble_eq_true rfl) (Nat.le_of_ble_eq_true rfl) (Qk := fun v h9 => mT g me_fn_tank (d + 7) 2 84 71 [some (vr 0 0), some (vi x1), some (vi x2), some (vi x3), some (vi x4), none] (v.toList ++ []) h9 _) ?_ (fun _ _ z => z)
                  show mT g me_al_size (d + 6) 0 0 0 [some (vr 2 0)] [] h _
                  refine tr_aload_n (pc := 0) 0 k_al_size_0 rfl rfl ?_
                  refine tr_getIx (pc := 1) k_al_size_1 fl_al_48 rfl rfl ?_
                  refine tr_ireturn (pc := 4) k_al_size_4 rfl rfl ?_
                  show mT g me_fn_tank (d + 7) 2 84 71 [some (vr 0 0), some (vi x1), some (vi x2), some (vi x3), some (vi x4), none] [vi (hI h 2 0 1)] h _
                  refine tr_istore (pc := 71) k_fn_tank_71 (by decide) rfl ?_
                  show mT g me_fn_tank (d + 7) 2 84 73 [some (vr 0 0), some (vi x1), some (vi x2), some (vi x3), some (vi x4), some (vi (hI h 2 0 1))] [] h _
                  refine tr_iload (pc := 73) k_fn_tank_73 rfl ?_
                  refine tr_iconst (pc := 75) (v := 4) k_fn_tank_75 (by decide) ?_
                  refine tr_icmp_lt (pc := 76) 86 k_fn_tank_76 (by decide) (fun q => ?_) (fun q => ?_)
                  · replace hv := hv.1 q
                    refine tr_aload_n (pc := 86) 0 k_fn_tank_86 rfl rfl ?_
                    refine tr_getP (pc := 87) k_fn_tank_87 fl_fn_12 rfl (Eq.trans rfl (hsk.1 0 0 _ rfl)) ?_
                    refine tr_getP (pc := 90) k_fn_tank_90 fl_fn_60 rfl (Eq.trans rfl (hsk.1 1 0 _ rfl)) ?_
                    refine tr_new (pc := 93) (k := 6) k_fn_tank_93 (by decide) rfl cl_fn_67 in_6 iz_6 ?_
                    show mT g me_fn_tank (d + 7) 1 74 96 [some (vr 0 0), some (vi x1), some (vi x2), some (vi x3), some (vi x4), some (vi (hI h 2 0 1))] [vr 6 (hC h 6), vr 2 0] (newC h 6 0) _
                    refine tr_dup (pc := 96) k_fn_tank_96 rfl ?_
                    refine tr_iload (pc := 97) k_fn_tank_97 rfl ?_
                    refine tr_iload_n (pc := 99) 1 k_fn_tank_99 rfl rfl ?_
                    refine tr_iload_n (pc := 100) 2 k_fn_tank_100 rfl rfl ?_
                    refine tr_iload_n (pc := 101) 3 k_fn_tank_101 rfl rfl ?_
                    refine tr_iload (pc := 102) k_fn_tank_102 rfl ?_
                    refine tr_callI (pc := 104) (d' := d + 6) (mc' := 0) (ms' := 0) [vi (hI h 2 0 1), vi x1, vi x2, vi x3, vi x4] k_fn_tank_104 ca_tk_init ml_fn_69 ii_tk_init pa_tk_init (by omega) (by omega) (by omega) rfl (Nat.le_of_ble_eq_true rfl) (Nat.le_of_ble_eq_true rfl) (Qk := fun v h9 => mT g me_fn_tank (d + 7) 1 74 107 [some (vr 0 0), some (vi x1), some (vi x2), some (vi x3), some (vi x4), some (vi (hI h 2 0 1))] (v.toList ++ [vr 6 (hC h 6), vr 2 0]) h9 _) ?_ (fun _ _ z => z)
                    show mT g me_tk_init (d + 6) 0 0 0 [some (vr 6 (hC h 6)), some (vi (hI h 2 0 1)), some (vi x1), some (vi x2), some (vi x3), some (vi x4)] [] (newC h 6 0) _
                    refine tr_aload_n (pc := 0) 0 k_tk_init_0 rfl rfl ?_
                    refine tr_obj (pc := 1) k_tk_init_1 ml_tk_1 (by omega) (Nat.le_of_ble_eq_true rfl) ?_
                    refine tr_aload_n (pc := 4) 0 k_tk_init_4 rfl rfl ?_
                    refine tr_iload_n (pc := 5) 1 k_tk_init_5 rfl rfl ?_
                    refine tr_putI (pc := 6) k_tk_init_6 fl_tk_7 (Or.inr ⟨rfl, rfl, rfl⟩) rfl ⟨rfl, rfl⟩ ?_
                    refine tr_aload_n (pc := 9) 0 k_tk_init_9 rfl rfl ?_
                    refine tr_iload_n (pc := 10) 2 k_tk_init_10 rfl rfl ?_
                    refine tr_putI (pc := 11) k_tk_init_11 fl_tk_13 (Or.inr ⟨rfl, rfl, rfl⟩) rfl ⟨rfl, rfl⟩ ?_
                    refine tr_aload_n (pc := 14) 0 k_tk_init_14 rfl rfl ?_
                    refine tr_iload_n (pc := 15) 3 k_tk_init_15 rfl rfl ?_
                    refine tr_putI (pc := 16) k_tk_init_16 fl_tk_16 (Or.inr ⟨rfl, rfl, rfl⟩) rfl ⟨rfl, rfl⟩ ?_
                    refine tr_aload_n (pc := 19) 0 k_tk_init_19 rfl rfl ?_
                    refine tr_iload (pc := 20) k_tk_init_20 rfl ?_
                    refine tr_putI (pc := 22) k_tk_init_22 fl_tk_19 (Or.inr ⟨rfl, rfl, rfl⟩) rfl ⟨rfl, rfl⟩ ?_
                    refine tr_aload_n (pc := 25) 0 k_tk_init_25 rfl rfl ?_
                    refine tr_iload (pc := 26) k_tk_init_26 rfl ?_
                    refine tr_putI (pc := 28) k_tk_init_28 fl_tk_22 (Or.inl rfl) rfl ⟨rfl, rfl⟩ ?_
                    refine tr_aload_n (pc := 31) 0 k_tk_init_31 rfl rfl ?_
                    refine tr_iload_n (pc := 32) 3 k_tk_init_32 rfl rfl ?_
                    refine tr_iload (pc := 33) k_tk_init_33 rfl ?_
                    refine tr_imul (pc := 35) k_tk_init_35 ?_
                    refine tr_putI (pc := 36) k_tk_init_36 fl_tk_25 (Or.inl rfl) rfl ⟨rfl, rfl⟩ ?_
                    refine tr_return (pc := 39) k_tk_init_39 rfl ?_
                    show mT g me_fn_tank (d + 7) 1 74 107 [some (vr 0 0), some (vi x1), some (vi x2), some (vi x3), some (vi x4), some (vi (hI h 2 0 1))] [vr 6 (hC h 6), vr 2 0] (setI (setI (setI (setI (setI (setI (newC h 6 0) 6 (hC h 6) 0 (hI h 2 0 1)) 6 (hC h 6) 1 x1) 6 (hC h 6) 2 x2) 6 (hC h 6) 3 x3) 6 (hC h 6) 4 x4) 6 (hC h 6) 5 (x2 * x3)) _
                    have hT := hv
                    clear hv
                    refine tr_callV (pc := 107) (d' := d + 6) (mc' := 1) (ms' := 74) [vr 6 (hC h 6)] k_fn_tank_107 ca_al_add ml_fn_72 ii_al_add ⟨by decide, rfl⟩ pa_al_add (by omega) (by omega) (by omega) rfl (Nat.le_of_ble_eq_true rfl) (Nat.le_of_ble_eq_true rfl) hT (fun v h9 hv => ?_)
                    clear hT
                    obtain ⟨y14, rfl, hv⟩ := hv
                    obtain ⟨h13, eh⟩ : ∃ z, z = h9 := ⟨_, rfl⟩
                    subst eh
                    obtain ⟨hskh13, hv⟩ := hv
                    show mT g me_fn_tank (d + 7) 0 0 110 [some (vr 0 0), some (vi x1), some (vi x2), some (vi x3), some (vi x4), some (vi (hI h 2 0 1))] [vi y14] h13 _
                    refine tr_pop (pc := 110) k_fn_tank_110 rfl ?_
                    refine tr_iload (pc := 111) k_fn_tank_111 rfl ?_
                    refine tr_ireturn (pc := 113) k_fn_tank_113 rfl rfl ?_
                    exact hv
                  · replace hv := hv.2 q
                    refine tr_aload_n (pc := 79) 0 k_fn_tank_79 rfl rfl ?_
                    refine tr_bipush (pc := 80) (v := -6) k_fn_tank_80 (by decide) ?_
                    have hT := hv
                    clear hv
                    refine tr_callV (pc := 82) (d' := d + 6) (mc' := 0) (ms' := 0) [vi (-6 : Int32)] k_fn_tank_82 ca_fn_refuse ml_fn_56 ii_fn_refuse ⟨by decide, rfl⟩ pa_fn_refuse (by omega) (by omega) (by omega) rfl (Nat.le_of_ble_eq_true rfl) (Nat.le_of_ble_eq_true rfl) hT (fun v h9 hv => ?_)
                    clear hT
                    obtain ⟨y16, rfl, hv⟩ := hv
                    obtain ⟨h15, eh⟩ : ∃ z, z = h9 := ⟨_, rfl⟩
                    subst eh
                    obtain ⟨hskh15, hv⟩ := hv
                    show mT g me_fn_tank (d + 7) 2 84 85 [some (vr 0 0), some (vi x1), some (vi x2), some (vi x3), some (vi x4), some (vi (hI h 2 0 1))] [vi y16] h15 _
                    refine tr_ireturn (pc := 85) k_fn_tank_85 rfl rfl ?_
                    exact hv
                · replace hv := hv.2 q
                  refine tr_aload_n (pc := 54) 0 k_fn_tank_54 rfl rfl ?_
                  refine tr_bipush (pc := 55) (v := -6) k_fn_tank_55 (by decide) ?_
                  have hT := hv
                  clear hv
                  refine tr_callV (pc := 57) (d' := d + 6) (mc' := 0) (ms' := 0) [vi (-6 : Int32)] k_fn_tank_57 ca_fn_refuse ml_fn_56 ii_fn_refuse ⟨by decide, rfl⟩ pa_fn_refuse (by omega) (by omega) (by omega) rfl (Nat.le_of_ble_eq_true rfl) (Nat.le_of_ble_eq_true rfl) hT (fun v h9 hv => ?_)
                  clear hT
                  obtain ⟨y18, rfl, hv⟩ := hv
                  obtain ⟨h17, eh⟩ : ∃ z, z = h9 := ⟨_, rfl⟩
                  subst eh
                  obtain ⟨hskh17, hv⟩ := hv
                  show mT g me_fn_tank (d + 7) 2 84 60 [some (vr 0 0), some (vi x1), some (vi x2), some (vi x3), some (vi x4), none] [vi y18] h17 _
                  refine tr_ireturn (pc := 60) k_fn_tank_60 rfl rfl ?_
                  exact hv
        · replace hv := hv.2 q
          refine tr_aload_n (pc := 19) 0 k_fn_tank_19 rfl rfl ?_
          refine tr_bipush (pc := 20) (v := -4) k_fn_tank_20 (by decide) ?_
          have hT := hv
          clear hv
          refine tr_callV (pc := 22) (d' := d + 6) (mc' := 0) (ms' := 0) [vi (-4 : Int32)] k_fn_tank_22 ca_fn_refuse ml_fn_56 ii_fn_refuse ⟨by decide, rfl⟩ pa_fn_refuse (by omega) (by omega) (by omega) rfl (Nat.le_of_ble_eq_true rfl) (Nat.le_of_ble_eq_true rfl) hT (fun v h9 hv => ?_)
          clear hT
          obtain ⟨y20, rfl, hv⟩ := hv
          obtain ⟨h19, eh⟩ : ∃ z, z = h9 := ⟨_, rfl⟩
          subst eh
          obtain ⟨hskh19, hv⟩ := hv
          show mT g me_fn_tank (d + 7) 2 84 25 [some (vr 0 0), some (vi x1), some (vi x2), some (vi x3), some (vi x4), none] [vi y20] h19 _
          refine tr_ireturn (pc := 25) k_fn_tank_25 rfl rfl ?_
          exact hv
theorem v_fn_refuse_0 {g : mG} {d : Nat} (x1 : Int32) {h : mH} {Q : Option mV → mH → Prop} (hsk : mSK h) (hv : (((-x1) < 0 → Q (some (vi x1)) h) ∧ (¬ (-x1) < 0 → (((7 : Int32) ≤ (-x1) → Q (some (vi x1)) h) ∧ (¬ (7 : Int32) ≤ (-x1) → (vp_in (-x1) 7 ∧ (vp_in (-x1) 7 ∧ Q (some (vi x1)) (setI h 11 5 ((-x1).toNatClampNeg) ((hI h 11 5 ((-x1).toNatClampNeg)) + (1 : Int32)))))))))) : mT g me_fn_refuse (d + 1) 0 0 0 [some (vr 0 0), some (vi x1), none] [] h Q := by
  refine tr_iload_n (pc := 0) 1 k_fn_refuse_0 rfl rfl ?_
  refine tr_ineg (pc := 1) k_fn_refuse_1 ?_
  refine tr_istore_n (pc := 2) 2 k_fn_refuse_2 rfl (by decide) rfl ?_
  show mT g me_fn_refuse (d + 1) 0 0 3 [some (vr 0 0), some (vi x1), some (vi (-x1))] [] h _
  refine tr_iload_n (pc := 3) 2 k_fn_refuse_3 rfl rfl ?_
  refine tr_if_lt (pc := 4) 26 k_fn_refuse_4 (by decide) (fun q => ?_) (fun q => ?_)
  · replace hv := hv.1 q
    refine tr_iload_n (pc := 26) 1 k_fn_refuse_26 rfl rfl ?_
    refine tr_ireturn (pc := 27) k_fn_refuse_27 rfl rfl ?_
    exact hv
  · replace hv := hv.2 q
    refine tr_iload_n (pc := 7) 2 k_fn_refuse_7 rfl rfl ?_
    refine tr_aload_n (pc := 8) 0 k_fn_refuse_8 rfl rfl ?_
    refine tr_getP (pc := 9) k_fn_refuse_9 fl_fn_48 rfl (Eq.trans rfl (hsk.1 0 5 _ rfl)) ?_
    refine tr_alen (pc := 12) (v := 7) (by decide) k_fn_refuse_12 (by rw [show hL _ 11 5 = 7 from hsk.2.1 11 5 _ rfl]; rfl) ?_
    refine tr_icmp_ge (pc := 13) 26 k_fn_refuse_13 (by decide) (fun q => ?_) (fun q => ?_)
    · replace hv := hv.1 q
      refine tr_iload_n (pc := 26) 1 k_fn_refuse_26 rfl rfl ?_
      refine tr_ireturn (pc := 27) k_fn_refuse_27 rfl rfl ?_
      exact hv
    · replace hv := hv.2 q
      refine tr_aload_n (pc := 16) 0 k_fn_refuse_16 rfl rfl ?_
      refine tr_getP (pc := 17) k_fn_refuse_17 fl_fn_48 rfl (Eq.trans rfl (hsk.1 0 5 _ rfl)) ?_
      refine tr_iload_n (pc := 20) 2 k_fn_refuse_20 rfl rfl ?_
      refine tr_dup2 (pc := 21) k_fn_refuse_21 rfl rfl ?_
      refine tr_ialdx (pc := 22) k_fn_refuse_22 (mvin (hsk.2.1 11 5 _ rfl) hv.1) rfl ?_
      replace hv := hv.2
      refine tr_iconst (pc := 23) (v := 1) k_fn_refuse_23 (by decide) ?_
      refine tr_iadd (pc := 24) k_fn_refuse_24 ?_
      refine tr_iast (pc := 25) k_fn_refuse_25 (mvin (hsk.2.1 11 5 _ rfl) hv.1) ?_
      replace hv := hv.2
      refine tr_iload_n (pc := 26) 1 k_fn_refuse_26 rfl rfl ?_
      refine tr_ireturn (pc := 27) k_fn_refuse_27 rfl rfl ?_
      exact hv
theorem v_fn_set_0 {g : mG} {d : Nat} (x1 : Int32) (x2 : Int32) (x3 : Int32) {h : mH} {Q : Option mV → mH → Prop} (hsk : mSK h) (hv : mT g me_ga_tankAt (d + 4) 0 0 0 [some (vr 1 0), some (vi x1)] [] h (fun v h1 => ∃ p2, v = some (vp p2) ∧ mSK h1 ∧ ((p2 = none → mT g me_fn_refuse (d + 4) 0 0 0 [some (vr 0 0), some (vi (-1 : Int32)), none] [] h1 (fun v h4 => ∃ y5, v = some (vi y5) ∧ mSK h4 ∧ Q (some (vi y5)) h4)) ∧ (∀ kq n3, p2 = some (kq, n3) → kq = 6 ∧ ((x2 < 0 → mT g me_fn_refuse (d + 4) 0 0 0 [some (vr 0 0), some (vi (-2 : Int32)), none] [] h1 (fun v h6 => ∃ y7, v = some (vi y7) ∧ mSK h6 ∧ Q (some (vi y7)) h6)) ∧ (¬ x2 < 0 → ((x2 ≤ (1 : Int32) → ((0 ≤ x3 → ((¬ x2 = 0 → ((x3 ≤ ((hI h1 6 n3 2) * (hI h1 6 n3 3)) → ((¬ x2 = 0 → Q (some (vi (hI h1 6 n3 5))) (setI h1 6 n3 5 x3)) ∧ (x2 = 0 → Q (some (vi (hI h1 6 n3 4))) (setI h1 6 n3 4 x3)))) ∧ (¬ x3 ≤ ((hI h1 6 n3 2) * (hI h1 6 n3 3)) → mT g me_fn_refuse (d + 4) 0 0 0 [some (vr 0 0), some (vi (-6 : Int32)), none] [] h1 (fun v h8 => ∃ y9, v = some (vi y9) ∧ mSK h8 ∧ Q (some (vi y9)) h8)))) ∧ (x2 = 0 → ((x3 ≤ (500 : Int32) → ((¬ x2 = 0 → Q (some (vi (hI h1 6 n3 5))) (setI h1 6 n3 5 x3)) ∧ (x2 = 0 → Q (some (vi (hI h1 6 n3 4))) (setI h1 6 n3 4 x3)))) ∧ (¬ x3 ≤ (500 : Int32) → mT g me_fn_refuse (d + 4) 0 0 0 [some (vr 0 0), some (vi (-6 : Int32)), none] [] h1 (fun v h10 => ∃ y11, v = some (vi y11) ∧ mSK h10 ∧ Q (some (vi y11)) h10)))))) ∧ (¬ 0 ≤ x3 → mT g me_fn_refuse (d + 4) 0 0 0 [some (vr 0 0), some (vi (-4 : Int32)), none] [] h1 (fun v h12 => ∃ y13, v = some (vi y13) ∧ mSK h12 ∧ Q (some (vi y13)) h12)))) ∧ (¬ x2 ≤ (1 : Int32) → mT g me_fn_refuse (d + 4) 0 0 0 [some (vr 0 0), some (vi (-2 : Int32)), none] [] h1 (fun v h14 => ∃ y15, v = some (vi y15) ∧ mSK h14 ∧ Q (some (vi y15)) h14))))))))) : mT g me_fn_set (d + 5) 0 0 0 [some (vr 0 0), some (vi x1), some (vi x2), some (vi x3), none] [] h Q := by
  refine tr_aload_n (pc := 0) 0 k_fn_set_0 rfl rfl ?_
  refine tr_getP (pc := 1) k_fn_set_1 fl_fn_12 rfl (Eq.trans rfl (hsk.1 0 0 _ rfl)) ?_
  refine tr_iload_n (pc := 4) 1 k_fn_set_4 rfl rfl ?_
  have hT := hv
  clear hv
  refine tr_callV (pc := 5) (d' := d + 4) (mc' := 0) (ms' := 0) [vi x1] k_fn_set_5 ca_ga_tankAt ml_fn_76 ii_ga_tankAt ⟨by decide, rfl⟩ pa_ga_tankAt (by omega) (by omega) (by omega) rfl (Nat.le_of_ble_eq_true rfl) (Nat.le_of_ble_eq_true rfl) hT (fun v h9 hv => ?_)
  clear hT
  obtain ⟨p2, rfl, hv⟩ := hv
  obtain ⟨h1, eh⟩ : ∃ z, z = h9 := ⟨_, rfl⟩
  subst eh
  obtain ⟨hskh1, hv⟩ := hv
  show mT g me_fn_set (d + 5) 0 0 8 [some (vr 0 0), some (vi x1), some (vi x2), some (vi x3), none] [vp p2] h1 _
  refine tr_astore (pc := 8) k_fn_set_8 (by decide) rfl ?_
  show mT g me_fn_set (d + 5) 0 0 10 [some (vr 0 0), some (vi x1), some (vi x2), some (vi x3), some (vp p2)] [] h1 _
  refine tr_aload (pc := 10) k_fn_set_10 rfl ?_
  rcases p2 with _ | ⟨kq, n3⟩
  · replace hv := hv.1 rfl
    refine tr_ifnonnull (pc := 12) 21 k_fn_set_12 (by decide) (fun _ => ?_) (fun _ _ q => by cases q)
    refine tr_aload_n (pc := 15) 0 k_fn_set_15 rfl rfl ?_
    refine tr_iconst (pc := 16) (v := -1) k_fn_set_16 (by decide) ?_
    have hT := hv
    clear hv
    refine tr_callV (pc := 17) (d' := d + 4) (mc' := 0) (ms' := 0) [vi (-1 : Int32)] k_fn_set_17 ca_fn_refuse ml_fn_56 ii_fn_refuse ⟨by decide, rfl⟩ pa_fn_refuse (by omega) (by omega) (by omega) rfl (Nat.le_of_ble_eq_true rfl) (Nat.le_of_ble_eq_true rfl) hT (fun v h9 hv => ?_)
    clear hT
    obtain ⟨y5, rfl, hv⟩ := hv
    obtain ⟨h4, eh⟩ : ∃ z, z = h9 := ⟨_, rfl⟩
    subst eh
    obtain ⟨hskh4, hv⟩ := hv
    show mT g me_fn_set (d + 5) 0 0 20 [some (vr 0 0), some (vi x1), some (vi x2), some (vi x3), some (vn)] [vi y5] h4 _
    refine tr_ireturn (pc := 20) k_fn_set_20 rfl rfl ?_
    exact hv
  · have hw := hv.2 kq n3 rfl
    clear hv
    obtain ⟨tq, hv⟩ := hw
    subst tq
    refine tr_ifnonnull (pc := 12) 21 k_fn_set_12 (by decide) (fun q => by cases q) (fun _ _ _ => ?_)
    refine tr_iload_n (pc := 21) 2 k_fn_set_21 rfl rfl ?_
    refine tr_if_lt (pc := 22) 30 k_fn_set_22 (by decide) (fun q => ?_) (fun q => ?_)
    · replace hv := hv.1 q
      refine tr_aload_n (pc := 30) 0 k_fn_set_30 rfl rfl ?_
      refine tr_bipush (pc := 31) (v := -2) k_fn_set_31 (by decide) ?_
      have hT := hv
      clear hv
      refine tr_callV (pc := 33) (d' := d + 4) (mc' := 0) (ms' := 0) [vi (-2 : Int32)] k_fn_set_33 ca_fn_refuse ml_fn_56 ii_fn_refuse ⟨by decide, rfl⟩ pa_fn_refuse (by omega) (by omega) (by omega) rfl (Nat.le_of_ble_eq_true rfl) (Nat.le_of_ble_eq_true rfl) hT (fun v h9 hv => ?_)
      clear hT
      obtain ⟨y7, rfl, hv⟩ := hv
      obtain ⟨h6, eh⟩ : ∃ z, z = h9 := ⟨_, rfl⟩
      subst eh
      obtain ⟨hskh6, hv⟩ := hv
      show mT g me_fn_set (d + 5) 0 0 36 [some (vr 0 0), some (vi x1), some (vi x2), some (vi x3), some (vr 6 n3)] [vi y7] h6 _
      refine tr_ireturn (pc := 36) k_fn_set_36 rfl rfl ?_
      exact hv
    · replace hv := hv.2 q
      refine tr_iload_n (pc := 25) 2 k_fn_set_25 rfl rfl ?_
      refine tr_iconst (pc := 26) (v := 1) k_fn_set_26 (by decide) ?_
      refine tr_icmp_le (pc := 27) 37 k_fn_set_27 (by decide) (fun q => ?_) (fun q => ?_)
      · replace hv := hv.1 q
        refine tr_iload_n (pc := 37) 3 k_fn_set_37 rfl rfl ?_
        refine tr_if_ge (pc := 38) 48 k_fn_set_38 (by decide) (fun q => ?_) (fun q => ?_)
        · replace hv := hv.1 q
          refine tr_iload_n (pc := 48) 3 k_fn_set_48 rfl rfl ?_
          refine tr_iload_n (pc := 49) 2 k_fn_set_49 rfl rfl ?_
          refine tr_if_ne (pc := 50) 59 k_fn_set_50 (by decide) (fun q => ?_) (fun q => ?_)
          · replace hv := hv.1 q
            refine tr_aload (pc := 59) k_fn_set_59 rfl ?_
            refine tr_callV (pc := 61) (d' := d + 4) (mc' := 0) (ms' := 0) [] k_fn_set_61 ca_tk_capacity ml_fn_80 ii_tk_capacity ⟨by decide, rfl⟩ pa_tk_capacity (by omega) (by omega) (by omega) rfl (Nat.le_of_ble_eq_true rfl) (Nat.le_of_ble_eq_true rfl) (Qk := fun v h9 => mT g me_fn_set (d + 5) 0 0 64 [some (vr 0 0), some (vi x1), some (vi x2), some (vi x3), some (vr 6 n3)] (v.toList ++ [vi x3]) h9 _) ?_ (fun _ _ z => z)
            show mT g me_tk_capacity (d + 4) 0 0 0 [some (vr 6 n3)] [] h1 _
            refine tr_aload_n (pc := 0) 0 k_tk_capacity_0 rfl rfl ?_
            refine tr_getIx (pc := 1) k_tk_capacity_1 fl_tk_16 rfl rfl ?_
            refine tr_aload_n (pc := 4) 0 k_tk_capacity_4 rfl rfl ?_
            refine tr_getIx (pc := 5) k_tk_capacity_5 fl_tk_19 rfl rfl ?_
            refine tr_imul (pc := 8) k_tk_capacity_8 ?_
            refine tr_ireturn (pc := 9) k_tk_capacity_9 rfl rfl ?_
            show mT g me_fn_set (d + 5) 0 0 64 [some (vr 0 0), some (vi x1), some (vi x2), some (vi x3), some (vr 6 n3)] [vi ((hI h1 6 n3 2) * (hI h1 6 n3 3)), vi x3] h1 _
            refine tr_icmp_le (pc := 64) 74 k_fn_set_64 (by decide) (fun q => ?_) (fun q => ?_)
            · replace hv := hv.1 q
              refine tr_iload_n (pc := 74) 2 k_fn_set_74 rfl rfl ?_
              refine tr_if_ne (pc := 75) 87 k_fn_set_75 (by decide) (fun q => ?_) (fun q => ?_)
              · replace hv := hv.1 q
                refine tr_aload (pc := 87) k_fn_set_87 rfl ?_
                refine tr_iload_n (pc := 89) 3 k_fn_set_89 rfl rfl ?_
                refine tr_callV (pc := 90) (d' := d + 4) (mc' := 0) (ms' := 0) [vi x3] k_fn_set_90 ca_tk_changeWater ml_fn_86 ii_tk_changeWater ⟨by decide, rfl⟩ pa_tk_changeWater (by omega) (by omega) (by omega) rfl (Nat.le_of_ble_eq_true rfl) (Nat.le_of_ble_eq_true rfl) (Qk := fun v h9 => mT g me_fn_set (d + 5) 0 0 93 [some (vr 0 0), some (vi x1), some (vi x2), some (vi x3), some (vr 6 n3)] (v.toList ++ []) h9 _) ?_ (fun _ _ z => z)
                show mT g me_tk_changeWater (d + 4) 0 0 0 [some (vr 6 n3), some (vi x3), none] [] h1 _
                refine tr_aload_n (pc := 0) 0 k_tk_changeWater_0 rfl rfl ?_
                refine tr_getIx (pc := 1) k_tk_changeWater_1 fl_tk_25 rfl rfl ?_
                refine tr_istore_n (pc := 4) 2 k_tk_changeWater_4 rfl (by decide) rfl ?_
                show mT g me_tk_changeWater (d + 4) 0 0 5 [some (vr 6 n3), some (vi x3), some (vi (hI h1 6 n3 5))] [] h1 _
                refine tr_aload_n (pc := 5) 0 k_tk_changeWater_5 rfl rfl ?_
                refine tr_iload_n (pc := 6) 1 k_tk_changeWater_6 rfl rfl ?_
                refine tr_putI (pc := 7) k_tk_changeWater_7 fl_tk_25 (Or.inl rfl) rfl ⟨rfl, rfl⟩ ?_
                refine tr_iload_n (pc := 10) 2 k_tk_changeWater_10 rfl rfl ?_
                refine tr_ireturn (pc := 11) k_tk_changeWater_11 rfl rfl ?_
                show mT g me_fn_set (d + 5) 0 0 93 [some (vr 0 0), some (vi x1), some (vi x2), some (vi x3), some (vr 6 n3)] [vi (hI h1 6 n3 5)] (setI h1 6 n3 5 x3) _
                refine tr_ireturn (pc := 93) k_fn_set_93 rfl rfl ?_
                exact hv
              · replace hv := hv.2 q
                refine tr_aload (pc := 78) k_fn_set_78 rfl ?_
                refine tr_iload_n (pc := 80) 3 k_fn_set_80 rfl rfl ?_
                refine tr_callV (pc := 81) (d' := d + 4) (mc' := 0) (ms' := 0) [vi x3] k_fn_set_81 ca_tk_changeSpring ml_fn_83 ii_tk_changeSpring ⟨by decide, rfl⟩ pa_tk_changeSpring (by omega) (by omega) (by omega) rfl (Nat.le_of_ble_eq_true rfl) (Nat.le_of_ble_eq_true rfl) (Qk := fun v h9 => mT g me_fn_set (d + 5) 0 0 84 [some (vr 0 0), some (vi x1), some (vi x2), some (vi x3), some (vr 6 n3)] (v.toList ++ []) h9 _) ?_ (fun _ _ z => z)
                show mT g me_tk_changeSpring (d + 4) 0 0 0 [some (vr 6 n3), some (vi x3), none] [] h1 _
                refine tr_aload_n (pc := 0) 0 k_tk_changeSpring_0 rfl rfl ?_
                refine tr_getIx (pc := 1) k_tk_changeSpring_1 fl_tk_22 rfl rfl ?_
                refine tr_istore_n (pc := 4) 2 k_tk_changeSpring_4 rfl (by decide) rfl ?_
                show mT g me_tk_changeSpring (d + 4) 0 0 5 [some (vr 6 n3), some (vi x3), some (vi (hI h1 6 n3 4))] [] h1 _
                refine tr_aload_n (pc := 5) 0 k_tk_changeSpring_5 rfl rfl ?_
                refine tr_iload_n (pc := 6) 1 k_tk_changeSpring_6 rfl rfl ?_
                refine tr_putI (pc := 7) k_tk_changeSpring_7 fl_tk_22 (Or.inl rfl) rfl ⟨rfl, rfl⟩ ?_
                refine tr_iload_n (pc := 10) 2 k_tk_changeSpring_10 rfl rfl ?_
                refine tr_ireturn (pc := 11) k_tk_changeSpring_11 rfl rfl ?_
                show mT g me_fn_set (d + 5) 0 0 84 [some (vr 0 0), some (vi x1), some (vi x2), some (vi x3), some (vr 6 n3)] [vi (hI h1 6 n3 4)] (setI h1 6 n3 4 x3) _
                refine tr_goto (pc := 84) 93 k_fn_set_84 (by decide) ?_
                refine tr_ireturn (pc := 93) k_fn_set_93 rfl rfl ?_
                exact hv
            · replace hv := hv.2 q
              refine tr_aload_n (pc := 67) 0 k_fn_set_67 rfl rfl ?_
              refine tr_bipush (pc := 68) (v := -6) k_fn_set_68 (by decide) ?_
              have hT := hv
              clear hv
              refine tr_callV (pc := 70) (d' := d + 4) (mc' := 0) (ms' := 0) [vi (-6 : Int32)] k_fn_set_70 ca_fn_refuse ml_fn_56 ii_fn_refuse ⟨by decide, rfl⟩ pa_fn_refuse (by omega) (by omega) (by omega) rfl (Nat.le_of_ble_eq_true rfl) (Nat.le_of_ble_eq_true rfl) hT (fun v h9 hv => ?_)
              clear hT
              obtain ⟨y9, rfl, hv⟩ := hv
              obtain ⟨h8, eh⟩ : ∃ z, z = h9 := ⟨_, rfl⟩
              subst eh
              obtain ⟨hskh8, hv⟩ := hv
              show mT g me_fn_set (d + 5) 0 0 73 [some (vr 0 0), some (vi x1), some (vi x2), some (vi x3), some (vr 6 n3)] [vi y9] h8 _
              refine tr_ireturn (pc := 73) k_fn_set_73 rfl rfl ?_
              exact hv
          · replace hv := hv.2 q
            refine tr_sipush (pc := 53) (v := 500) k_fn_set_53 (by decide) ?_
            refine tr_goto (pc := 56) 64 k_fn_set_56 (by decide) ?_
            refine tr_icmp_le (pc := 64) 74 k_fn_set_64 (by decide) (fun q => ?_) (fun q => ?_)
            · replace hv := hv.1 q
              refine tr_iload_n (pc := 74) 2 k_fn_set_74 rfl rfl ?_
              refine tr_if_ne (pc := 75) 87 k_fn_set_75 (by decide) (fun q => ?_) (fun q => ?_)
              · replace hv := hv.1 q
                refine tr_aload (pc := 87) k_fn_set_87 rfl ?_
                refine tr_iload_n (pc := 89) 3 k_fn_set_89 rfl rfl ?_
                refine tr_callV (pc := 90) (d' := d + 4) (mc' := 0) (ms' := 0) [vi x3] k_fn_set_90 ca_tk_changeWater ml_fn_86 ii_tk_changeWater ⟨by decide, rfl⟩ pa_tk_changeWater (by omega) (by omega) (by omega) rfl (Nat.le_of_ble_eq_true rfl) (Nat.le_of_ble_eq_true rfl) (Qk := fun v h9 => mT g me_fn_set (d + 5) 0 0 93 [some (vr 0 0), some (vi x1), some (vi x2), some (vi x3), some (vr 6 n3)] (v.toList ++ []) h9 _) ?_ (fun _ _ z => z)
                show mT g me_tk_changeWater (d + 4) 0 0 0 [some (vr 6 n3), some (vi x3), none] [] h1 _
                refine tr_aload_n (pc := 0) 0 k_tk_changeWater_0 rfl rfl ?_
                refine tr_getIx (pc := 1) k_tk_changeWater_1 fl_tk_25 rfl rfl ?_
                refine tr_istore_n (pc := 4) 2 k_tk_changeWater_4 rfl (by decide) rfl ?_
                show mT g me_tk_changeWater (d + 4) 0 0 5 [some (vr 6 n3), some (vi x3), some (vi (hI h1 6 n3 5))] [] h1 _
                refine tr_aload_n (pc := 5) 0 k_tk_changeWater_5 rfl rfl ?_
                refine tr_iload_n (pc := 6) 1 k_tk_changeWater_6 rfl rfl ?_
                refine tr_putI (pc := 7) k_tk_changeWater_7 fl_tk_25 (Or.inl rfl) rfl ⟨rfl, rfl⟩ ?_
                refine tr_iload_n (pc := 10) 2 k_tk_changeWater_10 rfl rfl ?_
                refine tr_ireturn (pc := 11) k_tk_changeWater_11 rfl rfl ?_
                show mT g me_fn_set (d + 5) 0 0 93 [some (vr 0 0), some (vi x1), some (vi x2), some (vi x3), some (vr 6 n3)] [vi (hI h1 6 n3 5)] (setI h1 6 n3 5 x3) _
                refine tr_ireturn (pc := 93) k_fn_set_93 rfl rfl ?_
                exact hv
              · replace hv := hv.2 q
                refine tr_aload (pc := 78) k_fn_set_78 rfl ?_
                refine tr_iload_n (pc := 80) 3 k_fn_set_80 rfl rfl ?_
                refine tr_callV (pc := 81) (d' := d + 4) (mc' := 0) (ms' := 0) [vi x3] k_fn_set_81 ca_tk_changeSpring ml_fn_83 ii_tk_changeSpring ⟨by decide, rfl⟩ pa_tk_changeSpring (by omega) (by omega) (by omega) rfl (Nat.le_of_ble_eq_true rfl) (Nat.le_of_ble_eq_true rfl) (Qk := fun v h9 => mT g me_fn_set (d + 5) 0 0 84 [some (vr 0 0), some (vi x1), some (vi x2), some (vi x3), some (vr 6 n3)] (v.toList ++ []) h9 _) ?_ (fun _ _ z => z)
                show mT g me_tk_changeSpring (d + 4) 0 0 0 [some (vr 6 n3), some (vi x3), none] [] h1 _
                refine tr_aload_n (pc := 0) 0 k_tk_changeSpring_0 rfl rfl ?_
                refine tr_getIx (pc := 1) k_tk_changeSpring_1 fl_tk_22 rfl rfl ?_
                refine tr_istore_n (pc := 4) 2 k_tk_changeSpring_4 rfl (by decide) rfl ?_
                show mT g me_tk_changeSpring (d + 4) 0 0 5 [some (vr 6 n3), some (vi x3), some (vi (hI h1 6 n3 4))] [] h1 _
                refine tr_aload_n (pc := 5) 0 k_tk_changeSpring_5 rfl rfl ?_
                refine tr_iload_n (pc := 6) 1 k_tk_changeSpring_6 rfl rfl ?_
                refine tr_putI (pc := 7) k_tk_changeSpring_7 fl_tk_22 (Or.inl rfl) rfl ⟨rfl, rfl⟩ ?_
                refine tr_iload_n (pc := 10) 2 k_tk_changeSpring_10 rfl rfl ?_
                refine tr_ireturn (pc := 11) k_tk_changeSpring_11 rfl rfl ?_
                show mT g me_fn_set (d + 5) 0 0 84 [some (vr 0 0), some (vi x1), some (vi x2), some (vi x3), some (vr 6 n3)] [vi (hI h1 6 n3 4)] (setI h1 6 n3 4 x3) _
                refine tr_goto (pc := 84) 93 k_fn_set_84 (by decide) ?_
                refine tr_ireturn (pc := 93) k_fn_set_93 rfl rfl ?_
                exact hv
            · replace hv := hv.2 q
              refine tr_aload_n (pc := 67) 0 k_fn_set_67 rfl rfl ?_
              refine tr_bipush (pc := 68) (v := -6) k_fn_set_68 (by decide) ?_
              have hT := hv
              clear hv
              refine tr_callV (pc := 70) (d' := d + 4) (mc' := 0) (ms' := 0) [vi (-6 : Int32)] k_fn_set_70 ca_fn_refuse ml_fn_56 ii_fn_refuse ⟨by decide, rfl⟩ pa_fn_refuse (by omega) (by omega) (by omega) rfl (Nat.le_of_ble_eq_true rfl) (Nat.le_of_ble_eq_true rfl) hT (fun v h9 hv => ?_)
              clear hT
              obtain ⟨y11, rfl, hv⟩ := hv
              obtain ⟨h10, eh⟩ : ∃ z, z = h9 := ⟨_, rfl⟩
              subst eh
              obtain ⟨hskh10, hv⟩ := hv
              show mT g me_fn_set (d + 5) 0 0 73 [some (vr 0 0), some (vi x1), some (vi x2), some (vi x3), some (vr 6 n3)] [vi y11] h10 _
              refine tr_ireturn (pc := 73) k_fn_set_73 rfl rfl ?_
              exact hv
        · replace hv := hv.2 q
          refine tr_aload_n (pc := 41) 0 k_fn_set_41 rfl rfl ?_
          refine tr_bipush (pc := 42) (v := -4) k_fn_set_42 (by decide) ?_
          have hT := hv
          clear hv
          refine tr_callV (pc := 44) (d' := d + 4) (mc' := 0) (ms' := 0) [vi (-4 : Int32)] k_fn_set_44 ca_fn_refuse ml_fn_56 ii_fn_refuse ⟨by decide, rfl⟩ pa_fn_refuse (by omega) (by omega) (by omega) rfl (Nat.le_of_ble_eq_true rfl) (Nat.le_of_ble_eq_true rfl) hT (fun v h9 hv => ?_)
          clear hT
          obtain ⟨y13, rfl, hv⟩ := hv
          obtain ⟨h12, eh⟩ : ∃ z, z = h9 := ⟨_, rfl⟩
          subst eh
          obtain ⟨hskh12, hv⟩ := hv
          show mT g me_fn_set (d + 5) 0 0 47 [some (vr 0 0), some (vi x1), some (vi x2), some (vi x3), some (vr 6 n3)] [vi y13] h12 _
          refine tr_ireturn (pc := 47) k_fn_set_47 rfl rfl ?_
          exact hv
      · replace hv := hv.2 q
        refine tr_aload_n (pc := 30) 0 k_fn_set_30 rfl rfl ?_
        refine tr_bipush (pc := 31) (v := -2) k_fn_set_31 (by decide) ?_
        have hT := hv
        clear hv
        refine tr_callV (pc := 33) (d' := d + 4) (mc' := 0) (ms' := 0) [vi (-2 : Int32)] k_fn_set_33 ca_fn_refuse ml_fn_56 ii_fn_refuse ⟨by decide, rfl⟩ pa_fn_refuse (by omega) (by omega) (by omega) rfl (Nat.le_of_ble_eq_true rfl) (Nat.le_of_ble_eq_true rfl) hT (fun v h9 hv => ?_)
        clear hT
        obtain ⟨y15, rfl, hv⟩ := hv
        obtain ⟨h14, eh⟩ : ∃ z, z = h9 := ⟨_, rfl⟩
        subst eh
        obtain ⟨hskh14, hv⟩ := hv
        show mT g me_fn_set (d + 5) 0 0 36 [some (vr 0 0), some (vi x1), some (vi x2), some (vi x3), some (vr 6 n3)] [vi y15] h14 _
        refine tr_ireturn (pc := 36) k_fn_set_36 rfl rfl ?_
        exact hv
theorem v_ga_tankAt_0 {g : mG} {d : Nat} (x1 : Int32) {h : mH} {Q : Option mV → mH → Prop} (hsk : mSK h) (hv : ((x1 < 0 → Q (some (vn)) h) ∧ (¬ x1 < 0 → (((hI h 2 0 1) ≤ x1 → Q (some (vn)) h) ∧ (¬ (hI h 2 0 1) ≤ x1 → (∃ n1, mGet h 0 x1 (some (6, n1)) ∧ Q (some (vr 6 n1)) h)))))) : mT g me_ga_tankAt (d + 4) 0 0 0 [some (vr 1 0), some (vi x1)] [] h Q := by
  refine tr_iload_n (pc := 0) 1 k_ga_tankAt_0 rfl rfl ?_
  refine tr_if_lt (pc := 1) 29 k_ga_tankAt_1 (by decide) (fun q => ?_) (fun q => ?_)
  · replace hv := hv.1 q
    refine tr_null (pc := 29) k_ga_tankAt_29 ?_
    refine tr_areturn (pc := 30) k_ga_tankAt_30 rfl rfl ?_
    exact hv
  · replace hv := hv.2 q
    refine tr_iload_n (pc := 4) 1 k_ga_tankAt_4 rfl rfl ?_
    refine tr_aload_n (pc := 5) 0 k_ga_tankAt_5 rfl rfl ?_
    refine tr_getP (pc := 6) k_ga_tankAt_6 fl_ga_12 rfl (Eq.trans rfl (hsk.1 1 0 _ rfl)) ?_
    refine tr_callV (pc := 9) (d' := d + 3) (mc' := 0) (ms' := 0) [] k_ga_tankAt_9 ca_al_size ml_ga_24 ii_al_size ⟨by decide, rfl⟩ pa_al_size (by omega) (by omega) (by omega) rfl (Nat.le_of_ble_eq_true rfl) (Nat.le_of_ble_eq_true rfl) (Qk := fun v h9 => mT g me_ga_tankAt (d + 4) 0 0 12 [some (vr 1 0), some (vi x1)] (v.toList ++ [vi x1]) h9 _) ?_ (fun _ _ z => z)
    show mT g me_al_size (d + 3) 0 0 0 [some (vr 2 0)] [] h _
    refine tr_aload_n (pc := 0) 0 k_al_size_0 rfl rfl ?_
    refine tr_getIx (pc := 1) k_al_size_1 fl_al_48 rfl rfl ?_
    refine tr_ireturn (pc := 4) k_al_size_4 rfl rfl ?_
    show mT g me_ga_tankAt (d + 4) 0 0 12 [some (vr 1 0), some (vi x1)] [vi (hI h 2 0 1), vi x1] h _
    refine tr_icmp_ge (pc := 12) 29 k_ga_tankAt_12 (by decide) (fun q => ?_) (fun q => ?_)
    · replace hv := hv.1 q
      refine tr_null (pc := 29) k_ga_tankAt_29 ?_
      refine tr_areturn (pc := 30) k_ga_tankAt_30 rfl rfl ?_
      exact hv
    · replace hv := hv.2 q
      refine tr_aload_n (pc := 15) 0 k_ga_tankAt_15 rfl rfl ?_
      refine tr_getP (pc := 16) k_ga_tankAt_16 fl_ga_12 rfl (Eq.trans rfl (hsk.1 1 0 _ rfl)) ?_
      refine tr_iload_n (pc := 19) 1 k_ga_tankAt_19 rfl rfl ?_
      obtain ⟨n1, hg, hv⟩ := hv
      refine tr_alget (pc := 20) k_ga_tankAt_20 ml_ga_28 (by omega) (Nat.le_of_ble_eq_true rfl) (mGet.up hg rfl rfl) ?_
      refine tr_cast (pc := 23) k_ga_tankAt_23 (by decide) cl_ga_32 ?_
      refine tr_goto (pc := 26) 30 k_ga_tankAt_26 (by decide) ?_
      refine tr_areturn (pc := 30) k_ga_tankAt_30 rfl rfl ?_
      exact hv
theorem v_fn_joint_0 {g : mG} {d : Nat} (x1 : Int32) (x2 : Int32) (x3 : Int32) (x4 : Int32) (x5 : Int32) {h : mH} {Q : Option mV → mH → Prop} (hsk : mSK h) (hv : ((x1 = 0 → mT g me_ga_jointAt (d + 6) 0 0 0 [some (vr 1 0), some (vi x2)] [] h (fun v h1 => ∃ p2, v = some (vp p2) ∧ mSK h1 ∧ ((x1 = 0 → ((p2 = none → mT g me_fn_refuse (d + 6) 0 0 0 [some (vr 0 0), some (vi (-1 : Int32)), none] [] h1 (fun v h4 => ∃ y5, v = some (vi y5) ∧ mSK h4 ∧ Q (some (vi y5)) h4)) ∧ (∀ kq n3, p2 = some (kq, n3) → kq = 7 ∧ (∃ n6, hP h1 7 n3 1 = some (6, n6) ∧ ((x3 < 0 → mT g me_fn_refuse (d + 6) 0 0 0 [some (vr 0 0), some (vi (-4 : Int32)), none] [] h1 (fun v h8 => ∃ y9, v = some (vi y9) ∧ mSK h8 ∧ Q (some (vi y9)) h8)) ∧ (¬ x3 < 0 → ((x4 < (1 : Int32) → mT g me_fn_refuse (d + 6) 0 0 0 [some (vr 0 0), some (vi (-4 : Int32)), none] [] h1 (fun v h10 => ∃ y11, v = some (vi y11) ∧ mSK h10 ∧ Q (some (vi y11)) h10)) ∧ (¬ x4 < (1 : Int32) → (((1 : Int32) ≤ x5 → (((500 : Int32) < x3 → mT g me_fn_refuse (d + 6) 0 0 0 [some (vr 0 0), some (vi (-6 : Int32)), none] [] h1 (fun v h12 => ∃ y13, v = some (vi y13) ∧ mSK h12 ∧ Q (some (vi y13)) h12)) ∧ (¬ (500 : Int32) < x3 → (((9 : Int32) < x4 → mT g me_fn_refuse (d + 6) 0 0 0 [some (vr 0 0), some (vi (-6 : Int32)), none] [] h1 (fun v h14 => ∃ y15, v = some (vi y15) ∧ mSK h14 ∧ Q (some (vi y15)) h14)) ∧ (¬ (9 : Int32) < x4 → (((200 : Int32) < x5 → mT g me_fn_refuse (d + 6) 0 0 0 [some (vr 0 0), some (vi (-6 : Int32)), none] [] h1 (fun v h16 => ∃ y17, v = some (vi y17) ∧ mSK h16 ∧ Q (some (vi y17)) h16)) ∧ (¬ (200 : Int32) < x5 → (((hI h1 2 1 1) < (30 : Int32) → (((hI h1 7 n3 8) = 0 → mT g me_al_add (d + 6) 1 74 0 [some (vr 2 1), some (vr 7 (hC h1 7))] [] (setI (setI (setI (setP (setP (setI (newC h1 7 0) 7 (hC h1 7) 0 (hI h1 2 1 1)) 7 (hC h1 7) 1 (some (6, n6))) 7 (hC h1 7) 2 (some (7, n3))) 7 (hC h1 7) 3 x3) 7 (hC h1 7) 5 x4) 7 (hC h1 7) 4 x5) (fun v h18 => ∃ y19, v = some (vi y19) ∧ mSK h18 ∧ Q (some (vi (hI h1 2 1 1))) h18)) ∧ (¬ (hI h1 7 n3 8) = 0 → mT g me_fn_refuse (d + 6) 0 0 0 [some (vr 0 0), some (vi (-3 : Int32)), none] [] h1 (fun v h20 => ∃ y21, v = some (vi y21) ∧ mSK h20 ∧ Q (some (vi y21)) h20)))) ∧ (¬ (hI h1 2 1 1) < (30 : Int32) → mT g me_fn_refuse (d + 6) 0 0 0 [some (vr 0 0), some (vi (-6 : Int32)), none] [] h1 (fun v h22 => ∃ y23, v = some (vi y23) ∧ mSK h22 ∧ Q (some (vi y23)) h22)))))))))) ∧ (¬ (1 : Int32) ≤ x5 → mT g me_fn_refuse (d + 6) 0 0 0 [some (vr 0 0), some (vi (-4 : Int32)), none] [] h1 (fun v h24 => ∃ y25, v = some (vi y25) ∧ mSK h24 ∧ Q (some (vi y25)) h24))))))))))) ∧ (¬ x1 = 0 → mT g me_ga_tankAt (d + 6) 0 0 0 [some (vr 1 0), some (vi x2)] [] h1 (fun v h26 => ∃ p27, v = some (vp p27) ∧ mSK h26 ∧ ((p27 = none → mT g me_fn_refuse (d + 6) 0 0 0 [some (vr 0 0), some (vi (-1 : Int32)), none] [] h26 (fun v h29 => ∃ y30, v = some (vi y30) ∧ mSK h29 ∧ Q (some (vi y30)) h29)) ∧ (∀ kq n28, p27 = some (kq, n28) → kq = 6 ∧ ((x3 < 0 → mT g me_fn_refuse (d + 6) 0 0 0 [some (vr 0 0), some (vi (-4 : Int32)), none] [] h26 (fun v h31 => ∃ y32, v = some (vi y32) ∧ mSK h31 ∧ Q (some (vi y32)) h31)) ∧ (¬ x3 < 0 → ((x4 < (1 : Int32) → mT g me_fn_refuse (d + 6) 0 0 0 [some (vr 0 0), some (vi (-4 : Int32)), none] [] h26 (fun v h33 => ∃ y34, v = some (vi y34) ∧ mSK h33 ∧ Q (some (vi y34)) h33)) ∧ (¬ x4 < (1 : Int32) → (((1 : Int32) ≤ x5 → (((500 : Int32) < x3 → mT g me_fn_refuse (d + 6) 0 0 0 [some (vr 0 0), some (vi (-6 : Int32)), none] [] h26 (fun v h35 => ∃ y36, v = some (vi y36) ∧ mSK h35 ∧ Q (some (vi y36)) h35)) ∧ (¬ (500 : Int32) < x3 → (((9 : Int32) < x4 → mT g me_fn_refuse (d + 6) 0 0 0 [some (vr 0 0), some (vi (-6 : Int32)), none] [] h26 (fun v h37 => ∃ y38, v = some (vi y38) ∧ mSK h37 ∧ Q (some (vi y38)) h37)) ∧ (¬ (9 : Int32) < x4 → (((200 : Int32) < x5 → mT g me_fn_refuse (d + 6) 0 0 0 [some (vr 0 0), some (vi (-6 : Int32)), none] [] h26 (fun v h39 => ∃ y40, v = some (vi y40) ∧ mSK h39 ∧ Q (some (vi y40)) h39)) ∧ (¬ (200 : Int32) < x5 → (((hI h26 2 1 1) < (30 : Int32) → ((p2 = none → mT g me_al_add (d + 6) 1 74 0 [some (vr 2 1), some (vr 7 (hC h26 7))] [] (setI (setI (setI (setP (setP (setI (newC h26 7 0) 7 (hC h26 7) 0 (hI h26 2 1 1)) 7 (hC h26 7) 1 (some (6, n28))) 7 (hC h26 7) 2 none) 7 (hC h26 7) 3 x3) 7 (hC h26 7) 5 x4) 7 (hC h26 7) 4 x5) (fun v h42 => ∃ y43, v = some (vi y43) ∧ mSK h42 ∧ Q (some (vi (hI h26 2 1 1))) h42)) ∧ (∀ kq n41, p2 = some (kq, n41) → kq = 7 ∧ (((hI h26 7 n41 8) = 0 → mT g me_al_add (d + 6) 1 74 0 [some (vr 2 1), some (vr 7 (hC h26 7))] [] (setI (setI (setI (setP (setP (setI (newC h26 7 0) 7 (hC h26 7) 0 (hI h26 2 1 1)) 7 (hC h26 7) 1 (some (6, n28))) 7 (hC h26 7) 2 (some (7, n41))) 7 (hC h26 7) 3 x3) 7 (hC h26 7) 5 x4) 7 (hC h26 7) 4 x5) (fun v h44 => ∃ y45, v = some (vi y45) ∧ mSK h44 ∧ Q (some (vi (hI h26 2 1 1))) h44)) ∧ (¬ (hI h26 7 n41 8) = 0 → mT g me_fn_refuse (d + 6) 0 0 0 [some (vr 0 0), some (vi (-3 : Int32)), none] [] h26 (fun v h46 => ∃ y47, v = some (vi y47) ∧ mSK h46 ∧ Q (some (vi y47)) h46)))))) ∧ (¬ (hI h26 2 1 1) < (30 : Int32) → mT g me_fn_refuse (d + 6) 0 0 0 [some (vr 0 0), some (vi (-6 : Int32)), none] [] h26 (fun v h48 => ∃ y49, v = some (vi y49) ∧ mSK h48 ∧ Q (some (vi y49)) h48)))))))))) ∧ (¬ (1 : Int32) ≤ x5 → mT g me_fn_refuse (d + 6) 0 0 0 [some (vr 0 0), some (vi (-4 : Int32)), none] [] h26 (fun v h50 => ∃ y51, v = some (vi y51) ∧ mSK h50 ∧ Q (some (vi y51)) h50)))))))))))))) ∧ (¬ x1 = 0 → ((x1 = 0 → mT g me_fn_refuse (d + 6) 0 0 0 [some (vr 0 0), some (vi (-1 : Int32)), none] [] h (fun v h52 => ∃ y53, v = some (vi y53) ∧ mSK h52 ∧ Q (some (vi y53)) h52)) ∧ (¬ x1 = 0 → mT g me_ga_tankAt (d + 6) 0 0 0 [some (vr 1 0), some (vi x2)] [] h (fun v h54 => ∃ p55, v = some (vp p55) ∧ mSK h54 ∧ ((p55 = none → mT g me_fn_refuse (d + 6) 0 0 0 [some (vr 0 0), some (vi (-1 : Int32)), none] [] h54 (fun v h57 => ∃ y58, v = some (vi y58) ∧ mSK h57 ∧ Q (some (vi y58)) h57)) ∧ (∀ kq n56, p55 = some (kq, n56) → kq = 6 ∧ ((x3 < 0 → mT g me_fn_refuse (d + 6) 0 0 0 [some (vr 0 0), some (vi (-4 : Int32)), none] [] h54 (fun v h59 => ∃ y60, v = some (vi y60) ∧ mSK h59 ∧ Q (some (vi y60)) h59)) ∧ (¬ x3 < 0 → ((x4 < (1 : Int32) → mT g me_fn_refuse (d + 6) 0 0 0 [some (vr 0 0), some (vi (-4 : Int32)), none] [] h54 (fun v h61 => ∃ y62, v = some (vi y62) ∧ mSK h61 ∧ Q (some (vi y62)) h61)) ∧ (¬ x4 < (1 : Int32) → (((1 : Int32) ≤ x5 → (((500 : Int32) < x3 → mT g me_fn_refuse (d + 6) 0 0 0 [some (vr 0 0), some (vi (-6 : Int32)), none] [] h54 (fun v h63 => ∃ y64, v = some (vi y64) ∧ mSK h63 ∧ Q (some (vi y64)) h63)) ∧ (¬ (500 : Int32) < x3 → (((9 : Int32) < x4 → mT g me_fn_refuse (d + 6) 0 0 0 [some (vr 0 0), some (vi (-6 : Int32)), none] [] h54 (fun v h65 => ∃ y66, v = some (vi y66) ∧ mSK h65 ∧ Q (some (vi y66)) h65)) ∧ (¬ (9 : Int32) < x4 → (((200 : Int32) < x5 → mT g me_fn_refuse (d + 6) 0 0 0 [some (vr 0 0), some (vi (-6 : Int32)), none] [] h54 (fun v h67 => ∃ y68, v = some (vi y68) ∧ mSK h67 ∧ Q (some (vi y68)) h67)) ∧ (¬ (200 : Int32) < x5 → (((hI h54 2 1 1) < (30 : Int32) → mT g me_al_add (d + 6) 1 74 0 [some (vr 2 1), some (vr 7 (hC h54 7))] [] (setI (setI (setI (setP (setP (setI (newC h54 7 0) 7 (hC h54 7) 0 (hI h54 2 1 1)) 7 (hC h54 7) 1 (some (6, n56))) 7 (hC h54 7) 2 none) 7 (hC h54 7) 3 x3) 7 (hC h54 7) 5 x4) 7 (hC h54 7) 4 x5) (fun v h69 => ∃ y70, v = some (vi y70) ∧ mSK h69 ∧ Q (some (vi (hI h54 2 1 1))) h69)) ∧ (¬ (hI h54 2 1 1) < (30 : Int32) → mT g me_fn_refuse (d + 6) 0 0 0 [some (vr 0 0), some (vi (-6 : Int32)), none] [] h54 (fun v h71 => ∃ y72, v = some (vi y72) ∧ mSK h71 ∧ Q (some (vi y72)) h71)))))))))) ∧ (¬ (1 : Int32) ≤ x5 → mT g me_fn_refuse (d + 6) 0 0 0 [some (vr 0 0), some (vi (-4 : Int32)), none] [] h54 (fun v h73 => ∃ y74, v = some (vi y74) ∧ mSK h73 ∧ Q (some (vi y74)) h73))))))))))))))) : mT g me_fn_joint (d + 7) 2 88 0 [some (vr 0 0), some (vi x1), some (vi x2), some (vi x3), some (vi x4), some (vi x5), none, none, none] [] h Q := by
  refine tr_iload_n (pc := 0) 1 k_fn_joint_0 rfl rfl ?_
  refine tr_if_eq (pc := 1) 8 k_fn_joint_1 (by decide) (fun q => ?_) (fun q => ?_)
  · replace hv := hv.1 q
    refine tr_aload_n (pc := 8) 0 k_fn_joint_8 rfl rfl ?_
    refine tr_getP (pc := 9) k_fn_joint_9 fl_fn_12 rfl (Eq.trans rfl (hsk.1 0 0 _ rfl)) ?_
    refine tr_iload_n (pc := 12) 2 k_fn_joint_12 rfl rfl ?_
    have hT := hv
    clear hv
    refine tr_callV (pc := 13) (d' := d + 6) (mc' := 0) (ms' := 0) [vi x2] k_fn_joint_13 ca_ga_jointAt ml_fn_89 ii_ga_jointAt ⟨by decide, rfl⟩ pa_ga_jointAt (by omega) (by omega) (by omega) rfl (Nat.le_of_ble_eq_true rfl) (Nat.le_of_ble_eq_true rfl) hT (fun v h9 hv => ?_)
    clear hT
    obtain ⟨p2, rfl, hv⟩ := hv
    obtain ⟨h1, eh⟩ : ∃ z, z = h9 := ⟨_, rfl⟩
    subst eh
    obtain ⟨hskh1, hv⟩ := hv
    show mT g me_fn_joint (d + 7) 2 88 16 [some (vr 0 0), some (vi x1), some (vi x2), some (vi x3), some (vi x4), some (vi x5), none, none, none] [vp p2] h1 _
    refine tr_astore (pc := 16) k_fn_joint_16 (by decide) rfl ?_
    show mT g me_fn_joint (d + 7) 2 88 18 [some (vr 0 0), some (vi x1), some (vi x2), some (vi x3), some (vi x4), some (vi x5), some (vp p2), none, none] [] h1 _
    refine tr_iload_n (pc := 18) 1 k_fn_joint_18 rfl rfl ?_
    refine tr_if_eq (pc := 19) 33 k_fn_joint_19 (by decide) (fun q => ?_) (fun q => ?_)
    · replace hv := hv.1 q
      refine tr_aload (pc := 33) k_fn_joint_33 rfl ?_
      refine tr_callS (pc := 35) (d' := d + 6) (mc' := 0) (ms' := 0) [vp p2] k_fn_joint_35 ca_fn_feederOf ml_fn_93 is_fn_feederOf pa_fn_feederOf (by omega) (by omega) (by omega) rfl (Nat.le_of_ble_eq_true rfl) (Nat.le_of_ble_eq_true rfl) (Qk := fun v h9 => mT g me_fn_joint (d + 7) 2 88 38 [some (vr 0 0), some (vi x1), some (vi x2), some (vi x3), some (vi x4), some (vi x5), some (vp p2), none, none] (v.toList ++ []) h9 _) ?_ (fun _ _ z => z)
      show mT g me_fn_feederOf (d + 6) 0 0 0 [some (vp p2)] [] h1 _
      refine tr_aload_n (pc := 0) 0 k_fn_feederOf_0 rfl rfl ?_
      rcases p2 with _ | ⟨kq, n3⟩
      · replace hv := hv.1 rfl
        refine tr_ifnonnull (pc := 1) 8 k_fn_feederOf_1 (by decide) (fun _ => ?_) (fun _ _ q => by cases q)
        refine tr_null (pc := 4) k_fn_feederOf_4 ?_
        refine tr_goto (pc := 5) 12 k_fn_feederOf_5 (by decide) ?_
        refine tr_areturn (pc := 12) k_fn_feederOf_12 rfl rfl ?_
        show mT g me_fn_joint (d + 7) 2 88 38 [some (vr 0 0), some (vi x1), some (vi x2), some (vi x3), some (vi x4), some (vi x5), some (vn), none, none] [vn] h1 _
        refine tr_astore (pc := 38) k_fn_joint_38 (by decide) rfl ?_
        show mT g me_fn_joint (d + 7) 2 88 40 [some (vr 0 0), some (vi x1), some (vi x2), some (vi x3), some (vi x4), some (vi x5), some (vn), some (vn), none] [] h1 _
        refine tr_aload (pc := 40) k_fn_joint_40 rfl ?_
        refine tr_ifnonnull (pc := 42) 51 k_fn_joint_42 (by decide) (fun _ => ?_) (fun _ _ q => by cases q)
        refine tr_aload_n (pc := 45) 0 k_fn_joint_45 rfl rfl ?_
        refine tr_iconst (pc := 46) (v := -1) k_fn_joint_46 (by decide) ?_
        have hT := hv
        clear hv
        refine tr_callV (pc := 47) (d' := d + 6) (mc' := 0) (ms' := 0) [vi (-1 : Int32)] k_fn_joint_47 ca_fn_refuse ml_fn_56 ii_fn_refuse ⟨by decide, rfl⟩ pa_fn_refuse (by omega) (by omega) (by omega) rfl (Nat.le_of_ble_eq_true rfl) (Nat.le_of_ble_eq_true rfl) hT (fun v h9 hv => ?_)
        clear hT
        obtain ⟨y5, rfl, hv⟩ := hv
        obtain ⟨h4, eh⟩ : ∃ z, z = h9 := ⟨_, rfl⟩
        subst eh
        obtain ⟨hskh4, hv⟩ := hv
        show mT g me_fn_joint (d + 7) 2 88 50 [some (vr 0 0), some (vi x1), some (vi x2), some (vi x3), some (vi x4), some (vi x5), some (vn), some (vn), none] [vi y5] h4 _
        refine tr_ireturn (pc := 50) k_fn_joint_50 rfl rfl ?_
        exact hv
      · have hw := hv.2 kq n3 rfl
        clear hv
        obtain ⟨tq, hv⟩ := hw
        subst tq
        refine tr_ifnonnull (pc := 1) 8 k_fn_feederOf_1 (by decide) (fun q => by cases q) (fun _ _ _ => ?_)
        refine tr_aload_n (pc := 8) 0 k_fn_feederOf_8 rfl rfl ?_
        obtain ⟨n6, e7, hv⟩ := hv
        refine tr_getP (pc := 9) k_fn_feederOf_9 fl_fn_153 rfl (Eq.trans rfl e7) ?_
        refine tr_areturn (pc := 12) k_fn_feederOf_12 rfl rfl ?_
        show mT g me_fn_joint (d + 7) 2 88 38 [some (vr 0 0), some (vi x1), some (vi x2), some (vi x3), some (vi x4), some (vi x5), some (vr 7 n3), none, none] [vr 6 n6] h1 _
        refine tr_astore (pc := 38) k_fn_joint_38 (by decide) rfl ?_
        show mT g me_fn_joint (d + 7) 2 88 40 [some (vr 0 0), some (vi x1), some (vi x2), some (vi x3), some (vi x4), some (vi x5), some (vr 7 n3), some (vr 6 n6), none] [] h1 _
        refine tr_aload (pc := 40) k_fn_joint_40 rfl ?_
        refine tr_ifnonnull (pc := 42) 51 k_fn_joint_42 (by decide) (fun q => by cases q) (fun _ _ _ => ?_)
        refine tr_iload_n (pc := 51) 3 k_fn_joint_51 rfl rfl ?_
        refine tr_if_lt (pc := 52) 67 k_fn_joint_52 (by decide) (fun q => ?_) (fun q => ?_)
        · replace hv := hv.1 q
          refine tr_aload_n (pc := 67) 0 k_fn_joint_67 rfl rfl ?_
          refine tr_bipush (pc := 68) (v := -4) k_fn_joint_68 (by decide) ?_
          have hT := hv
          clear hv
          refine tr_callV (pc := 70) (d' := d + 6) (mc' := 0) (ms' := 0) [vi (-4 : Int32)] k_fn_joint_70 ca_fn_refuse ml_fn_56 ii_fn_refuse ⟨by decide, rfl⟩ pa_fn_refuse (by omega) (by omega) (by omega) rfl (Nat.le_of_ble_eq_true rfl) (Nat.le_of_ble_eq_true rfl) hT (fun v h9 hv => ?_)
          clear hT
          obtain ⟨y9, rfl, hv⟩ := hv
          obtain ⟨h8, eh⟩ : ∃ z, z = h9 := ⟨_, rfl⟩
          subst eh
          obtain ⟨hskh8, hv⟩ := hv
          show mT g me_fn_joint (d + 7) 2 88 73 [some (vr 0 0), some (vi x1), some (vi x2), some (vi x3), some (vi x4), some (vi x5), some (vr 7 n3), some (vr 6 n6), none] [vi y9] h8 _
          refine tr_ireturn (pc := 73) k_fn_joint_73 rfl rfl ?_
          exact hv
        · replace hv := hv.2 q
          refine tr_iload (pc := 55) k_fn_joint_55 rfl ?_
          refine tr_iconst (pc := 57) (v := 1) k_fn_joint_57 (by decide) ?_
          refine tr_icmp_lt (pc := 58) 67 k_fn_joint_58 (by decide) (fun q => ?_) (fun q => ?_)
          · replace hv := hv.1 q
            refine tr_aload_n (pc := 67) 0 k_fn_joint_67 rfl rfl ?_
            refine tr_bipush (pc := 68) (v := -4) k_fn_joint_68 (by decide) ?_
            have hT := hv
            clear hv
            refine tr_callV (pc := 70) (d' := d + 6) (mc' := 0) (ms' := 0) [vi (-4 : Int32)] k_fn_joint_70 ca_fn_refuse ml_fn_56 ii_fn_refuse ⟨by decide, rfl⟩ pa_fn_refuse (by omega) (by omega) (by omega) rfl (Nat.le_of_ble_eq_true rfl) (Nat.le_of_ble_eq_true rfl) hT (fun v h9 hv => ?_)
            clear hT
            obtain ⟨y11, rfl, hv⟩ := hv
            obtain ⟨h10, eh⟩ : ∃ z, z = h9 := ⟨_, rfl⟩
            subst eh
            obtain ⟨hskh10, hv⟩ := hv
            show mT g me_fn_joint (d + 7) 2 88 73 [some (vr 0 0), some (vi x1), some (vi x2), some (vi x3), some (vi x4), some (vi x5), some (vr 7 n3), some (vr 6 n6), none] [vi y11] h10 _
            refine tr_ireturn (pc := 73) k_fn_joint_73 rfl rfl ?_
            exact hv
          · replace hv := hv.2 q
            refine tr_iload (pc := 61) k_fn_joint_61 rfl ?_
            refine tr_iconst (pc := 63) (v := 1) k_fn_joint_63 (by decide) ?_
            refine tr_icmp_ge (pc := 64) 74 k_fn_joint_64 (by decide) (fun q => ?_) (fun q => ?_)
            · replace hv := hv.1 q
              refine tr_aload_n (pc := 74) 0 k_fn_joint_74 rfl rfl ?_
              refine tr_getP (pc := 75) k_fn_joint_75 fl_fn_12 rfl (Eq.trans rfl (hskh1.1 0 0 _ rfl)) ?_
              refine tr_getP (pc := 78) k_fn_joint_78 fl_fn_97 rfl (Eq.trans rfl (hskh1.1 1 1 _ rfl)) ?_
              refine tr_callV (pc := 81) (d' := d + 6) (mc' := 0) (ms' := 0) [] k_fn_joint_81 ca_al_size ml_fn_63 ii_al_size ⟨by decide, rfl⟩ pa_al_size (by omega) (by omega) (by omega) rfl (Nat.le_of_ble_eq_true rfl) (Nat.le_of_ble_eq_true rfl) (Qk := fun v h9 => mT g me_fn_joint (d + 7) 2 88 84 [some (vr 0 0), some (vi x1), some (vi x2), some (vi x3), some (vi x4), some (vi x5), some (vr 7 n3), some (vr 6 n6), none] (v.toList ++ []) h9 _) ?_ (fun _ _ z => z)
              show mT g me_al_size (d + 6) 0 0 0 [some (vr 2 1)] [] h1 _
              refine tr_aload_n (pc := 0) 0 k_al_size_0 rfl rfl ?_
              refine tr_getIx (pc := 1) k_al_size_1 fl_al_48 rfl rfl ?_
              refine tr_ireturn (pc := 4) k_al_size_4 rfl rfl ?_
              show mT g me_fn_joint (d + 7) 2 88 84 [some (vr 0 0), some (vi x1), some (vi x2), some (vi x3), some (vi x4), some (vi x5), some (vr 7 n3), some (vr 6 n6), none] [vi (hI h1 2 1 1)] h1 _
              refine tr_istore (pc := 84) k_fn_joint_84 (by decide) rfl ?_
              show mT g me_fn_joint (d + 7) 2 88 86 [some (vr 0 0), some (vi x1), some (vi x2), some (vi x3), some (vi x4), some (vi x5), some (vr 7 n3), some (vr 6 n6), some (vi (hI h1 2 1 1))] [] h1 _
              refine tr_iload_n (pc := 86) 3 k_fn_joint_86 rfl rfl ?_
              refine tr_sipush (pc := 87) (v := 500) k_fn_joint_87 (by decide) ?_
              refine tr_icmp_gt (pc := 90) 115 k_fn_joint_90 (by decide) (fun q => ?_) (fun q => ?_)
              · replace hv := hv.1 q
                refine tr_aload_n (pc := 115) 0 k_fn_joint_115 rfl rfl ?_
                refine tr_bipush (pc := 116) (v := -6) k_fn_joint_116 (by decide) ?_
                have hT := hv
                clear hv
                refine tr_callV (pc := 118) (d' := d + 6) (mc' := 0) (ms' := 0) [vi (-6 : Int32)] k_fn_joint_118 ca_fn_refuse ml_fn_56 ii_fn_refuse ⟨by decide, rfl⟩ pa_fn_refuse (by omega) (by omega) (by omega) rfl (Nat.le_of_ble_eq_true rfl) (Nat.le_of_ble_eq_true rfl) hT (fun v h9 hv => ?_)
                clear hT
                obtain ⟨y13, rfl, hv⟩ := hv
                obtain ⟨h12, eh⟩ : ∃ z, z = h9 := ⟨_, rfl⟩
                subst eh
                obtain ⟨hskh12, hv⟩ := hv
                show mT g me_fn_joint (d + 7) 2 88 121 [some (vr 0 0), some (vi x1), some (vi x2), some (vi x3), some (vi x4), some (vi x5), some (vr 7 n3), some (vr 6 n6), some (vi (hI h1 2 1 1))] [vi y13] h12 _
                refine tr_ireturn (pc := 121) k_fn_joint_121 rfl rfl ?_
                exact hv
              · replace hv := hv.2 q
                refine tr_iload (pc := 93) k_fn_joint_93 rfl ?_
                refine tr_bipush (pc := 95) (v := 9) k_fn_joint_95 (by decide) ?_
                refine tr_icmp_gt (pc := 97) 115 k_fn_joint_97 (by decide) (fun q => ?_) (fun q => ?_)
                · replace hv := hv.1 q
                  refine tr_aload_n (pc := 115) 0 k_fn_joint_115 rfl rfl ?_
                  refine tr_bipush (pc := 116) (v := -6) k_fn_joint_116 (by decide) ?_
                  have hT := hv
                  clear hv
                  refine tr_callV (pc := 118) (d' := d + 6) (mc' := 0) (ms' := 0) [vi (-6 : Int32)] k_fn_joint_118 ca_fn_refuse ml_fn_56 ii_fn_refuse ⟨by decide, rfl⟩ pa_fn_refuse (by omega) (by omega) (by omega) rfl (Nat.le_of_ble_eq_true rfl) (Nat.le_of_ble_eq_true rfl) hT (fun v h9 hv => ?_)
                  clear hT
                  obtain ⟨y15, rfl, hv⟩ := hv
                  obtain ⟨h14, eh⟩ : ∃ z, z = h9 := ⟨_, rfl⟩
                  subst eh
                  obtain ⟨hskh14, hv⟩ := hv
                  show mT g me_fn_joint (d + 7) 2 88 121 [some (vr 0 0), some (vi x1), some (vi x2), some (vi x3), some (vi x4), some (vi x5), some (vr 7 n3), some (vr 6 n6), some (vi (hI h1 2 1 1))] [vi y15] h14 _
                  refine tr_ireturn (pc := 121) k_fn_joint_121 rfl rfl ?_
                  exact hv
                · replace hv := hv.2 q
                  refine tr_iload (pc := 100) k_fn_joint_100 rfl ?_
                  refine tr_sipush (pc := 102) (v := 200) k_fn_joint_102 (by decide) ?_
                  refine tr_icmp_gt (pc := 105) 115 k_fn_joint_105 (by decide) (fun q => ?_) (fun q => ?_)
                  · replace hv := hv.1 q
                    refine tr_aload_n (pc := 115) 0 k_fn_joint_115 rfl rfl ?_
                    refine tr_bipush (pc := 116) (v := -6) k_fn_joint_116 (by decide) ?_
                    have hT := hv
                    clear hv
                    refine tr_callV (pc := 118) (d' := d + 6) (mc' := 0) (ms' := 0) [vi (-6 : Int32)] k_fn_joint_118 ca_fn_refuse ml_fn_56 ii_fn_refuse ⟨by decide, rfl⟩ pa_fn_refuse (by omega) (by omega) (by omega) rfl (Nat.le_of_ble_eq_true rfl) (Nat.le_of_ble_eq_true rfl) hT (fun v h9 hv => ?_)
                    clear hT
                    obtain ⟨y17, rfl, hv⟩ := hv
                    obtain ⟨h16, eh⟩ : ∃ z, z = h9 := ⟨_, rfl⟩
                    subst eh
                    obtain ⟨hskh16, hv⟩ := hv
                    show mT g me_fn_joint (d + 7) 2 88 121 [some (vr 0 0), some (vi x1), some (vi x2), some (vi x3), some (vi x4), some (vi x5), some (vr 7 n3), some (vr 6 n6), some (vi (hI h1 2 1 1))] [vi y17] h16 _
                    refine tr_ireturn (pc := 121) k_fn_joint_121 rfl rfl ?_
                    exact hv
                  · replace hv := hv.2 q
                    refine tr_iload (pc := 108) k_fn_joint_108 rfl ?_
                    refine tr_bipush (pc := 110) (v := 30) k_fn_joint_110 (by decide) ?_
                    refine tr_icmp_lt (pc := 112) 122 k_fn_joint_112 (by decide) (fun q => ?_) (fun q => ?_)
                    · replace hv := hv.1 q
                      refine tr_aload (pc := 122) k_fn_joint_122 rfl ?_
                      refine tr_ifnull (pc := 124) 142 k_fn_joint_124 (by decide) (fun q => by cases q) (fun _ _ _ => ?_)
                      refine tr_aload (pc := 127) k_fn_joint_127 rfl ?_
                      refine tr_getIx (pc := 129) k_fn_joint_129 fl_fn_100 rfl rfl ?_
                      refine tr_if_eq (pc := 132) 142 k_fn_joint_132 (by decide) (fun q => ?_) (fun q => ?_)
                      · replace hv := hv.1 q
                        refine tr_aload_n (pc := 142) 0 k_fn_joint_142 rfl rfl ?_
                        refine tr_getP (pc := 143) k_fn_joint_143 fl_fn_12 rfl (Eq.trans rfl (hskh1.1 0 0 _ rfl)) ?_
                        refine tr_getP (pc := 146) k_fn_joint_146 fl_fn_97 rfl (Eq.trans rfl (hskh1.1 1 1 _ rfl)) ?_
                        refine tr_new (pc := 149) (k := 7) k_fn_joint_149 (by decide) rfl cl_fn_101 in_7 iz_7 ?_
                        show mT g me_fn_joint (d + 7) 1 74 152 [some (vr 0 0), some (vi x1), some (vi x2), some (vi x3), some (vi x4), some (vi x5), some (vr 7 n3), some (vr 6 n6), some (vi (hI h1 2 1 1))] [vr 7 (hC h1 7), vr 2 1] (newC h1 7 0) _
                        refine tr_dup (pc := 152) k_fn_joint_152 rfl ?_
                        refine tr_iload (pc := 153) k_fn_joint_153 rfl ?_
                        refine tr_aload (pc := 155) k_fn_joint_155 rfl ?_
                        refine tr_aload (pc := 157) k_fn_joint_157 rfl ?_
                        refine tr_iload_n (pc := 159) 3 k_fn_joint_159 rfl rfl ?_
                        refine tr_iload (pc := 160) k_fn_joint_160 rfl ?_
                        refine tr_iload (pc := 162) k_fn_joint_162 rfl ?_
                        refine tr_callI (pc := 164) (d' := d + 6) (mc' := 0) (ms' := 0) [vi (hI h1 2 1 1), vr 6 n6, vr 7 n3, vi x3, vi x4, vi x5] k_fn_joint_164 ca_jn_init ml_fn_106 ii_jn_init pa_jn_init (by omega) (by omega) (by omega) rfl (Nat.le_of_ble_eq_true rfl) (Nat.le_of_ble_eq_true rfl) (Qk := fun v h9 => mT g me_fn_joint (d + 7) 1 74 167 [some (vr 0 0), some (vi x1), some (vi x2), some (vi x3), some (vi x4), some (vi x5), some (vr 7 n3), some (vr 6 n6), some (vi (hI h1 2 1 1))] (v.toList ++ [vr 7 (hC h1 7), vr 2 1]) h9 _) ?_ (fun _ _ z => z)
                        show mT g me_jn_init (d + 6) 0 0 0 [some (vr 7 (hC h1 7)), some (vi (hI h1 2 1 1)), some (vr 6 n6), some (vr 7 n3), some (vi x3), some (vi x4), some (vi x5)] [] (newC h1 7 0) _
                        refine tr_aload_n (pc := 0) 0 k_jn_init_0 rfl rfl ?_
                        refine tr_obj (pc := 1) k_jn_init_1 ml_jn_1 (by omega) (Nat.le_of_ble_eq_true rfl) ?_
                        refine tr_aload_n (pc := 4) 0 k_jn_init_4 rfl rfl ?_
                        refine tr_iload_n (pc := 5) 1 k_jn_init_5 rfl rfl ?_
                        refine tr_putI (pc := 6) k_jn_init_6 fl_jn_7 (Or.inr ⟨rfl, rfl, rfl⟩) rfl ⟨rfl, rfl⟩ ?_
                        refine tr_aload_n (pc := 9) 0 k_jn_init_9 rfl rfl ?_
                        refine tr_aload_n (pc := 10) 2 k_jn_init_10 rfl rfl ?_
                        refine tr_putP (pc := 11) k_jn_init_11 fl_jn_13 (Or.inr ⟨rfl, rfl, rfl⟩) rfl ?_
                        refine tr_aload_n (pc := 14) 0 k_jn_init_14 rfl rfl ?_
                        refine tr_aload_n (pc := 15) 3 k_jn_init_15 rfl rfl ?_
                        refine tr_putP (pc := 16) k_jn_init_16 fl_jn_17 (Or.inr ⟨rfl, rfl, rfl⟩) rfl ?_
                        refine tr_aload_n (pc := 19) 0 k_jn_init_19 rfl rfl ?_
                        refine tr_iload (pc := 20) k_jn_init_20 rfl ?_
                        refine tr_putI (pc := 22) k_jn_init_22 fl_jn_21 (Or.inr ⟨rfl, rfl, rfl⟩) rfl ⟨rfl, rfl⟩ ?_
                        refine tr_aload_n (pc := 25) 0 k_jn_init_25 rfl rfl ?_
                        refine tr_iload (pc := 26) k_jn_init_26 rfl ?_
                        refine tr_putI (pc := 28) k_jn_init_28 fl_jn_24 (Or.inl rfl) rfl ⟨rfl, rfl⟩ ?_
                        refine tr_aload_n (pc := 31) 0 k_jn_init_31 rfl rfl ?_
                        refine tr_iload (pc := 32) k_jn_init_32 rfl ?_
                        refine tr_putI (pc := 34) k_jn_init_34 fl_jn_27 (Or.inr ⟨rfl, rfl, rfl⟩) rfl ⟨rfl, rfl⟩ ?_
                        refine tr_return (pc := 37) k_jn_init_37 rfl ?_
                        show mT g me_fn_joint (d + 7) 1 74 167 [some (vr 0 0), some (vi x1), some (vi x2), some (vi x3), some (vi x4), some (vi x5), some (vr 7 n3), some (vr 6 n6), some (vi (hI h1 2 1 1))] [vr 7 (hC h1 7), vr 2 1] (setI (setI (setI (setP (setP (setI (newC h1 7 0) 7 (hC h1 7) 0 (hI h1 2 1 1)) 7 (hC h1 7) 1 (some (6, n6))) 7 (hC h1 7) 2 (some (7, n3))) 7 (hC h1 7) 3 x3) 7 (hC h1 7) 5 x4) 7 (hC h1 7) 4 x5) _
                        have hT := hv
                        clear hv
                        refine tr_callV (pc := 167) (d' := d + 6) (mc' := 1) (ms' := 74) [vr 7 (hC h1 7)] k_fn_joint_167 ca_al_add ml_fn_72 ii_al_add ⟨by decide, rfl⟩ pa_al_add (by omega) (by omega) (by omega) rfl (Nat.le_of_ble_eq_true rfl) (Nat.le_of_ble_eq_true rfl) hT (fun v h9 hv => ?_)
                        clear hT
                        obtain ⟨y19, rfl, hv⟩ := hv
                        obtain ⟨h18, eh⟩ : ∃ z, z = h9 := ⟨_, rfl⟩
                        subst eh
                        obtain ⟨hskh18, hv⟩ := hv
                        show mT g me_fn_joint (d + 7) 0 0 170 [some (vr 0 0), some (vi x1), some (vi x2), some (vi x3), some (vi x4), some (vi x5), some (vr 7 n3), some (vr 6 n6), some (vi (hI h1 2 1 1))] [vi y19] h18 _
                        refine tr_pop (pc := 170) k_fn_joint_170 rfl ?_
                        refine tr_iload (pc := 171) k_fn_joint_171 rfl ?_
                        refine tr_ireturn (pc := 173) k_fn_joint_173 rfl rfl ?_
                        exact hv
                      · replace hv := hv.2 q
                        refine tr_aload_n (pc := 135) 0 k_fn_joint_135 rfl rfl ?_
                        refine tr_bipush (pc := 136) (v := -3) k_fn_joint_136 (by decide) ?_
                        have hT := hv
                        clear hv
                        refine tr_callV (pc := 138) (d' := d + 6) (mc' := 0) (ms' := 0) [vi (-3 : Int32)] k_fn_joint_138 ca_fn_refuse ml_fn_56 ii_fn_refuse ⟨by decide, rfl⟩ pa_fn_refuse (by omega) (by omega) (by omega) rfl (Nat.le_of_ble_eq_true rfl) (Nat.le_of_ble_eq_true rfl) hT (fun v h9 hv => ?_)
                        clear hT
                        obtain ⟨y21, rfl, hv⟩ := hv
                        obtain ⟨h20, eh⟩ : ∃ z, z = h9 := ⟨_, rfl⟩
                        subst eh
                        obtain ⟨hskh20, hv⟩ := hv
                        show mT g me_fn_joint (d + 7) 2 88 141 [some (vr 0 0), some (vi x1), some (vi x2), some (vi x3), some (vi x4), some (vi x5), some (vr 7 n3), some (vr 6 n6), some (vi (hI h1 2 1 1))] [vi y21] h20 _
                        refine tr_ireturn (pc := 141) k_fn_joint_141 rfl rfl ?_
                        exact hv
                    · replace hv := hv.2 q
                      refine tr_aload_n (pc := 115) 0 k_fn_joint_115 rfl rfl ?_
                      refine tr_bipush (pc := 116) (v := -6) k_fn_joint_116 (by decide) ?_
                      have hT := hv
                      clear hv
                      refine tr_callV (pc := 118) (d' := d + 6) (mc' := 0) (ms' := 0) [vi (-6 : Int32)] k_fn_joint_118 ca_fn_refuse ml_fn_56 ii_fn_refuse ⟨by decide, rfl⟩ pa_fn_refuse (by omega) (by omega) (by omega) rfl (Nat.le_of_ble_eq_true rfl) (Nat.le_of_ble_eq_true rfl) hT (fun v h9 hv => ?_)
                      clear hT
                      obtain ⟨y23, rfl, hv⟩ := hv
                      obtain ⟨h22, eh⟩ : ∃ z, z = h9 := ⟨_, rfl⟩
                      subst eh
                      obtain ⟨hskh22, hv⟩ := hv
                      show mT g me_fn_joint (d + 7) 2 88 121 [some (vr 0 0), some (vi x1), some (vi x2), some (vi x3), some (vi x4), some (vi x5), some (vr 7 n3), some (vr 6 n6), some (vi (hI h1 2 1 1))] [vi y23] h22 _
                      refine tr_ireturn (pc := 121) k_fn_joint_121 rfl rfl ?_
                      exact hv
            · replace hv := hv.2 q
              refine tr_aload_n (pc := 67) 0 k_fn_joint_67 rfl rfl ?_
              refine tr_bipush (pc := 68) (v := -4) k_fn_joint_68 (by decide) ?_
              have hT := hv
              clear hv
              refine tr_callV (pc := 70) (d' := d + 6) (mc' := 0) (ms' := 0) [vi (-4 : Int32)] k_fn_joint_70 ca_fn_refuse ml_fn_56 ii_fn_refuse ⟨by decide, rfl⟩ pa_fn_refuse (by omega) (by omega) (by omega) rfl (Nat.le_of_ble_eq_true rfl) (Nat.le_of_ble_eq_true rfl) hT (fun v h9 hv => ?_)
              clear hT
              obtain ⟨y25, rfl, hv⟩ := hv
              obtain ⟨h24, eh⟩ : ∃ z, z = h9 := ⟨_, rfl⟩
              subst eh
              obtain ⟨hskh24, hv⟩ := hv
              show mT g me_fn_joint (d + 7) 2 88 73 [some (vr 0 0), some (vi x1), some (vi x2), some (vi x3), some (vi x4), some (vi x5), some (vr 7 n3), some (vr 6 n6), none] [vi y25] h24 _
              refine tr_ireturn (pc := 73) k_fn_joint_73 rfl rfl ?_
              exact hv
    · replace hv := hv.2 q
      refine tr_aload_n (pc := 22) 0 k_fn_joint_22 rfl rfl ?_
      refine tr_getP (pc := 23) k_fn_joint_23 fl_fn_12 rfl (Eq.trans rfl (hskh1.1 0 0 _ rfl)) ?_
      refine tr_iload_n (pc := 26) 2 k_fn_joint_26 rfl rfl ?_
      have hT := hv
      clear hv
      refine tr_callV (pc := 27) (d' := d + 6) (mc' := 0) (ms' := 0) [vi x2] k_fn_joint_27 ca_ga_tankAt ml_fn_76 ii_ga_tankAt ⟨by decide, rfl⟩ pa_ga_tankAt (by omega) (by omega) (by omega) rfl (Nat.le_of_ble_eq_true rfl) (Nat.le_of_ble_eq_true rfl) hT (fun v h9 hv => ?_)
      clear hT
      obtain ⟨p27, rfl, hv⟩ := hv
      obtain ⟨h26, eh⟩ : ∃ z, z = h9 := ⟨_, rfl⟩
      subst eh
      obtain ⟨hskh26, hv⟩ := hv
      show mT g me_fn_joint (d + 7) 2 88 30 [some (vr 0 0), some (vi x1), some (vi x2), some (vi x3), some (vi x4), some (vi x5), some (vp p2), none, none] [vp p27] h26 _
      refine tr_goto (pc := 30) 38 k_fn_joint_30 (by decide) ?_
      refine tr_astore (pc := 38) k_fn_joint_38 (by decide) rfl ?_
      show mT g me_fn_joint (d + 7) 2 88 40 [some (vr 0 0), some (vi x1), some (vi x2), some (vi x3), some (vi x4), some (vi x5), some (vp p2), some (vp p27), none] [] h26 _
      refine tr_aload (pc := 40) k_fn_joint_40 rfl ?_
      rcases p27 with _ | ⟨kq, n28⟩
      · replace hv := hv.1 rfl
        refine tr_ifnonnull (pc := 42) 51 k_fn_joint_42 (by decide) (fun _ => ?_) (fun _ _ q => by cases q)
        refine tr_aload_n (pc := 45) 0 k_fn_joint_45 rfl rfl ?_
        refine tr_iconst (pc := 46) (v := -1) k_fn_joint_46 (by decide) ?_
        have hT := hv
        clear hv
        refine tr_callV (pc := 47) (d' := d + 6) (mc' := 0) (ms' := 0) [vi (-1 : Int32)] k_fn_joint_47 ca_fn_refuse ml_fn_56 ii_fn_refuse ⟨by decide, rfl⟩ pa_fn_refuse (by omega) (by omega) (by omega) rfl (Nat.le_of_ble_eq_true rfl) (Nat.le_of_ble_eq_true rfl) hT (fun v h9 hv => ?_)
        clear hT
        obtain ⟨y30, rfl, hv⟩ := hv
        obtain ⟨h29, eh⟩ : ∃ z, z = h9 := ⟨_, rfl⟩
        subst eh
        obtain ⟨hskh29, hv⟩ := hv
        show mT g me_fn_joint (d + 7) 2 88 50 [some (vr 0 0), some (vi x1), some (vi x2), some (vi x3), some (vi x4), some (vi x5), some (vp p2), some (vn), none] [vi y30] h29 _
        refine tr_ireturn (pc := 50) k_fn_joint_50 rfl rfl ?_
        exact hv
      · have hw := hv.2 kq n28 rfl
        clear hv
        obtain ⟨tq, hv⟩ := hw
        subst tq
        refine tr_ifnonnull (pc := 42) 51 k_fn_joint_42 (by decide) (fun q => by cases q) (fun _ _ _ => ?_)
        refine tr_iload_n (pc := 51) 3 k_fn_joint_51 rfl rfl ?_
        refine tr_if_lt (pc := 52) 67 k_fn_joint_52 (by decide) (fun q => ?_) (fun q => ?_)
        · replace hv := hv.1 q
          refine tr_aload_n (pc := 67) 0 k_fn_joint_67 rfl rfl ?_
          refine tr_bipush (pc := 68) (v := -4) k_fn_joint_68 (by decide) ?_
          have hT := hv
          clear hv
          refine tr_callV (pc := 70) (d' := d + 6) (mc' := 0) (ms' := 0) [vi (-4 : Int32)] k_fn_joint_70 ca_fn_refuse ml_fn_56 ii_fn_refuse ⟨by decide, rfl⟩ pa_fn_refuse (by omega) (by omega) (by omega) rfl (Nat.le_of_ble_eq_true rfl) (Nat.le_of_ble_eq_true rfl) hT (fun v h9 hv => ?_)
          clear hT
          obtain ⟨y32, rfl, hv⟩ := hv
          obtain ⟨h31, eh⟩ : ∃ z, z = h9 := ⟨_, rfl⟩
          subst eh
          obtain ⟨hskh31, hv⟩ := hv
          show mT g me_fn_joint (d + 7) 2 88 73 [some (vr 0 0), some (vi x1), some (vi x2), some (vi x3), some (vi x4), some (vi x5), some (vp p2), some (vr 6 n28), none] [vi y32] h31 _
          refine tr_ireturn (pc := 73) k_fn_joint_73 rfl rfl ?_
          exact hv
        · replace hv := hv.2 q
          refine tr_iload (pc := 55) k_fn_joint_55 rfl ?_
          refine tr_iconst (pc := 57) (v := 1) k_fn_joint_57 (by decide) ?_
          refine tr_icmp_lt (pc := 58) 67 k_fn_joint_58 (by decide) (fun q => ?_) (fun q => ?_)
          · replace hv := hv.1 q
            refine tr_aload_n (pc := 67) 0 k_fn_joint_67 rfl rfl ?_
            refine tr_bipush (pc := 68) (v := -4) k_fn_joint_68 (by decide) ?_
            have hT := hv
            clear hv
            refine tr_callV (pc := 70) (d' := d + 6) (mc' := 0) (ms' := 0) [vi (-4 : Int32)] k_fn_joint_70 ca_fn_refuse ml_fn_56 ii_fn_refuse ⟨by decide, rfl⟩ pa_fn_refuse (by omega) (by omega) (by omega) rfl (Nat.le_of_ble_eq_true rfl) (Nat.le_of_ble_eq_true rfl) hT (fun v h9 hv => ?_)
            clear hT
            obtain ⟨y34, rfl, hv⟩ := hv
            obtain ⟨h33, eh⟩ : ∃ z, z = h9 := ⟨_, rfl⟩
            subst eh
            obtain ⟨hskh33, hv⟩ := hv
            show mT g me_fn_joint (d + 7) 2 88 73 [some (vr 0 0), some (vi x1), some (vi x2), some (vi x3), some (vi x4), some (vi x5), some (vp p2), some (vr 6 n28), none] [vi y34] h33 _
            refine tr_ireturn (pc := 73) k_fn_joint_73 rfl rfl ?_
            exact hv
          · replace hv := hv.2 q
            refine tr_iload (pc := 61) k_fn_joint_61 rfl ?_
            refine tr_iconst (pc := 63) (v := 1) k_fn_joint_63 (by decide) ?_
            refine tr_icmp_ge (pc := 64) 74 k_fn_joint_64 (by decide) (fun q => ?_) (fun q => ?_)
            · replace hv := hv.1 q
              refine tr_aload_n (pc := 74) 0 k_fn_joint_74 rfl rfl ?_
              refine tr_getP (pc := 75) k_fn_joint_75 fl_fn_12 rfl (Eq.trans rfl (hskh26.1 0 0 _ rfl)) ?_
              refine tr_getP (pc := 78) k_fn_joint_78 fl_fn_97 rfl (Eq.trans rfl (hskh26.1 1 1 _ rfl)) ?_
              refine tr_callV (pc := 81) (d' := d + 6) (mc' := 0) (ms' := 0) [] k_fn_joint_81 ca_al_size ml_fn_63 ii_al_size ⟨by decide, rfl⟩ pa_al_size (by omega) (by omega) (by omega) rfl (Nat.le_of_ble_eq_true rfl) (Nat.le_of_ble_eq_true rfl) (Qk := fun v h9 => mT g me_fn_joint (d + 7) 2 88 84 [some (vr 0 0), some (vi x1), some (vi x2), some (vi x3), some (vi x4), some (vi x5), some (vp p2), some (vr 6 n28), none] (v.toList ++ []) h9 _) ?_ (fun _ _ z => z)
              show mT g me_al_size (d + 6) 0 0 0 [some (vr 2 1)] [] h26 _
              refine tr_aload_n (pc := 0) 0 k_al_size_0 rfl rfl ?_
              refine tr_getIx (pc := 1) k_al_size_1 fl_al_48 rfl rfl ?_
              refine tr_ireturn (pc := 4) k_al_size_4 rfl rfl ?_
              show mT g me_fn_joint (d + 7) 2 88 84 [some (vr 0 0), some (vi x1), some (vi x2), some (vi x3), some (vi x4), some (vi x5), some (vp p2), some (vr 6 n28), none] [vi (hI h26 2 1 1)] h26 _
              refine tr_istore (pc := 84) k_fn_joint_84 (by decide) rfl ?_
              show mT g me_fn_joint (d + 7) 2 88 86 [some (vr 0 0), some (vi x1), some (vi x2), some (vi x3), some (vi x4), some (vi x5), some (vp p2), some (vr 6 n28), some (vi (hI h26 2 1 1))] [] h26 _
              refine tr_iload_n (pc := 86) 3 k_fn_joint_86 rfl rfl ?_
              refine tr_sipush (pc := 87) (v := 500) k_fn_joint_87 (by decide) ?_
              refine tr_icmp_gt (pc := 90) 115 k_fn_joint_90 (by decide) (fun q => ?_) (fun q => ?_)
              · replace hv := hv.1 q
                refine tr_aload_n (pc := 115) 0 k_fn_joint_115 rfl rfl ?_
                refine tr_bipush (pc := 116) (v := -6) k_fn_joint_116 (by decide) ?_
                have hT := hv
                clear hv
                refine tr_callV (pc := 118) (d' := d + 6) (mc' := 0) (ms' := 0) [vi (-6 : Int32)] k_fn_joint_118 ca_fn_refuse ml_fn_56 ii_fn_refuse ⟨by decide, rfl⟩ pa_fn_refuse (by omega) (by omega) (by omega) rfl (Nat.le_of_ble_eq_true rfl) (Nat.le_of_ble_eq_true rfl) hT (fun v h9 hv => ?_)
                clear hT
                obtain ⟨y36, rfl, hv⟩ := hv
                obtain ⟨h35, eh⟩ : ∃ z, z = h9 := ⟨_, rfl⟩
                subst eh
                obtain ⟨hskh35, hv⟩ := hv
                show mT g me_fn_joint (d + 7) 2 88 121 [some (vr 0 0), some (vi x1), some (vi x2), some (vi x3), some (vi x4), some (vi x5), some (vp p2), some (vr 6 n28), some (vi (hI h26 2 1 1))] [vi y36] h35 _
                refine tr_ireturn (pc := 121) k_fn_joint_121 rfl rfl ?_
                exact hv
              · replace hv := hv.2 q
                refine tr_iload (pc := 93) k_fn_joint_93 rfl ?_
                refine tr_bipush (pc := 95) (v := 9) k_fn_joint_95 (by decide) ?_
                refine tr_icmp_gt (pc := 97) 115 k_fn_joint_97 (by decide) (fun q => ?_) (fun q => ?_)
                · replace hv := hv.1 q
                  refine tr_aload_n (pc := 115) 0 k_fn_joint_115 rfl rfl ?_
                  refine tr_bipush (pc := 116) (v := -6) k_fn_joint_116 (by decide) ?_
                  have hT := hv
                  clear hv
                  refine tr_callV (pc := 118) (d' := d + 6) (mc' := 0) (ms' := 0) [vi (-6 : Int32)] k_fn_joint_118 ca_fn_refuse ml_fn_56 ii_fn_refuse ⟨by decide, rfl⟩ pa_fn_refuse (by omega) (by omega) (by omega) rfl (Nat.le_of_ble_eq_true rfl) (Nat.le_of_ble_eq_true rfl) hT (fun v h9 hv => ?_)
                  clear hT
                  obtain ⟨y38, rfl, hv⟩ := hv
                  obtain ⟨h37, eh⟩ : ∃ z, z = h9 := ⟨_, rfl⟩
                  subst eh
                  obtain ⟨hskh37, hv⟩ := hv
                  show mT g me_fn_joint (d + 7) 2 88 121 [some (vr 0 0), some (vi x1), some (vi x2), some (vi x3), some (vi x4), some (vi x5), some (vp p2), some (vr 6 n28), some (vi (hI h26 2 1 1))] [vi y38] h37 _
                  refine tr_ireturn (pc := 121) k_fn_joint_121 rfl rfl ?_
                  exact hv
                · replace hv := hv.2 q
                  refine tr_iload (pc := 100) k_fn_joint_100 rfl ?_
                  refine tr_sipush (pc := 102) (v := 200) k_fn_joint_102 (by decide) ?_
                  refine tr_icmp_gt (pc := 105) 115 k_fn_joint_105 (by decide) (fun q => ?_) (fun q => ?_)
                  · replace hv := hv.1 q
                    refine tr_aload_n (pc := 115) 0 k_fn_joint_115 rfl rfl ?_
                    refine tr_bipush (pc := 116) (v := -6) k_fn_joint_116 (by decide) ?_
                    have hT := hv
                    clear hv
                    refine tr_callV (pc := 118) (d' := d + 6) (mc' := 0) (ms' := 0) [vi (-6 : Int32)] k_fn_joint_118 ca_fn_refuse ml_fn_56 ii_fn_refuse ⟨by decide, rfl⟩ pa_fn_refuse (by omega) (by omega) (by omega) rfl (Nat.le_of_ble_eq_true rfl) (Nat.le_of_ble_eq_true rfl) hT (fun v h9 hv => ?_)
                    clear hT
                    obtain ⟨y40, rfl, hv⟩ := hv
                    obtain ⟨h39, eh⟩ : ∃ z, z = h9 := ⟨_, rfl⟩
                    subst eh
                    obtain ⟨hskh39, hv⟩ := hv
                    show mT g me_fn_joint (d + 7) 2 88 121 [some (vr 0 0), some (vi x1), some (vi x2), some (vi x3), some (vi x4), some (vi x5), some (vp p2), some (vr 6 n28), some (vi (hI h26 2 1 1))] [vi y40] h39 _
                    refine tr_ireturn (pc := 121) k_fn_joint_121 rfl rfl ?_
                    exact hv
                  · replace hv := hv.2 q
                    refine tr_iload (pc := 108) k_fn_joint_108 rfl ?_
                    refine tr_bipush (pc := 110) (v := 30) k_fn_joint_110 (by decide) ?_
                    refine tr_icmp_lt (pc := 112) 122 k_fn_joint_112 (by decide) (fun q => ?_) (fun q => ?_)
                    · replace hv := hv.1 q
                      refine tr_aload (pc := 122) k_fn_joint_122 rfl ?_
                      rcases p2 with _ | ⟨kq, n41⟩
                      · replace hv := hv.1 rfl
                        refine tr_ifnull (pc := 124) 142 k_fn_joint_124 (by decide) (fun _ => ?_) (fun _ _ q => by cases q)
                        refine tr_aload_n (pc := 142) 0 k_fn_joint_142 rfl rfl ?_
                        refine tr_getP (pc := 143) k_fn_joint_143 fl_fn_12 rfl (Eq.trans rfl (hskh26.1 0 0 _ rfl)) ?_
                        refine tr_getP (pc := 146) k_fn_joint_146 fl_fn_97 rfl (Eq.trans rfl (hskh26.1 1 1 _ rfl)) ?_
                        refine tr_new (pc := 149) (k := 7) k_fn_joint_149 (by decide) rfl cl_fn_101 in_7 iz_7 ?_
                        show mT g me_fn_joint (d + 7) 1 74 152 [some (vr 0 0), some (vi x1), some (vi x2), some (vi x3), some (vi x4), some (vi x5), some (vn), some (vr 6 n28), some (vi (hI h26 2 1 1))] [vr 7 (hC h26 7), vr 2 1] (newC h26 7 0) _
                        refine tr_dup (pc := 152) k_fn_joint_152 rfl ?_
                        refine tr_iload (pc := 153) k_fn_joint_153 rfl ?_
                        refine tr_aload (pc := 155) k_fn_joint_155 rfl ?_
                        refine tr_aload (pc := 157) k_fn_joint_157 rfl ?_
                        refine tr_iload_n (pc := 159) 3 k_fn_joint_159 rfl rfl ?_
                        refine tr_iload (pc := 160) k_fn_joint_160 rfl ?_
                        refine tr_iload (pc := 162) k_fn_joint_162 rfl ?_
                        refine tr_callI (pc := 164) (d' := d + 6) (mc' := 0) (ms' := 0) [vi (hI h26 2 1 1), vr 6 n28, vn, vi x3, vi x4, vi x5] k_fn_joint_164 ca_jn_init ml_fn_106 ii_jn_init pa_jn_init (by omega) (by omega) (by omega) rfl (Nat.le_of_ble_eq_true rfl) (Nat.le_of_ble_eq_true rfl) (Qk := fun v h9 => mT g me_fn_joint (d + 7) 1 74 167 [some (vr 0 0), some (vi x1), some (vi x2), some (vi x3), some (vi x4), some (vi x5), some (vn), some (vr 6 n28), some (vi (hI h26 2 1 1))] (v.toList ++ [vr 7 (hC h26 7), vr 2 1]) h9 _) ?_ (fun _ _ z => z)
                        show mT g me_jn_init (d + 6) 0 0 0 [some (vr 7 (hC h26 7)), some (vi (hI h26 2 1 1)), some (vr 6 n28), some (vn), some (vi x3), some (vi x4), some (vi x5)] [] (newC h26 7 0) _
                        refine tr_aload_n (pc := 0) 0 k_jn_init_0 rfl rfl ?_
                        refine tr_obj (pc := 1) k_jn_init_1 ml_jn_1 (by omega) (Nat.le_of_ble_eq_true rfl) ?_
                        refine tr_aload_n (pc := 4) 0 k_jn_init_4 rfl rfl ?_
                        refine tr_iload_n (pc := 5) 1 k_jn_init_5 rfl rfl ?_
                        refine tr_putI (pc := 6) k_jn_init_6 fl_jn_7 (Or.inr ⟨rfl, rfl, rfl⟩) rfl ⟨rfl, rfl⟩ ?_
                        refine tr_aload_n (pc := 9) 0 k_jn_init_9 rfl rfl ?_
                        refine tr_aload_n (pc := 10) 2 k_jn_init_10 rfl rfl ?_
                        refine tr_putP (pc := 11) k_jn_init_11 fl_jn_13 (Or.inr ⟨rfl, rfl, rfl⟩) rfl ?_
                        refine tr_aload_n (pc := 14) 0 k_jn_init_14 rfl rfl ?_
                        refine tr_aload_n (pc := 15) 3 k_jn_init_15 rfl rfl ?_
                        refine tr_putP (pc := 16) k_jn_init_16 fl_jn_17 (Or.inr ⟨rfl, rfl, rfl⟩) rfl ?_
                        refine tr_aload_n (pc := 19) 0 k_jn_init_19 rfl rfl ?_
                        refine tr_iload (pc := 20) k_jn_init_20 rfl ?_
                        refine tr_putI (pc := 22) k_jn_init_22 fl_jn_21 (Or.inr ⟨rfl, rfl, rfl⟩) rfl ⟨rfl, rfl⟩ ?_
                        refine tr_aload_n (pc := 25) 0 k_jn_init_25 rfl rfl ?_
                        refine tr_iload (pc := 26) k_jn_init_26 rfl ?_
                        refine tr_putI (pc := 28) k_jn_init_28 fl_jn_24 (Or.inl rfl) rfl ⟨rfl, rfl⟩ ?_
                        refine tr_aload_n (pc := 31) 0 k_jn_init_31 rfl rfl ?_
                        refine tr_iload (pc := 32) k_jn_init_32 rfl ?_
                        refine tr_putI (pc := 34) k_jn_init_34 fl_jn_27 (Or.inr ⟨rfl, rfl, rfl⟩) rfl ⟨rfl, rfl⟩ ?_
                        refine tr_return (pc := 37) k_jn_init_37 rfl ?_
                        show mT g me_fn_joint (d + 7) 1 74 167 [some (vr 0 0), some (vi x1), some (vi x2), some (vi x3), some (vi x4), some (vi x5), some (vn), some (vr 6 n28), some (vi (hI h26 2 1 1))] [vr 7 (hC h26 7), vr 2 1] (setI (setI (setI (setP (setP (setI (newC h26 7 0) 7 (hC h26 7) 0 (hI h26 2 1 1)) 7 (hC h26 7) 1 (some (6, n28))) 7 (hC h26 7) 2 none) 7 (hC h26 7) 3 x3) 7 (hC h26 7) 5 x4) 7 (hC h26 7) 4 x5) _
                        have hT := hv
                        clear hv
                        refine tr_callV (pc := 167) (d' := d + 6) (mc' := 1) (ms' := 74) [vr 7 (hC h26 7)] k_fn_joint_167 ca_al_add ml_fn_72 ii_al_add ⟨by decide, rfl⟩ pa_al_add (by omega) (by omega) (by omega) rfl (Nat.le_of_ble_eq_true rfl) (Nat.le_of_ble_eq_true rfl) hT (fun v h9 hv => ?_)
                        clear hT
                        obtain ⟨y43, rfl, hv⟩ := hv
                        obtain ⟨h42, eh⟩ : ∃ z, z = h9 := ⟨_, rfl⟩
                        subst eh
                        obtain ⟨hskh42, hv⟩ := hv
                        show mT g me_fn_joint (d + 7) 0 0 170 [some (vr 0 0), some (vi x1), some (vi x2), some (vi x3), some (vi x4), some (vi x5), some (vn), some (vr 6 n28), some (vi (hI h26 2 1 1))] [vi y43] h42 _
                        refine tr_pop (pc := 170) k_fn_joint_170 rfl ?_
                        refine tr_iload (pc := 171) k_fn_joint_171 rfl ?_
                        refine tr_ireturn (pc := 173) k_fn_joint_173 rfl rfl ?_
                        exact hv
                      · have hw := hv.2 kq n41 rfl
                        clear hv
                        obtain ⟨tq, hv⟩ := hw
                        subst tq
                        refine tr_ifnull (pc := 124) 142 k_fn_joint_124 (by decide) (fun q => by cases q) (fun _ _ _ => ?_)
                        refine tr_aload (pc := 127) k_fn_joint_127 rfl ?_
                        refine tr_getIx (pc := 129) k_fn_joint_129 fl_fn_100 rfl rfl ?_
                        refine tr_if_eq (pc := 132) 142 k_fn_joint_132 (by decide) (fun q => ?_) (fun q => ?_)
                        · replace hv := hv.1 q
                          refine tr_aload_n (pc := 142) 0 k_fn_joint_142 rfl rfl ?_
                          refine tr_getP (pc := 143) k_fn_joint_143 fl_fn_12 rfl (Eq.trans rfl (hskh26.1 0 0 _ rfl)) ?_
                          refine tr_getP (pc := 146) k_fn_joint_146 fl_fn_97 rfl (Eq.trans rfl (hskh26.1 1 1 _ rfl)) ?_
                          refine tr_new (pc := 149) (k := 7) k_fn_joint_149 (by decide) rfl cl_fn_101 in_7 iz_7 ?_
                          show mT g me_fn_joint (d + 7) 1 74 152 [some (vr 0 0), some (vi x1), some (vi x2), some (vi x3), some (vi x4), some (vi x5), some (vr 7 n41), some (vr 6 n28), some (vi (hI h26 2 1 1))] [vr 7 (hC h26 7), vr 2 1] (newC h26 7 0) _
                          refine tr_dup (pc := 152) k_fn_joint_152 rfl ?_
                          refine tr_iload (pc := 153) k_fn_joint_153 rfl ?_
                          refine tr_aload (pc := 155) k_fn_joint_155 rfl ?_
                          refine tr_aload (pc := 157) k_fn_joint_157 rfl ?_
                          refine tr_iload_n (pc := 159) 3 k_fn_joint_159 rfl rfl ?_
                          refine tr_iload (pc := 160) k_fn_joint_160 rfl ?_
                          refine tr_iload (pc := 162) k_fn_joint_162 rfl ?_
                          refine tr_callI (pc := 164) (d' := d + 6) (mc' := 0) (ms' := 0) [vi (hI h26 2 1 1), vr 6 n28, vr 7 n41, vi x3, vi x4, vi x5] k_fn_joint_164 ca_jn_init ml_fn_106 ii_jn_init pa_jn_init (by omega) (by omega) (by omega) rfl (Nat.le_of_ble_eq_true rfl) (Nat.le_of_ble_eq_true rfl) (Qk := fun v h9 => mT g me_fn_joint (d + 7) 1 74 167 [some (vr 0 0), some (vi x1), some (vi x2), some (vi x3), some (vi x4), some (vi x5), some (vr 7 n41), some (vr 6 n28), some (vi (hI h26 2 1 1))] (v.toList ++ [vr 7 (hC h26 7), vr 2 1]) h9 _) ?_ (fun _ _ z => z)
                          show mT g me_jn_init (d + 6) 0 0 0 [some (vr 7 (hC h26 7)), some (vi (hI h26 2 1 1)), some (vr 6 n28), some (vr 7 n41), some (vi x3), some (vi x4), some (vi x5)] [] (newC h26 7 0) _
                          refine tr_aload_n (pc := 0) 0 k_jn_init_0 rfl rfl ?_
                          refine tr_obj (pc := 1) k_jn_init_1 ml_jn_1 (by omega) (Nat.le_of_ble_eq_true rfl) ?_
                          refine tr_aload_n (pc := 4) 0 k_jn_init_4 rfl rfl ?_
                          refine tr_iload_n (pc := 5) 1 k_jn_init_5 rfl rfl ?_
                          refine tr_putI (pc := 6) k_jn_init_6 fl_jn_7 (Or.inr ⟨rfl, rfl, rfl⟩) rfl ⟨rfl, rfl⟩ ?_
                          refine tr_aload_n (pc := 9) 0 k_jn_init_9 rfl rfl ?_
                          refine tr_aload_n (pc := 10) 2 k_jn_init_10 rfl rfl ?_
                          refine tr_putP (pc := 11) k_jn_init_11 fl_jn_13 (Or.inr ⟨rfl, rfl, rfl⟩) rfl ?_
                          refine tr_aload_n (pc := 14) 0 k_jn_init_14 rfl rfl ?_
                          refine tr_aload_n (pc := 15) 3 k_jn_init_15 rfl rfl ?_
                          refine tr_putP (pc := 16) k_jn_init_16 fl_jn_17 (Or.inr ⟨rfl, rfl, rfl⟩) rfl ?_
                          refine tr_aload_n (pc := 19) 0 k_jn_init_19 rfl rfl ?_
                          refine tr_iload (pc := 20) k_jn_init_20 rfl ?_
                          refine tr_putI (pc := 22) k_jn_init_22 fl_jn_21 (Or.inr ⟨rfl, rfl, rfl⟩) rfl ⟨rfl, rfl⟩ ?_
                          refine tr_aload_n (pc := 25) 0 k_jn_init_25 rfl rfl ?_
                          refine tr_iload (pc := 26) k_jn_init_26 rfl ?_
                          refine tr_putI (pc := 28) k_jn_init_28 fl_jn_24 (Or.inl rfl) rfl ⟨rfl, rfl⟩ ?_
                          refine tr_aload_n (pc := 31) 0 k_jn_init_31 rfl rfl ?_
                          refine tr_iload (pc := 32) k_jn_init_32 rfl ?_
                          refine tr_putI (pc := 34) k_jn_init_34 fl_jn_27 (Or.inr ⟨rfl, rfl, rfl⟩) rfl ⟨rfl, rfl⟩ ?_
                          refine tr_return (pc := 37) k_jn_init_37 rfl ?_
                          show mT g me_fn_joint (d + 7) 1 74 167 [some (vr 0 0), some (vi x1), some (vi x2), some (vi x3), some (vi x4), some (vi x5), some (vr 7 n41), some (vr 6 n28), some (vi (hI h26 2 1 1))] [vr 7 (hC h26 7), vr 2 1] (setI (setI (setI (setP (setP (setI (newC h26 7 0) 7 (hC h26 7) 0 (hI h26 2 1 1)) 7 (hC h26 7) 1 (some (6, n28))) 7 (hC h26 7) 2 (some (7, n41))) 7 (hC h26 7) 3 x3) 7 (hC h26 7) 5 x4) 7 (hC h26 7) 4 x5) _
                          have hT := hv
                          clear hv
                          refine tr_callV (pc := 167) (d' := d + 6) (mc' := 1) (ms' := 74) [vr 7 (hC h26 7)] k_fn_joint_167 ca_al_add ml_fn_72 ii_al_add ⟨by decide, rfl⟩ pa_al_add (by omega) (by omega) (by omega) rfl (Nat.le_of_ble_eq_true rfl) (Nat.le_of_ble_eq_true rfl) hT (fun v h9 hv => ?_)
                          clear hT
                          obtain ⟨y45, rfl, hv⟩ := hv
                          obtain ⟨h44, eh⟩ : ∃ z, z = h9 := ⟨_, rfl⟩
                          subst eh
                          obtain ⟨hskh44, hv⟩ := hv
                          show mT g me_fn_joint (d + 7) 0 0 170 [some (vr 0 0), some (vi x1), some (vi x2), some (vi x3), some (vi x4), some (vi x5), some (vr 7 n41), some (vr 6 n28), some (vi (hI h26 2 1 1))] [vi y45] h44 _
                          refine tr_pop (pc := 170) k_fn_joint_170 rfl ?_
                          refine tr_iload (pc := 171) k_fn_joint_171 rfl ?_
                          refine tr_ireturn (pc := 173) k_fn_joint_173 rfl rfl ?_
                          exact hv
                        · replace hv := hv.2 q
                          refine tr_aload_n (pc := 135) 0 k_fn_joint_135 rfl rfl ?_
                          refine tr_bipush (pc := 136) (v := -3) k_fn_joint_136 (by decide) ?_
                          have hT := hv
                          clear hv
                          refine tr_callV (pc := 138) (d' := d + 6) (mc' := 0) (ms' := 0) [vi (-3 : Int32)] k_fn_joint_138 ca_fn_refuse ml_fn_56 ii_fn_refuse ⟨by decide, rfl⟩ pa_fn_refuse (by omega) (by omega) (by omega) rfl (Nat.le_of_ble_eq_true rfl) (Nat.le_of_ble_eq_true rfl) hT (fun v h9 hv => ?_)
                          clear hT
                          obtain ⟨y47, rfl, hv⟩ := hv
                          obtain ⟨h46, eh⟩ : ∃ z, z = h9 := ⟨_, rfl⟩
                          subst eh
                          obtain ⟨hskh46, hv⟩ := hv
                          show mT g me_fn_joint (d + 7) 2 88 141 [some (vr 0 0), some (vi x1), some (vi x2), some (vi x3), some (vi x4), some (vi x5), some (vr 7 n41), some (vr 6 n28), some (vi (hI h26 2 1 1))] [vi y47] h46 _
                          refine tr_ireturn (pc := 141) k_fn_joint_141 rfl rfl ?_
                          exact hv
                    · replace hv := hv.2 q
                      refine tr_aload_n (pc := 115) 0 k_fn_joint_115 rfl rfl ?_
                      refine tr_bipush (pc := 116) (v := -6) k_fn_joint_116 (by decide) ?_
                      have hT := hv
                      clear hv
                      refine tr_callV (pc := 118) (d' := d + 6) (mc' := 0) (ms' := 0) [vi (-6 : Int32)] k_fn_joint_118 ca_fn_refuse ml_fn_56 ii_fn_refuse ⟨by decide, rfl⟩ pa_fn_refuse (by omega) (by omega) (by omega) rfl (Nat.le_of_ble_eq_true rfl) (Nat.le_of_ble_eq_true rfl) hT (fun v h9 hv => ?_)
                      clear hT
                      obtain ⟨y49, rfl, hv⟩ := hv
                      obtain ⟨h48, eh⟩ : ∃ z, z = h9 := ⟨_, rfl⟩
                      subst eh
                      obtain ⟨hskh48, hv⟩ := hv
                      show mT g me_fn_joint (d + 7) 2 88 121 [some (vr 0 0), some (vi x1), some (vi x2), some (vi x3), some (vi x4), some (vi x5), some (vp p2), some (vr 6 n28), some (vi (hI h26 2 1 1))] [vi y49] h48 _
                      refine tr_ireturn (pc := 121) k_fn_joint_121 rfl rfl ?_
                      exact hv
            · replace hv := hv.2 q
              refine tr_aload_n (pc := 67) 0 k_fn_joint_67 rfl rfl ?_
              refine tr_bipush (pc := 68) (v := -4) k_fn_joint_68 (by decide) ?_
              have hT := hv
              clear hv
              refine tr_callV (pc := 70) (d' := d + 6) (mc' := 0) (ms' := 0) [vi (-4 : Int32)] k_fn_joint_70 ca_fn_refuse ml_fn_56 ii_fn_refuse ⟨by decide, rfl⟩ pa_fn_refuse (by omega) (by omega) (by omega) rfl (Nat.le_of_ble_eq_true rfl) (Nat.le_of_ble_eq_true rfl) hT (fun v h9 hv => ?_)
              clear hT
              obtain ⟨y51, rfl, hv⟩ := hv
              obtain ⟨h50, eh⟩ : ∃ z, z = h9 := ⟨_, rfl⟩
              subst eh
              obtain ⟨hskh50, hv⟩ := hv
              show mT g me_fn_joint (d + 7) 2 88 73 [some (vr 0 0), some (vi x1), some (vi x2), some (vi x3), some (vi x4), some (vi x5), some (vp p2), some (vr 6 n28), none] [vi y51] h50 _
              refine tr_ireturn (pc := 73) k_fn_joint_73 rfl rfl ?_
              exact hv
  · replace hv := hv.2 q
    refine tr_null (pc := 4) k_fn_joint_4 ?_
    refine tr_goto (pc := 5) 16 k_fn_joint_5 (by decide) ?_
    refine tr_astore (pc := 16) k_fn_joint_16 (by decide) rfl ?_
    show mT g me_fn_joint (d + 7) 2 88 18 [some (vr 0 0), some (vi x1), some (vi x2), some (vi x3), some (vi x4), some (vi x5), some (vn), none, none] [] h _
    refine tr_iload_n (pc := 18) 1 k_fn_joint_18 rfl rfl ?_
    refine tr_if_eq (pc := 19) 33 k_fn_joint_19 (by decide) (fun q => ?_) (fun q => ?_)
    · replace hv := hv.1 q
      refine tr_aload (pc := 33) k_fn_joint_33 rfl ?_
      refine tr_callS (pc := 35) (d' := d + 6) (mc' := 0) (ms' := 0) [vn] k_fn_joint_35 ca_fn_feederOf ml_fn_93 is_fn_feederOf pa_fn_feederOf (by omega) (by omega) (by omega) rfl (Nat.le_of_ble_eq_true rfl) (Nat.le_of_ble_eq_true rfl) (Qk := fun v h9 => mT g me_fn_joint (d + 7) 2 88 38 [some (vr 0 0), some (vi x1), some (vi x2), some (vi x3), some (vi x4), some (vi x5), some (vn), none, none] (v.toList ++ []) h9 _) ?_ (fun _ _ z => z)
      show mT g me_fn_feederOf (d + 6) 0 0 0 [some (vn)] [] h _
      refine tr_aload_n (pc := 0) 0 k_fn_feederOf_0 rfl rfl ?_
      refine tr_ifnonnull (pc := 1) 8 k_fn_feederOf_1 (by decide) (fun _ => ?_) (fun _ _ q => by cases q)
      refine tr_null (pc := 4) k_fn_feederOf_4 ?_
      refine tr_goto (pc := 5) 12 k_fn_feederOf_5 (by decide) ?_
      refine tr_areturn (pc := 12) k_fn_feederOf_12 rfl rfl ?_
      show mT g me_fn_joint (d + 7) 2 88 38 [some (vr 0 0), some (vi x1), some (vi x2), some (vi x3), some (vi x4), some (vi x5), some (vn), none, none] [vn] h _
      refine tr_astore (pc := 38) k_fn_joint_38 (by decide) rfl ?_
      show mT g me_fn_joint (d + 7) 2 88 40 [some (vr 0 0), some (vi x1), some (vi x2), some (vi x3), some (vi x4), some (vi x5), some (vn), some (vn), none] [] h _
      refine tr_aload (pc := 40) k_fn_joint_40 rfl ?_
      refine tr_ifnonnull (pc := 42) 51 k_fn_joint_42 (by decide) (fun _ => ?_) (fun _ _ q => by cases q)
      refine tr_aload_n (pc := 45) 0 k_fn_joint_45 rfl rfl ?_
      refine tr_iconst (pc := 46) (v := -1) k_fn_joint_46 (by decide) ?_
      have hT := hv
      clear hv
      refine tr_callV (pc := 47) (d' := d + 6) (mc' := 0) (ms' := 0) [vi (-1 : Int32)] k_fn_joint_47 ca_fn_refuse ml_fn_56 ii_fn_refuse ⟨by decide, rfl⟩ pa_fn_refuse (by omega) (by omega) (by omega) rfl (Nat.le_of_ble_eq_true rfl) (Nat.le_of_ble_eq_true rfl) hT (fun v h9 hv => ?_)
      clear hT
      obtain ⟨y53, rfl, hv⟩ := hv
      obtain ⟨h52, eh⟩ : ∃ z, z = h9 := ⟨_, rfl⟩
      subst eh
      obtain ⟨hskh52, hv⟩ := hv
      show mT g me_fn_joint (d + 7) 2 88 50 [some (vr 0 0), some (vi x1), some (vi x2), some (vi x3), some (vi x4), some (vi x5), some (vn), some (vn), none] [vi y53] h52 _
      refine tr_ireturn (pc := 50) k_fn_joint_50 rfl rfl ?_
      exact hv
    · replace hv := hv.2 q
      refine tr_aload_n (pc := 22) 0 k_fn_joint_22 rfl rfl ?_
      refine tr_getP (pc := 23) k_fn_joint_23 fl_fn_12 rfl (Eq.trans rfl (hsk.1 0 0 _ rfl)) ?_
      refine tr_iload_n (pc := 26) 2 k_fn_joint_26 rfl rfl ?_
      have hT := hv
      clear hv
      refine tr_callV (pc := 27) (d' := d + 6) (mc' := 0) (ms' := 0) [vi x2] k_fn_joint_27 ca_ga_tankAt ml_fn_76 ii_ga_tankAt ⟨by decide, rfl⟩ pa_ga_tankAt (by omega) (by omega) (by omega) rfl (Nat.le_of_ble_eq_true rfl) (Nat.le_of_ble_eq_true rfl) hT (fun v h9 hv => ?_)
      clear hT
      obtain ⟨p55, rfl, hv⟩ := hv
      obtain ⟨h54, eh⟩ : ∃ z, z = h9 := ⟨_, rfl⟩
      subst eh
      obtain ⟨hskh54, hv⟩ := hv
      show mT g me_fn_joint (d + 7) 2 88 30 [some (vr 0 0), some (vi x1), some (vi x2), some (vi x3), some (vi x4), some (vi x5), some (vn), none, none] [vp p55] h54 _
      refine tr_goto (pc := 30) 38 k_fn_joint_30 (by decide) ?_
      refine tr_astore (pc := 38) k_fn_joint_38 (by decide) rfl ?_
      show mT g me_fn_joint (d + 7) 2 88 40 [some (vr 0 0), some (vi x1), some (vi x2), some (vi x3), some (vi x4), some (vi x5), some (vn), some (vp p55), none] [] h54 _
      refine tr_aload (pc := 40) k_fn_joint_40 rfl ?_
      rcases p55 with _ | ⟨kq, n56⟩
      · replace hv := hv.1 rfl
        refine tr_ifnonnull (pc := 42) 51 k_fn_joint_42 (by decide) (fun _ => ?_) (fun _ _ q => by cases q)
        refine tr_aload_n (pc := 45) 0 k_fn_joint_45 rfl rfl ?_
        refine tr_iconst (pc := 46) (v := -1) k_fn_joint_46 (by decide) ?_
        have hT := hv
        clear hv
        refine tr_callV (pc := 47) (d' := d + 6) (mc' := 0) (ms' := 0) [vi (-1 : Int32)] k_fn_joint_47 ca_fn_refuse ml_fn_56 ii_fn_refuse ⟨by decide, rfl⟩ pa_fn_refuse (by omega) (by omega) (by omega) rfl (Nat.le_of_ble_eq_true rfl) (Nat.le_of_ble_eq_true rfl) hT (fun v h9 hv => ?_)
        clear hT
        obtain ⟨y58, rfl, hv⟩ := hv
        obtain ⟨h57, eh⟩ : ∃ z, z = h9 := ⟨_, rfl⟩
        subst eh
        obtain ⟨hskh57, hv⟩ := hv
        show mT g me_fn_joint (d + 7) 2 88 50 [some (vr 0 0), some (vi x1), some (vi x2), some (vi x3), some (vi x4), some (vi x5), some (vn), some (vn), none] [vi y58] h57 _
        refine tr_ireturn (pc := 50) k_fn_joint_50 rfl rfl ?_
        exact hv
      · have hw := hv.2 kq n56 rfl
        clear hv
        obtain ⟨tq, hv⟩ := hw
        subst tq
        refine tr_ifnonnull (pc := 42) 51 k_fn_joint_42 (by decide) (fun q => by cases q) (fun _ _ _ => ?_)
        refine tr_iload_n (pc := 51) 3 k_fn_joint_51 rfl rfl ?_
        refine tr_if_lt (pc := 52) 67 k_fn_joint_52 (by decide) (fun q => ?_) (fun q => ?_)
        · replace hv := hv.1 q
          refine tr_aload_n (pc := 67) 0 k_fn_joint_67 rfl rfl ?_
          refine tr_bipush (pc := 68) (v := -4) k_fn_joint_68 (by decide) ?_
          have hT := hv
          clear hv
          refine tr_callV (pc := 70) (d' := d + 6) (mc' := 0) (ms' := 0) [vi (-4 : Int32)] k_fn_joint_70 ca_fn_refuse ml_fn_56 ii_fn_refuse ⟨by decide, rfl⟩ pa_fn_refuse (by omega) (by omega) (by omega) rfl (Nat.le_of_ble_eq_true rfl) (Nat.le_of_ble_eq_true rfl) hT (fun v h9 hv => ?_)
          clear hT
          obtain ⟨y60, rfl, hv⟩ := hv
          obtain ⟨h59, eh⟩ : ∃ z, z = h9 := ⟨_, rfl⟩
          subst eh
          obtain ⟨hskh59, hv⟩ := hv
          show mT g me_fn_joint (d + 7) 2 88 73 [some (vr 0 0), some (vi x1), some (vi x2), some (vi x3), some (vi x4), some (vi x5), some (vn), some (vr 6 n56), none] [vi y60] h59 _
          refine tr_ireturn (pc := 73) k_fn_joint_73 rfl rfl ?_
          exact hv
        · replace hv := hv.2 q
          refine tr_iload (pc := 55) k_fn_joint_55 rfl ?_
          refine tr_iconst (pc := 57) (v := 1) k_fn_joint_57 (by decide) ?_
          refine tr_icmp_lt (pc := 58) 67 k_fn_joint_58 (by decide) (fun q => ?_) (fun q => ?_)
          · replace hv := hv.1 q
            refine tr_aload_n (pc := 67) 0 k_fn_joint_67 rfl rfl ?_
            refine tr_bipush (pc := 68) (v := -4) k_fn_joint_68 (by decide) ?_
            have hT := hv
            clear hv
            refine tr_callV (pc := 70) (d' := d + 6) (mc' := 0) (ms' := 0) [vi (-4 : Int32)] k_fn_joint_70 ca_fn_refuse ml_fn_56 ii_fn_refuse ⟨by decide, rfl⟩ pa_fn_refuse (by omega) (by omega) (by omega) rfl (Nat.le_of_ble_eq_true rfl) (Nat.le_of_ble_eq_true rfl) hT (fun v h9 hv => ?_)
            clear hT
            obtain ⟨y62, rfl, hv⟩ := hv
            obtain ⟨h61, eh⟩ : ∃ z, z = h9 := ⟨_, rfl⟩
            subst eh
            obtain ⟨hskh61, hv⟩ := hv
            show mT g me_fn_joint (d + 7) 2 88 73 [some (vr 0 0), some (vi x1), some (vi x2), some (vi x3), some (vi x4), some (vi x5), some (vn), some (vr 6 n56), none] [vi y62] h61 _
            refine tr_ireturn (pc := 73) k_fn_joint_73 rfl rfl ?_
            exact hv
          · replace hv := hv.2 q
            refine tr_iload (pc := 61) k_fn_joint_61 rfl ?_
            refine tr_iconst (pc := 63) (v := 1) k_fn_joint_63 (by decide) ?_
            refine tr_icmp_ge (pc := 64) 74 k_fn_joint_64 (by decide) (fun q => ?_) (fun q => ?_)
            · replace hv := hv.1 q
              refine tr_aload_n (pc := 74) 0 k_fn_joint_74 rfl rfl ?_
              refine tr_getP (pc := 75) k_fn_joint_75 fl_fn_12 rfl (Eq.trans rfl (hskh54.1 0 0 _ rfl)) ?_
              refine tr_getP (pc := 78) k_fn_joint_78 fl_fn_97 rfl (Eq.trans rfl (hskh54.1 1 1 _ rfl)) ?_
              refine tr_callV (pc := 81) (d' := d + 6) (mc' := 0) (ms' := 0) [] k_fn_joint_81 ca_al_size ml_fn_63 ii_al_size ⟨by decide, rfl⟩ pa_al_size (by omega) (by omega) (by omega) rfl (Nat.le_of_ble_eq_true rfl) (Nat.le_of_ble_eq_true rfl) (Qk := fun v h9 => mT g me_fn_joint (d + 7) 2 88 84 [some (vr 0 0), some (vi x1), some (vi x2), some (vi x3), some (vi x4), some (vi x5), some (vn), some (vr 6 n56), none] (v.toList ++ []) h9 _) ?_ (fun _ _ z => z)
              show mT g me_al_size (d + 6) 0 0 0 [some (vr 2 1)] [] h54 _
              refine tr_aload_n (pc := 0) 0 k_al_size_0 rfl rfl ?_
              refine tr_getIx (pc := 1) k_al_size_1 fl_al_48 rfl rfl ?_
              refine tr_ireturn (pc := 4) k_al_size_4 rfl rfl ?_
              show mT g me_fn_joint (d + 7) 2 88 84 [some (vr 0 0), some (vi x1), some (vi x2), some (vi x3), some (vi x4), some (vi x5), some (vn), some (vr 6 n56), none] [vi (hI h54 2 1 1)] h54 _
              refine tr_istore (pc := 84) k_fn_joint_84 (by decide) rfl ?_
              show mT g me_fn_joint (d + 7) 2 88 86 [some (vr 0 0), some (vi x1), some (vi x2), some (vi x3), some (vi x4), some (vi x5), some (vn), some (vr 6 n56), some (vi (hI h54 2 1 1))] [] h54 _
              refine tr_iload_n (pc := 86) 3 k_fn_joint_86 rfl rfl ?_
              refine tr_sipush (pc := 87) (v := 500) k_fn_joint_87 (by decide) ?_
              refine tr_icmp_gt (pc := 90) 115 k_fn_joint_90 (by decide) (fun q => ?_) (fun q => ?_)
              · replace hv := hv.1 q
                refine tr_aload_n (pc := 115) 0 k_fn_joint_115 rfl rfl ?_
                refine tr_bipush (pc := 116) (v := -6) k_fn_joint_116 (by decide) ?_
                have hT := hv
                clear hv
                refine tr_callV (pc := 118) (d' := d + 6) (mc' := 0) (ms' := 0) [vi (-6 : Int32)] k_fn_joint_118 ca_fn_refuse ml_fn_56 ii_fn_refuse ⟨by decide, rfl⟩ pa_fn_refuse (by omega) (by omega) (by omega) rfl (Nat.le_of_ble_eq_true rfl) (Nat.le_of_ble_eq_true rfl) hT (fun v h9 hv => ?_)
                clear hT
                obtain ⟨y64, rfl, hv⟩ := hv
                obtain ⟨h63, eh⟩ : ∃ z, z = h9 := ⟨_, rfl⟩
                subst eh
                obtain ⟨hskh63, hv⟩ := hv
                show mT g me_fn_joint (d + 7) 2 88 121 [some (vr 0 0), some (vi x1), some (vi x2), some (vi x3), some (vi x4), some (vi x5), some (vn), some (vr 6 n56), some (vi (hI h54 2 1 1))] [vi y64] h63 _
                refine tr_ireturn (pc := 121) k_fn_joint_121 rfl rfl ?_
                exact hv
              · replace hv := hv.2 q
                refine tr_iload (pc := 93) k_fn_joint_93 rfl ?_
                refine tr_bipush (pc := 95) (v := 9) k_fn_joint_95 (by decide) ?_
                refine tr_icmp_gt (pc := 97) 115 k_fn_joint_97 (by decide) (fun q => ?_) (fun q => ?_)
                · replace hv := hv.1 q
                  refine tr_aload_n (pc := 115) 0 k_fn_joint_115 rfl rfl ?_
                  refine tr_bipush (pc := 116) (v := -6) k_fn_joint_116 (by decide) ?_
                  have hT := hv
                  clear hv
                  refine tr_callV (pc := 118) (d' := d + 6) (mc' := 0) (ms' := 0) [vi (-6 : Int32)] k_fn_joint_118 ca_fn_refuse ml_fn_56 ii_fn_refuse ⟨by decide, rfl⟩ pa_fn_refuse (by omega) (by omega) (by omega) rfl (Nat.le_of_ble_eq_true rfl) (Nat.le_of_ble_eq_true rfl) hT (fun v h9 hv => ?_)
                  clear hT
                  obtain ⟨y66, rfl, hv⟩ := hv
                  obtain ⟨h65, eh⟩ : ∃ z, z = h9 := ⟨_, rfl⟩
                  subst eh
                  obtain ⟨hskh65, hv⟩ := hv
                  show mT g me_fn_joint (d + 7) 2 88 121 [some (vr 0 0), some (vi x1), some (vi x2), some (vi x3), some (vi x4), some (vi x5), some (vn), some (vr 6 n56), some (vi (hI h54 2 1 1))] [vi y66] h65 _
                  refine tr_ireturn (pc := 121) k_fn_joint_121 rfl rfl ?_
                  exact hv
                · replace hv := hv.2 q
                  refine tr_iload (pc := 100) k_fn_joint_100 rfl ?_
                  refine tr_sipush (pc := 102) (v := 200) k_fn_joint_102 (by decide) ?_
                  refine tr_icmp_gt (pc := 105) 115 k_fn_joint_105 (by decide) (fun q => ?_) (fun q => ?_)
                  · replace hv := hv.1 q
                    refine tr_aload_n (pc := 115) 0 k_fn_joint_115 rfl rfl ?_
                    refine tr_bipush (pc := 116) (v := -6) k_fn_joint_116 (by decide) ?_
                    have hT := hv
                    clear hv
                    refine tr_callV (pc := 118) (d' := d + 6) (mc' := 0) (ms' := 0) [vi (-6 : Int32)] k_fn_joint_118 ca_fn_refuse ml_fn_56 ii_fn_refuse ⟨by decide, rfl⟩ pa_fn_refuse (by omega) (by omega) (by omega) rfl (Nat.le_of_ble_eq_true rfl) (Nat.le_of_ble_eq_true rfl) hT (fun v h9 hv => ?_)
                    clear hT
                    obtain ⟨y68, rfl, hv⟩ := hv
                    obtain ⟨h67, eh⟩ : ∃ z, z = h9 := ⟨_, rfl⟩
                    subst eh
                    obtain ⟨hskh67, hv⟩ := hv
                    show mT g me_fn_joint (d + 7) 2 88 121 [some (vr 0 0), some (vi x1), some (vi x2), some (vi x3), some (vi x4), some (vi x5), some (vn), some (vr 6 n56), some (vi (hI h54 2 1 1))] [vi y68] h67 _
                    refine tr_ireturn (pc := 121) k_fn_joint_121 rfl rfl ?_
                    exact hv
                  · replace hv := hv.2 q
                    refine tr_iload (pc := 108) k_fn_joint_108 rfl ?_
                    refine tr_bipush (pc := 110) (v := 30) k_fn_joint_110 (by decide) ?_
                    refine tr_icmp_lt (pc := 112) 122 k_fn_joint_112 (by decide) (fun q => ?_) (fun q => ?_)
                    · replace hv := hv.1 q
                      refine tr_aload (pc := 122) k_fn_joint_122 rfl ?_
                      refine tr_ifnull (pc := 124) 142 k_fn_joint_124 (by decide) (fun _ => ?_) (fun _ _ q => by cases q)
                      refine tr_aload_n (pc := 142) 0 k_fn_joint_142 rfl rfl ?_
                      refine tr_getP (pc := 143) k_fn_joint_143 fl_fn_12 rfl (Eq.trans rfl (hskh54.1 0 0 _ rfl)) ?_
                      refine tr_getP (pc := 146) k_fn_joint_146 fl_fn_97 rfl (Eq.trans rfl (hskh54.1 1 1 _ rfl)) ?_
                      refine tr_new (pc := 149) (k := 7) k_fn_joint_149 (by decide) rfl cl_fn_101 in_7 iz_7 ?_
                      show mT g me_fn_joint (d + 7) 1 74 152 [some (vr 0 0), some (vi x1), some (vi x2), some (vi x3), some (vi x4), some (vi x5), some (vn), some (vr 6 n56), some (vi (hI h54 2 1 1))] [vr 7 (hC h54 7), vr 2 1] (newC h54 7 0) _
                      refine tr_dup (pc := 152) k_fn_joint_152 rfl ?_
                      refine tr_iload (pc := 153) k_fn_joint_153 rfl ?_
                      refine tr_aload (pc := 155) k_fn_joint_155 rfl ?_
                      refine tr_aload (pc := 157) k_fn_joint_157 rfl ?_
                      refine tr_iload_n (pc := 159) 3 k_fn_joint_159 rfl rfl ?_
                      refine tr_iload (pc := 160) k_fn_joint_160 rfl ?_
                      refine tr_iload (pc := 162) k_fn_joint_162 rfl ?_
                      refine tr_callI (pc := 164) (d' := d + 6) (mc' := 0) (ms' := 0) [vi (hI h54 2 1 1), vr 6 n56, vn, vi x3, vi x4, vi x5] k_fn_joint_164 ca_jn_init ml_fn_106 ii_jn_init pa_jn_init (by omega) (by omega) (by omega) rfl (Nat.le_of_ble_eq_true rfl) (Nat.le_of_ble_eq_true rfl) (Qk := fun v h9 => mT g me_fn_joint (d + 7) 1 74 167 [some (vr 0 0), some (vi x1), some (vi x2), some (vi x3), some (vi x4), some (vi x5), some (vn), some (vr 6 n56), some (vi (hI h54 2 1 1))] (v.toList ++ [vr 7 (hC h54 7), vr 2 1]) h9 _) ?_ (fun _ _ z => z)
                      show mT g me_jn_init (d + 6) 0 0 0 [some (vr 7 (hC h54 7)), some (vi (hI h54 2 1 1)), some (vr 6 n56), some (vn), some (vi x3), some (vi x4), some (vi x5)] [] (newC h54 7 0) _
                      refine tr_aload_n (pc := 0) 0 k_jn_init_0 rfl rfl ?_
                      refine tr_obj (pc := 1) k_jn_init_1 ml_jn_1 (by omega) (Nat.le_of_ble_eq_true rfl) ?_
                      refine tr_aload_n (pc := 4) 0 k_jn_init_4 rfl rfl ?_
                      refine tr_iload_n (pc := 5) 1 k_jn_init_5 rfl rfl ?_
                      refine tr_putI (pc := 6) k_jn_init_6 fl_jn_7 (Or.inr ⟨rfl, rfl, rfl⟩) rfl ⟨rfl, rfl⟩ ?_
                      refine tr_aload_n (pc := 9) 0 k_jn_init_9 rfl rfl ?_
                      refine tr_aload_n (pc := 10) 2 k_jn_init_10 rfl rfl ?_
                      refine tr_putP (pc := 11) k_jn_init_11 fl_jn_13 (Or.inr ⟨rfl, rfl, rfl⟩) rfl ?_
                      refine tr_aload_n (pc := 14) 0 k_jn_init_14 rfl rfl ?_
                      refine tr_aload_n (pc := 15) 3 k_jn_init_15 rfl rfl ?_
                      refine tr_putP (pc := 16) k_jn_init_16 fl_jn_17 (Or.inr ⟨rfl, rfl, rfl⟩) rfl ?_
                      refine tr_aload_n (pc := 19) 0 k_jn_init_19 rfl rfl ?_
                      refine tr_iload (pc := 20) k_jn_init_20 rfl ?_
                      refine tr_putI (pc := 22) k_jn_init_22 fl_jn_21 (Or.inr ⟨rfl, rfl, rfl⟩) rfl ⟨rfl, rfl⟩ ?_
                      refine tr_aload_n (pc := 25) 0 k_jn_init_25 rfl rfl ?_
                      refine tr_iload (pc := 26) k_jn_init_26 rfl ?_
                      refine tr_putI (pc := 28) k_jn_init_28 fl_jn_24 (Or.inl rfl) rfl ⟨rfl, rfl⟩ ?_
                      refine tr_aload_n (pc := 31) 0 k_jn_init_31 rfl rfl ?_
                      refine tr_iload (pc := 32) k_jn_init_32 rfl ?_
                      refine tr_putI (pc := 34) k_jn_init_34 fl_jn_27 (Or.inr ⟨rfl, rfl, rfl⟩) rfl ⟨rfl, rfl⟩ ?_
                      refine tr_return (pc := 37) k_jn_init_37 rfl ?_
                      show mT g me_fn_joint (d + 7) 1 74 167 [some (vr 0 0), some (vi x1), some (vi x2), some (vi x3), some (vi x4), some (vi x5), some (vn), some (vr 6 n56), some (vi (hI h54 2 1 1))] [vr 7 (hC h54 7), vr 2 1] (setI (setI (setI (setP (setP (setI (newC h54 7 0) 7 (hC h54 7) 0 (hI h54 2 1 1)) 7 (hC h54 7) 1 (some (6, n56))) 7 (hC h54 7) 2 none) 7 (hC h54 7) 3 x3) 7 (hC h54 7) 5 x4) 7 (hC h54 7) 4 x5) _
                      have hT := hv
                      clear hv
                      refine tr_callV (pc := 167) (d' := d + 6) (mc' := 1) (ms' := 74) [vr 7 (hC h54 7)] k_fn_joint_167 ca_al_add ml_fn_72 ii_al_add ⟨by decide, rfl⟩ pa_al_add (by omega) (by omega) (by omega) rfl (Nat.le_of_ble_eq_true rfl) (Nat.le_of_ble_eq_true rfl) hT (fun v h9 hv => ?_)
                      clear hT
                      obtain ⟨y70, rfl, hv⟩ := hv
                      obtain ⟨h69, eh⟩ : ∃ z, z = h9 := ⟨_, rfl⟩
                      subst eh
                      obtain ⟨hskh69, hv⟩ := hv
                      show mT g me_fn_joint (d + 7) 0 0 170 [some (vr 0 0), some (vi x1), some (vi x2), some (vi x3), some (vi x4), some (vi x5), some (vn), some (vr 6 n56), some (vi (hI h54 2 1 1))] [vi y70] h69 _
                      refine tr_pop (pc := 170) k_fn_joint_170 rfl ?_
                      refine tr_iload (pc := 171) k_fn_joint_171 rfl ?_
                      refine tr_ireturn (pc := 173) k_fn_joint_173 rfl rfl ?_
                      exact hv
                    · replace hv := hv.2 q
                      refine tr_aload_n (pc := 115) 0 k_fn_joint_115 rfl rfl ?_
                      refine tr_bipush (pc := 116) (v := -6) k_fn_joint_116 (by decide) ?_
                      have hT := hv
                      clear hv
                      refine tr_callV (pc := 118) (d' := d + 6) (mc' := 0) (ms' := 0) [vi (-6 : Int32)] k_fn_joint_118 ca_fn_refuse ml_fn_56 ii_fn_refuse ⟨by decide, rfl⟩ pa_fn_refuse (by omega) (by omega) (by omega) rfl (Nat.le_of_ble_eq_true rfl) (Nat.le_of_ble_eq_true rfl) hT (fun v h9 hv => ?_)
                      clear hT
                      obtain ⟨y72, rfl, hv⟩ := hv
                      obtain ⟨h71, eh⟩ : ∃ z, z = h9 := ⟨_, rfl⟩
                      subst eh
                      obtain ⟨hskh71, hv⟩ := hv
                      show mT g me_fn_joint (d + 7) 2 88 121 [some (vr 0 0), some (vi x1), some (vi x2), some (vi x3), some (vi x4), some (vi x5), some (vn), some (vr 6 n56), some (vi (hI h54 2 1 1))] [vi y72] h71 _
                      refine tr_ireturn (pc := 121) k_fn_joint_121 rfl rfl ?_
                      exact hv
            · replace hv := hv.2 q
              refine tr_aload_n (pc := 67) 0 k_fn_joint_67 rfl rfl ?_
              refine tr_bipush (pc := 68) (v := -4) k_fn_joint_68 (by decide) ?_
              have hT := hv
              clear hv
              refine tr_callV (pc := 70) (d' := d + 6) (mc' := 0) (ms' := 0) [vi (-4 : Int32)] k_fn_joint_70 ca_fn_refuse ml_fn_56 ii_fn_refuse ⟨by decide, rfl⟩ pa_fn_refuse (by omega) (by omega) (by omega) rfl (Nat.le_of_ble_eq_true rfl) (Nat.le_of_ble_eq_true rfl) hT (fun v h9 hv => ?_)
              clear hT
              obtain ⟨y74, rfl, hv⟩ := hv
              obtain ⟨h73, eh⟩ : ∃ z, z = h9 := ⟨_, rfl⟩
              subst eh
              obtain ⟨hskh73, hv⟩ := hv
              show mT g me_fn_joint (d + 7) 2 88 73 [some (vr 0 0), some (vi x1), some (vi x2), some (vi x3), some (vi x4), some (vi x5), some (vn), some (vr 6 n56), none] [vi y74] h73 _
              refine tr_ireturn (pc := 73) k_fn_joint_73 rfl rfl ?_
              exact hv
theorem v_ga_jointAt_0 {g : mG} {d : Nat} (x1 : Int32) {h : mH} {Q : Option mV → mH → Prop} (hsk : mSK h) (hv : ((x1 < 0 → Q (some (vn)) h) ∧ (¬ x1 < 0 → (((hI h 2 1 1) ≤ x1 → Q (some (vn)) h) ∧ (¬ (hI h 2 1 1) ≤ x1 → (∃ n1, mGet h 1 x1 (some (7, n1)) ∧ Q (some (vr 7 n1)) h)))))) : mT g me_ga_jointAt (d + 4) 0 0 0 [some (vr 1 0), some (vi x1)] [] h Q := by
  refine tr_iload_n (pc := 0) 1 k_ga_jointAt_0 rfl rfl ?_
  refine tr_if_lt (pc := 1) 29 k_ga_jointAt_1 (by decide) (fun q => ?_) (fun q => ?_)
  · replace hv := hv.1 q
    refine tr_null (pc := 29) k_ga_jointAt_29 ?_
    refine tr_areturn (pc := 30) k_ga_jointAt_30 rfl rfl ?_
    exact hv
  · replace hv := hv.2 q
    refine tr_iload_n (pc := 4) 1 k_ga_jointAt_4 rfl rfl ?_
    refine tr_aload_n (pc := 5) 0 k_ga_jointAt_5 rfl rfl ?_
    refine tr_getP (pc := 6) k_ga_jointAt_6 fl_ga_18 rfl (Eq.trans rfl (hsk.1 1 1 _ rfl)) ?_
    refine tr_callV (pc := 9) (d' := d + 3) (mc' := 0) (ms' := 0) [] k_ga_jointAt_9 ca_al_size ml_ga_24 ii_al_size ⟨by decide, rfl⟩ pa_al_size (by omega) (by omega) (by omega) rfl (Nat.le_of_ble_eq_true rfl) (Nat.le_of_ble_eq_true rfl) (Qk := fun v h9 => mT g me_ga_jointAt (d + 4) 0 0 12 [some (vr 1 0), some (vi x1)] (v.toList ++ [vi x1]) h9 _) ?_ (fun _ _ z => z)
    show mT g me_al_size (d + 3) 0 0 0 [some (vr 2 1)] [] h _
    refine tr_aload_n (pc := 0) 0 k_al_size_0 rfl rfl ?_
    refine tr_getIx (pc := 1) k_al_size_1 fl_al_48 rfl rfl ?_
    refine tr_ireturn (pc := 4) k_al_size_4 rfl rfl ?_
    show mT g me_ga_jointAt (d + 4) 0 0 12 [some (vr 1 0), some (vi x1)] [vi (hI h 2 1 1), vi x1] h _
    refine tr_icmp_ge (pc := 12) 29 k_ga_jointAt_12 (by decide) (fun q => ?_) (fun q => ?_)
    · replace hv := hv.1 q
      refine tr_null (pc := 29) k_ga_jointAt_29 ?_
      refine tr_areturn (pc := 30) k_ga_jointAt_30 rfl rfl ?_
      exact hv
    · replace hv := hv.2 q
      refine tr_aload_n (pc := 15) 0 k_ga_jointAt_15 rfl rfl ?_
      refine tr_getP (pc := 16) k_ga_jointAt_16 fl_ga_18 rfl (Eq.trans rfl (hsk.1 1 1 _ rfl)) ?_
      refine tr_iload_n (pc := 19) 1 k_ga_jointAt_19 rfl rfl ?_
      obtain ⟨n1, hg, hv⟩ := hv
      refine tr_alget (pc := 20) k_ga_jointAt_20 ml_ga_28 (by omega) (Nat.le_of_ble_eq_true rfl) (mGet.up hg rfl rfl) ?_
      refine tr_cast (pc := 23) k_ga_jointAt_23 (by decide) cl_ga_34 ?_
      refine tr_goto (pc := 26) 30 k_ga_jointAt_26 (by decide) ?_
      refine tr_areturn (pc := 30) k_ga_jointAt_30 rfl rfl ?_
      exact hv
theorem v_fn_jet_0 {g : mG} {d : Nat} (x1 : Int32) (x2 : Int32) {h : mH} {Q : Option mV → mH → Prop} (hsk : mSK h) (hv : mT g me_ga_jointAt (d + 6) 0 0 0 [some (vr 1 0), some (vi x1)] [] h (fun v h1 => ∃ p2, v = some (vp p2) ∧ mSK h1 ∧ ((p2 = none → mT g me_fn_refuse (d + 6) 0 0 0 [some (vr 0 0), some (vi (-1 : Int32)), none] [] h1 (fun v h4 => ∃ y5, v = some (vi y5) ∧ mSK h4 ∧ Q (some (vi y5)) h4)) ∧ (∀ kq n3, p2 = some (kq, n3) → kq = 7 ∧ ((hP h1 7 n3 9 = none → (((1 : Int32) ≤ x2 → (((60 : Int32) < x2 → mT g me_fn_refuse (d + 6) 0 0 0 [some (vr 0 0), some (vi (-6 : Int32)), none] [] h1 (fun v h8 => ∃ y9, v = some (vi y9) ∧ mSK h8 ∧ Q (some (vi y9)) h8)) ∧ (¬ (60 : Int32) < x2 → (((hI h1 2 2 1) < (24 : Int32) → mT g me_al_add (d + 6) 1 74 0 [some (vr 2 2), some (vr 8 (hC h1 8))] [] (setP (setI (setI (setP (setI (setI (newC h1 8 0) 8 (hC h1 8) 0 (hI h1 2 2 1)) 8 (hC h1 8) 1 ((1 : Int32) <<< ((hI h1 2 2 1) &&& 31))) 8 (hC h1 8) 2 (some (7, n3))) 8 (hC h1 8) 3 x2) 8 (hC h1 8) 4 (-1 : Int32)) 7 n3 9 (some (8, (hC h1 8)))) (fun v h10 => ∃ y11, v = some (vi y11) ∧ mSK h10 ∧ Q (some (vi (hI h1 2 2 1))) h10)) ∧ (¬ (hI h1 2 2 1) < (24 : Int32) → mT g me_fn_refuse (d + 6) 0 0 0 [some (vr 0 0), some (vi (-6 : Int32)), none] [] h1 (fun v h12 => ∃ y13, v = some (vi y13) ∧ mSK h12 ∧ Q (some (vi y13)) h12)))))) ∧ (¬ (1 : Int32) ≤ x2 → mT g me_fn_refuse (d + 6) 0 0 0 [some (vr 0 0), some (vi (-4 : Int32)), none] [] h1 (fun v h14 => ∃ y15, v = some (vi y15) ∧ mSK h14 ∧ Q (some (vi y15)) h14)))) ∧ (∀ kq n6, hP h1 7 n3 9 = some (kq, n6) → kq = 8 ∧ mT g me_fn_refuse (d + 6) 0 0 0 [some (vr 0 0), some (vi (-3 : Int32)), none] [] h1 (fun v h16 => ∃ y17, v = some (vi y17) ∧ mSK h16 ∧ Q (some (vi y17)) h16))))))) : mT g me_fn_jet (d + 7) 2 79 0 [some (vr 0 0), some (vi x1), some (vi x2), none, none, none] [] h Q := by
  refine tr_aload_n (pc := 0) 0 k_fn_jet_0 rfl rfl ?_
  refine tr_getP (pc := 1) k_fn_jet_1 fl_fn_12 rfl (Eq.trans rfl (hsk.1 0 0 _ rfl)) ?_
  refine tr_iload_n (pc := 4) 1 k_fn_jet_4 rfl rfl ?_
  have hT := hv
  clear hv
  refine tr_callV (pc := 5) (d' := d + 6) (mc' := 0) (ms' := 0) [vi x1] k_fn_jet_5 ca_ga_jointAt ml_fn_89 ii_ga_jointAt ⟨by decide, rfl⟩ pa_ga_jointAt (by omega) (by omega) (by omega) rfl (Nat.le_of_ble_eq_true rfl) (Nat.le_of_ble_eq_true rfl) hT (fun v h9 hv => ?_)
  clear hT
  obtain ⟨p2, rfl, hv⟩ := hv
  obtain ⟨h1, eh⟩ : ∃ z, z = h9 := ⟨_, rfl⟩
  subst eh
  obtain ⟨hskh1, hv⟩ := hv
  show mT g me_fn_jet (d + 7) 2 79 8 [some (vr 0 0), some (vi x1), some (vi x2), none, none, none] [vp p2] h1 _
  refine tr_astore_n (pc := 8) 3 k_fn_jet_8 rfl (by decide) rfl ?_
  show mT g me_fn_jet (d + 7) 2 79 9 [some (vr 0 0), some (vi x1), some (vi x2), some (vp p2), none, none] [] h1 _
  refine tr_aload_n (pc := 9) 3 k_fn_jet_9 rfl rfl ?_
  rcases p2 with _ | ⟨kq, n3⟩
  · replace hv := hv.1 rfl
    refine tr_ifnonnull (pc := 10) 19 k_fn_jet_10 (by decide) (fun _ => ?_) (fun _ _ q => by cases q)
    refine tr_aload_n (pc := 13) 0 k_fn_jet_13 rfl rfl ?_
    refine tr_iconst (pc := 14) (v := -1) k_fn_jet_14 (by decide) ?_
    have hT := hv
    clear hv
    refine tr_callV (pc := 15) (d' := d + 6) (mc' := 0) (ms' := 0) [vi (-1 : Int32)] k_fn_jet_15 ca_fn_refuse ml_fn_56 ii_fn_refuse ⟨by decide, rfl⟩ pa_fn_refuse (by omega) (by omega) (by omega) rfl (Nat.le_of_ble_eq_true rfl) (Nat.le_of_ble_eq_true rfl) hT (fun v h9 hv => ?_)
    clear hT
    obtain ⟨y5, rfl, hv⟩ := hv
    obtain ⟨h4, eh⟩ : ∃ z, z = h9 := ⟨_, rfl⟩
    subst eh
    obtain ⟨hskh4, hv⟩ := hv
    show mT g me_fn_jet (d + 7) 2 79 18 [some (vr 0 0), some (vi x1), some (vi x2), some (vn), none, none] [vi y5] h4 _
    refine tr_ireturn (pc := 18) k_fn_jet_18 rfl rfl ?_
    exact hv
  · have hw := hv.2 kq n3 rfl
    clear hv
    obtain ⟨tq, hv⟩ := hw
    subst tq
    refine tr_ifnonnull (pc := 10) 19 k_fn_jet_10 (by decide) (fun q => by cases q) (fun _ _ _ => ?_)
    refine tr_aload_n (pc := 19) 3 k_fn_jet_19 rfl rfl ?_
    rcases e7 : hP h1 7 n3 9 with _ | ⟨kq, n6⟩
    · replace hv := hv.1 e7
      refine tr_getP (pc := 20) k_fn_jet_20 fl_fn_109 rfl (Eq.trans rfl e7) ?_
      refine tr_ifnull (pc := 23) 33 k_fn_jet_23 (by decide) (fun _ => ?_) (fun _ _ q => by cases q)
      refine tr_iload_n (pc := 33) 2 k_fn_jet_33 rfl rfl ?_
      refine tr_iconst (pc := 34) (v := 1) k_fn_jet_34 (by decide) ?_
      refine tr_icmp_ge (pc := 35) 45 k_fn_jet_35 (by decide) (fun q => ?_) (fun q => ?_)
      · replace hv := hv.1 q
        refine tr_aload_n (pc := 45) 0 k_fn_jet_45 rfl rfl ?_
        refine tr_getP (pc := 46) k_fn_jet_46 fl_fn_12 rfl (Eq.trans rfl (hskh1.1 0 0 _ rfl)) ?_
        refine tr_getP (pc := 49) k_fn_jet_49 fl_fn_113 rfl (Eq.trans rfl (hskh1.1 1 2 _ rfl)) ?_
        refine tr_callV (pc := 52) (d' := d + 6) (mc' := 0) (ms' := 0) [] k_fn_jet_52 ca_al_size ml_fn_63 ii_al_size ⟨by decide, rfl⟩ pa_al_size (by omega) (by omega) (by omega) rfl (Nat.le_of_ble_eq_true rfl) (Nat.le_of_ble_eq_true rfl) (Qk := fun v h9 => mT g me_fn_jet (d + 7) 2 79 55 [some (vr 0 0), some (vi x1), some (vi x2), some (vr 7 n3), none, none] (v.toList ++ []) h9 _) ?_ (fun _ _ z => z)
        show mT g me_al_size (d + 6) 0 0 0 [some (vr 2 2)] [] h1 _
        refine tr_aload_n (pc := 0) 0 k_al_size_0 rfl rfl ?_
        refine tr_getIx (pc := 1) k_al_size_1 fl_al_48 rfl rfl ?_
        refine tr_ireturn (pc := 4) k_al_size_4 rfl rfl ?_
        show mT g me_fn_jet (d + 7) 2 79 55 [some (vr 0 0), some (vi x1), some (vi x2), some (vr 7 n3), none, none] [vi (hI h1 2 2 1)] h1 _
        refine tr_istore (pc := 55) k_fn_jet_55 (by decide) rfl ?_
        show mT g me_fn_jet (d + 7) 2 79 57 [some (vr 0 0), some (vi x1), some (vi x2), some (vr 7 n3), some (vi (hI h1 2 2 1)), none] [] h1 _
        refine tr_iload_n (pc := 57) 2 k_fn_jet_57 rfl rfl ?_
        refine tr_bipush (pc := 58) (v := 60) k_fn_jet_58 (by decide) ?_
        refine tr_icmp_gt (pc := 60) 70 k_fn_jet_60 (by decide) (fun q => ?_) (fun q => ?_)
        · replace hv := hv.1 q
          refine tr_aload_n (pc := 70) 0 k_fn_jet_70 rfl rfl ?_
          refine tr_bipush (pc := 71) (v := -6) k_fn_jet_71 (by decide) ?_
          have hT := hv
          clear hv
          refine tr_callV (pc := 73) (d' := d + 6) (mc' := 0) (ms' := 0) [vi (-6 : Int32)] k_fn_jet_73 ca_fn_refuse ml_fn_56 ii_fn_refuse ⟨by decide, rfl⟩ pa_fn_refuse (by omega) (by omega) (by omega) rfl (Nat.le_of_ble_eq_true rfl) (Nat.le_of_ble_eq_true rfl) hT (fun v h9 hv => ?_)
          clear hT
          obtain ⟨y9, rfl, hv⟩ := hv
          obtain ⟨h8, eh⟩ : ∃ z, z = h9 := ⟨_, rfl⟩
          subst eh
          obtain ⟨hskh8, hv⟩ := hv
          show mT g me_fn_jet (d + 7) 2 79 76 [some (vr 0 0), some (vi x1), some (vi x2), some (vr 7 n3), some (vi (hI h1 2 2 1)), none] [vi y9] h8 _
          refine tr_ireturn (pc := 76) k_fn_jet_76 rfl rfl ?_
          exact hv
        · replace hv := hv.2 q
          refine tr_iload (pc := 63) k_fn_jet_63 rfl ?_
          refine tr_bipush (pc := 65) (v := 24) k_fn_jet_65 (by decide) ?_
          refine tr_icmp_lt (pc := 67) 77 k_fn_jet_67 (by decide) (fun q => ?_) (fun q => ?_)
          · replace hv := hv.1 q
            refine tr_new (pc := 77) (k := 8) k_fn_jet_77 (by decide) rfl cl_fn_116 in_8 iz_8 ?_
            show mT g me_fn_jet (d + 7) 1 74 80 [some (vr 0 0), some (vi x1), some (vi x2), some (vr 7 n3), some (vi (hI h1 2 2 1)), none] [vr 8 (hC h1 8)] (newC h1 8 0) _
            refine tr_dup (pc := 80) k_fn_jet_80 rfl ?_
            refine tr_iload (pc := 81) k_fn_jet_81 rfl ?_
            refine tr_aload_n (pc := 83) 3 k_fn_jet_83 rfl rfl ?_
            refine tr_iload_n (pc := 84) 2 k_fn_jet_84 rfl rfl ?_
            refine tr_callI (pc := 85) (d' := d + 6) (mc' := 0) (ms' := 0) [vi (hI h1 2 2 1), vr 7 n3, vi x2] k_fn_jet_85 ca_je_init ml_fn_118 ii_je_init pa_je_init (by omega) (by omega) (by omega) rfl (Nat.le_of_ble_eq_true rfl) (Nat.le_of_ble_eq_true rfl) (Qk := fun v h9 => mT g me_fn_jet (d + 7) 1 74 88 [some (vr 0 0), some (vi x1), some (vi x2), some (vr 7 n3), some (vi (hI h1 2 2 1)), none] (v.toList ++ [vr 8 (hC h1 8)]) h9 _) ?_ (fun _ _ z => z)
            show mT g me_je_init (d + 6) 0 0 0 [some (vr 8 (hC h1 8)), some (vi (hI h1 2 2 1)), some (vr 7 n3), some (vi x2)] [] (newC h1 8 0) _
            refine tr_aload_n (pc := 0) 0 k_je_init_0 rfl rfl ?_
            refine tr_obj (pc := 1) k_je_init_1 ml_je_1 (by omega) (Nat.le_of_ble_eq_true rfl) ?_
            refine tr_aload_n (pc := 4) 0 k_je_init_4 rfl rfl ?_
            refine tr_iload_n (pc := 5) 1 k_je_init_5 rfl rfl ?_
            refine tr_putI (pc := 6) k_je_init_6 fl_je_7 (Or.inr ⟨rfl, rfl, rfl⟩) rfl ⟨rfl, rfl⟩ ?_
            refine tr_aload_n (pc := 9) 0 k_je_init_9 rfl rfl ?_
            refine tr_iconst (pc := 10) (v := 1) k_je_init_10 (by decide) ?_
            refine tr_iload_n (pc := 11) 1 k_je_init_11 rfl rfl ?_
            refine tr_ishl (pc := 12) k_je_init_12 ?_
            refine tr_putI (pc := 13) k_je_init_13 fl_je_13 (Or.inr ⟨rfl, rfl, rfl⟩) rfl ⟨rfl, rfl⟩ ?_
            refine tr_aload_n (pc := 16) 0 k_je_init_16 rfl rfl ?_
            refine tr_aload_n (pc := 17) 2 k_je_init_17 rfl rfl ?_
            refine tr_putP (pc := 18) k_je_init_18 fl_je_16 (Or.inr ⟨rfl, rfl, rfl⟩) rfl ?_
            refine tr_aload_n (pc := 21) 0 k_je_init_21 rfl rfl ?_
            refine tr_iload_n (pc := 22) 3 k_je_init_22 rfl rfl ?_
            refine tr_putI (pc := 23) k_je_init_23 fl_je_20 (Or.inr ⟨rfl, rfl, rfl⟩) rfl ⟨rfl, rfl⟩ ?_
            refine tr_aload_n (pc := 26) 0 k_je_init_26 rfl rfl ?_
            refine tr_iconst (pc := 27) (v := -1) k_je_init_27 (by decide) ?_
            refine tr_putI (pc := 28) k_je_init_28 fl_je_23 (Or.inl rfl) rfl ⟨rfl, rfl⟩ ?_
            refine tr_return (pc := 31) k_je_init_31 rfl ?_
            show mT g me_fn_jet (d + 7) 1 74 88 [some (vr 0 0), some (vi x1), some (vi x2), some (vr 7 n3), some (vi (hI h1 2 2 1)), none] [vr 8 (hC h1 8)] (setI (setI (setP (setI (setI (newC h1 8 0) 8 (hC h1 8) 0 (hI h1 2 2 1)) 8 (hC h1 8) 1 ((1 : Int32) <<< ((hI h1 2 2 1) &&& 31))) 8 (hC h1 8) 2 (some (7, n3))) 8 (hC h1 8) 3 x2) 8 (hC h1 8) 4 (-1 : Int32)) _
            refine tr_astore (pc := 88) k_fn_jet_88 (by decide) rfl ?_
            show mT g me_fn_jet (d + 7) 1 74 90 [some (vr 0 0), some (vi x1), some (vi x2), some (vr 7 n3), some (vi (hI h1 2 2 1)), some (vr 8 (hC h1 8))] [] (setI (setI (setP (setI (setI (newC h1 8 0) 8 (hC h1 8) 0 (hI h1 2 2 1)) 8 (hC h1 8) 1 ((1 : Int32) <<< ((hI h1 2 2 1) &&& 31))) 8 (hC h1 8) 2 (some (7, n3))) 8 (hC h1 8) 3 x2) 8 (hC h1 8) 4 (-1 : Int32)) _
            refine tr_aload_n (pc := 90) 3 k_fn_jet_90 rfl rfl ?_
            refine tr_aload (pc := 91) k_fn_jet_91 rfl ?_
            refine tr_putP (pc := 93) k_fn_jet_93 fl_fn_109 (Or.inl rfl) rfl ?_
            refine tr_aload_n (pc := 96) 0 k_fn_jet_96 rfl rfl ?_
            refine tr_getP (pc := 97) k_fn_jet_97 fl_fn_12 rfl (Eq.trans (Eq.trans (hP_nk (by decide)) (Eq.trans (hP_setI) (Eq.trans (hP_setI) (Eq.trans (hP_nk (by decide)) (Eq.trans (hP_setI) (Eq.trans (hP_setI) (hP_newk (by decide)))))))) (hskh1.1 0 0 _ rfl)) ?_
            refine tr_getP (pc := 100) k_fn_jet_100 fl_fn_113 rfl (Eq.trans (Eq.trans (hP_nk (by decide)) (Eq.trans (hP_setI) (Eq.trans (hP_setI) (Eq.trans (hP_nk (by decide)) (Eq.trans (hP_setI) (Eq.trans (hP_setI) (hP_newk (by decide)))))))) (hskh1.1 1 2 _ rfl)) ?_
            refine tr_aload (pc := 103) k_fn_jet_103 rfl ?_
            have hT := hv
            clear hv
            refine tr_callV (pc := 105) (d' := d + 6) (mc' := 1) (ms' := 74) [vr 8 (hC h1 8)] k_fn_jet_105 ca_al_add ml_fn_72 ii_al_add ⟨by decide, rfl⟩ pa_al_add (by omega) (by omega) (by omega) rfl (Nat.le_of_ble_eq_true rfl) (Nat.le_of_ble_eq_true rfl) hT (fun v h9 hv => ?_)
            clear hT
            obtain ⟨y11, rfl, hv⟩ := hv
            obtain ⟨h10, eh⟩ : ∃ z, z = h9 := ⟨_, rfl⟩
            subst eh
            obtain ⟨hskh10, hv⟩ := hv
            show mT g me_fn_jet (d + 7) 0 0 108 [some (vr 0 0), some (vi x1), some (vi x2), some (vr 7 n3), some (vi (hI h1 2 2 1)), some (vr 8 (hC h1 8))] [vi y11] h10 _
            refine tr_pop (pc := 108) k_fn_jet_108 rfl ?_
            refine tr_iload (pc := 109) k_fn_jet_109 rfl ?_
            refine tr_ireturn (pc := 111) k_fn_jet_111 rfl rfl ?_
            exact hv
          · replace hv := hv.2 q
            refine tr_aload_n (pc := 70) 0 k_fn_jet_70 rfl rfl ?_
            refine tr_bipush (pc := 71) (v := -6) k_fn_jet_71 (by decide) ?_
            have hT := hv
            clear hv
            refine tr_callV (pc := 73) (d' := d + 6) (mc' := 0) (ms' := 0) [vi (-6 : Int32)] k_fn_jet_73 ca_fn_refuse ml_fn_56 ii_fn_refuse ⟨by decide, rfl⟩ pa_fn_refuse (by omega) (by omega) (by omega) rfl (Nat.le_of_ble_eq_true rfl) (Nat.le_of_ble_eq_true rfl) hT (fun v h9 hv => ?_)
            clear hT
            obtain ⟨y13, rfl, hv⟩ := hv
            obtain ⟨h12, eh⟩ : ∃ z, z = h9 := ⟨_, rfl⟩
            subst eh
            obtain ⟨hskh12, hv⟩ := hv
            show mT g me_fn_jet (d + 7) 2 79 76 [some (vr 0 0), some (vi x1), some (vi x2), some (vr 7 n3), some (vi (hI h1 2 2 1)), none] [vi y13] h12 _
            refine tr_ireturn (pc := 76) k_fn_jet_76 rfl rfl ?_
            exact hv
      · replace hv := hv.2 q
        refine tr_aload_n (pc := 38) 0 k_fn_jet_38 rfl rfl ?_
        refine tr_bipush (pc := 39) (v := -4) k_fn_jet_39 (by decide) ?_
        have hT := hv
        clear hv
        refine tr_callV (pc := 41) (d' := d + 6) (mc' := 0) (ms' := 0) [vi (-4 : Int32)] k_fn_jet_41 ca_fn_refuse ml_fn_56 ii_fn_refuse ⟨by decide, rfl⟩ pa_fn_refuse (by omega) (by omega) (by omega) rfl (Nat.le_of_ble_eq_true rfl) (Nat.le_of_ble_eq_true rfl) hT (fun v h9 hv => ?_)
        clear hT
        obtain ⟨y15, rfl, hv⟩ := hv
        obtain ⟨h14, eh⟩ : ∃ z, z = h9 := ⟨_, rfl⟩
        subst eh
        obtain ⟨hskh14, hv⟩ := hv
        show mT g me_fn_jet (d + 7) 2 79 44 [some (vr 0 0), some (vi x1), some (vi x2), some (vr 7 n3), none, none] [vi y15] h14 _
        refine tr_ireturn (pc := 44) k_fn_jet_44 rfl rfl ?_
        exact hv
    · have hw := hv.2 kq n6 e7
      clear hv
      obtain ⟨tq, hv⟩ := hw
      subst tq
      refine tr_getP (pc := 20) k_fn_jet_20 fl_fn_109 rfl (Eq.trans rfl e7) ?_
      refine tr_ifnull (pc := 23) 33 k_fn_jet_23 (by decide) (fun q => by cases q) (fun _ _ _ => ?_)
      refine tr_aload_n (pc := 26) 0 k_fn_jet_26 rfl rfl ?_
      refine tr_bipush (pc := 27) (v := -3) k_fn_jet_27 (by decide) ?_
      have hT := hv
      clear hv
      refine tr_callV (pc := 29) (d' := d + 6) (mc' := 0) (ms' := 0) [vi (-3 : Int32)] k_fn_jet_29 ca_fn_refuse ml_fn_56 ii_fn_refuse ⟨by decide, rfl⟩ pa_fn_refuse (by omega) (by omega) (by omega) rfl (Nat.le_of_ble_eq_true rfl) (Nat.le_of_ble_eq_true rfl) hT (fun v h9 hv => ?_)
      clear hT
      obtain ⟨y17, rfl, hv⟩ := hv
      obtain ⟨h16, eh⟩ : ∃ z, z = h9 := ⟨_, rfl⟩
      subst eh
      obtain ⟨hskh16, hv⟩ := hv
      show mT g me_fn_jet (d + 7) 2 79 32 [some (vr 0 0), some (vi x1), some (vi x2), some (vr 7 n3), none, none] [vi y17] h16 _
      refine tr_ireturn (pc := 32) k_fn_jet_32 rfl rfl ?_
      exact hv
theorem v_fn_play_0 {g : mG} {d : Nat} (x1 : Int32) (x2 : Int32) {h : mH} {Q : Option mV → mH → Prop} (hsk : mSK h) (hv : mT g me_ga_jetAt (d + 4) 0 0 0 [some (vr 1 0), some (vi x1)] [] h (fun v h1 => ∃ p2, v = some (vp p2) ∧ mSK h1 ∧ ((p2 = none → mT g me_fn_refuse (d + 4) 0 0 0 [some (vr 0 0), some (vi (-1 : Int32)), none] [] h1 (fun v h4 => ∃ y5, v = some (vi y5) ∧ mSK h4 ∧ Q (some (vi y5)) h4)) ∧ (∀ kq n3, p2 = some (kq, n3) → kq = 8 ∧ ((x2 = 0 → ((((hI h1 1 0 3) &&& (hI h1 8 n3 1)) = 0 → ((¬ (0 : Int32) = x2 → Q (some (vi (1 : Int32))) (setI h1 1 0 3 ((hI h1 1 0 3) ^^^ (hI h1 8 n3 1)))) ∧ ((0 : Int32) = x2 → Q (some (vi (0 : Int32))) h1))) ∧ (¬ ((hI h1 1 0 3) &&& (hI h1 8 n3 1)) = 0 → ((¬ (1 : Int32) = x2 → Q (some (vi (1 : Int32))) (setI h1 1 0 3 ((hI h1 1 0 3) ^^^ (hI h1 8 n3 1)))) ∧ ((1 : Int32) = x2 → Q (some (vi (0 : Int32))) h1))))) ∧ (¬ x2 = 0 → (∃ n6, hP h1 8 n3 2 = some (7, n6) ∧ (((hI h1 7 n6 8) = 0 → ((((hI h1 1 0 3) &&& (hI h1 8 n3 1)) = 0 → ((¬ (0 : Int32) = x2 → Q (some (vi (1 : Int32))) (setI h1 1 0 3 ((hI h1 1 0 3) ^^^ (hI h1 8 n3 1)))) ∧ ((0 : Int32) = x2 → Q (some (vi (0 : Int32))) h1))) ∧ (¬ ((hI h1 1 0 3) &&& (hI h1 8 n3 1)) = 0 → ((¬ (1 : Int32) = x2 → Q (some (vi (1 : Int32))) (setI h1 1 0 3 ((hI h1 1 0 3) ^^^ (hI h1 8 n3 1)))) ∧ ((1 : Int32) = x2 → Q (some (vi (0 : Int32))) h1))))) ∧ (¬ (hI h1 7 n6 8) = 0 → mT g me_fn_refuse (d + 4) 0 0 0 [some (vr 0 0), some (vi (-3 : Int32)), none] [] h1 (fun v h8 => ∃ y9, v = some (vi y9) ∧ mSK h8 ∧ Q (some (vi y9)) h8)))))))))) : mT g me_fn_play (d + 5) 0 0 0 [some (vr 0 0), some (vi x1), some (vi x2), none] [] h Q := by
  refine tr_aload_n (pc := 0) 0 k_fn_play_0 rfl rfl ?_
  refine tr_getP (pc := 1) k_fn_play_1 fl_fn_12 rfl (Eq.trans rfl (hsk.1 0 0 _ rfl)) ?_
  refine tr_iload_n (pc := 4) 1 k_fn_play_4 rfl rfl ?_
  have hT := hv
  clear hv
  refine tr_callV (pc := 5) (d' := d + 4) (mc' := 0) (ms' := 0) [vi x1] k_fn_play_5 ca_ga_jetAt ml_fn_121 ii_ga_jetAt ⟨by decide, rfl⟩ pa_ga_jetAt (by omega) (by omega) (by omega) rfl (Nat.le_of_ble_eq_true rfl) (Nat.le_of_ble_eq_true rfl) hT (fun v h9 hv => ?_)
  clear hT
  obtain ⟨p2, rfl, hv⟩ := hv
  obtain ⟨h1, eh⟩ : ∃ z, z = h9 := ⟨_, rfl⟩
  subst eh
  obtain ⟨hskh1, hv⟩ := hv
  show mT g me_fn_play (d + 5) 0 0 8 [some (vr 0 0), some (vi x1), some (vi x2), none] [vp p2] h1 _
  refine tr_astore_n (pc := 8) 3 k_fn_play_8 rfl (by decide) rfl ?_
  show mT g me_fn_play (d + 5) 0 0 9 [some (vr 0 0), some (vi x1), some (vi x2), some (vp p2)] [] h1 _
  refine tr_aload_n (pc := 9) 3 k_fn_play_9 rfl rfl ?_
  rcases p2 with _ | ⟨kq, n3⟩
  · replace hv := hv.1 rfl
    refine tr_ifnonnull (pc := 10) 19 k_fn_play_10 (by decide) (fun _ => ?_) (fun _ _ q => by cases q)
    refine tr_aload_n (pc := 13) 0 k_fn_play_13 rfl rfl ?_
    refine tr_iconst (pc := 14) (v := -1) k_fn_play_14 (by decide) ?_
    have hT := hv
    clear hv
    refine tr_callV (pc := 15) (d' := d + 4) (mc' := 0) (ms' := 0) [vi (-1 : Int32)] k_fn_play_15 ca_fn_refuse ml_fn_56 ii_fn_refuse ⟨by decide, rfl⟩ pa_fn_refuse (by omega) (by omega) (by omega) rfl (Nat.le_of_ble_eq_true rfl) (Nat.le_of_ble_eq_true rfl) hT (fun v h9 hv => ?_)
    clear hT
    obtain ⟨y5, rfl, hv⟩ := hv
    obtain ⟨h4, eh⟩ : ∃ z, z = h9 := ⟨_, rfl⟩
    subst eh
    obtain ⟨hskh4, hv⟩ := hv
    show mT g me_fn_play (d + 5) 0 0 18 [some (vr 0 0), some (vi x1), some (vi x2), some (vn)] [vi y5] h4 _
    refine tr_ireturn (pc := 18) k_fn_play_18 rfl rfl ?_
    exact hv
  · have hw := hv.2 kq n3 rfl
    clear hv
    obtain ⟨tq, hv⟩ := hw
    subst tq
    refine tr_ifnonnull (pc := 10) 19 k_fn_play_10 (by decide) (fun q => by cases q) (fun _ _ _ => ?_)
    refine tr_iload_n (pc := 19) 2 k_fn_play_19 rfl rfl ?_
    refine tr_if_eq (pc := 20) 40 k_fn_play_20 (by decide) (fun q => ?_) (fun q => ?_)
    · replace hv := hv.1 q
      refine tr_aload_n (pc := 40) 3 k_fn_play_40 rfl rfl ?_
      refine tr_aload_n (pc := 41) 0 k_fn_play_41 rfl rfl ?_
      refine tr_getP (pc := 42) k_fn_play_42 fl_fn_12 rfl (Eq.trans rfl (hskh1.1 0 0 _ rfl)) ?_
      refine tr_getIx (pc := 45) k_fn_play_45 fl_fn_129 rfl rfl ?_
      refine tr_callV (pc := 48) (d' := d + 4) (mc' := 0) (ms' := 0) [vi (hI h1 1 0 3)] k_fn_play_48 ca_je_isIn ml_fn_132 ii_je_isIn ⟨by decide, rfl⟩ pa_je_isIn (by omega) (by omega) (by omega) rfl (Nat.le_of_ble_eq_true rfl) (Nat.le_of_ble_eq_true rfl) (Qk := fun v h9 => mT g me_fn_play (d + 5) 0 0 51 [some (vr 0 0), some (vi x1), some (vi x2), some (vr 8 n3)] (v.toList ++ []) h9 _) ?_ (fun _ _ z => z)
      show mT g me_je_isIn (d + 4) 0 0 0 [some (vr 8 n3), some (vi (hI h1 1 0 3))] [] h1 _
      refine tr_iload_n (pc := 0) 1 k_je_isIn_0 rfl rfl ?_
      refine tr_aload_n (pc := 1) 0 k_je_isIn_1 rfl rfl ?_
      refine tr_getIx (pc := 2) k_je_isIn_2 fl_je_13 rfl rfl ?_
      refine tr_iand (pc := 5) k_je_isIn_5 ?_
      refine tr_if_eq (pc := 6) 13 k_je_isIn_6 (by decide) (fun q => ?_) (fun q => ?_)
      · replace hv := hv.1 q
        refine tr_iconst (pc := 13) (v := 0) k_je_isIn_13 (by decide) ?_
        refine tr_ireturn (pc := 14) k_je_isIn_14 rfl rfl ?_
        show mT g me_fn_play (d + 5) 0 0 51 [some (vr 0 0), some (vi x1), some (vi x2), some (vr 8 n3)] [vi (0 : Int32)] h1 _
        refine tr_iload_n (pc := 51) 2 k_fn_play_51 rfl rfl ?_
        refine tr_icmp_ne (pc := 52) 57 k_fn_play_52 (by decide) (fun q => ?_) (fun q => ?_)
        · replace hv := hv.1 q
          refine tr_aload_n (pc := 57) 0 k_fn_play_57 rfl rfl ?_
          refine tr_getP (pc := 58) k_fn_play_58 fl_fn_12 rfl (Eq.trans rfl (hskh1.1 0 0 _ rfl)) ?_
          refine tr_dup (pc := 61) k_fn_play_61 rfl ?_
          refine tr_getIx (pc := 62) k_fn_play_62 fl_fn_129 rfl rfl ?_
          refine tr_aload_n (pc := 65) 3 k_fn_play_65 rfl rfl ?_
          refine tr_getIx (pc := 66) k_fn_play_66 fl_fn_136 rfl rfl ?_
          refine tr_ixor (pc := 69) k_fn_play_69 ?_
          refine tr_putI (pc := 70) k_fn_play_70 fl_fn_129 (Or.inl rfl) rfl ⟨rfl, rfl⟩ ?_
          refine tr_iconst (pc := 73) (v := 1) k_fn_play_73 (by decide) ?_
          refine tr_ireturn (pc := 74) k_fn_play_74 rfl rfl ?_
          exact hv
        · replace hv := hv.2 q
          refine tr_iconst (pc := 55) (v := 0) k_fn_play_55 (by decide) ?_
          refine tr_ireturn (pc := 56) k_fn_play_56 rfl rfl ?_
          exact hv
      · replace hv := hv.2 q
        refine tr_iconst (pc := 9) (v := 1) k_je_isIn_9 (by decide) ?_
        refine tr_goto (pc := 10) 14 k_je_isIn_10 (by decide) ?_
        refine tr_ireturn (pc := 14) k_je_isIn_14 rfl rfl ?_
        show mT g me_fn_play (d + 5) 0 0 51 [some (vr 0 0), some (vi x1), some (vi x2), some (vr 8 n3)] [vi (1 : Int32)] h1 _
        refine tr_iload_n (pc := 51) 2 k_fn_play_51 rfl rfl ?_
        refine tr_icmp_ne (pc := 52) 57 k_fn_play_52 (by decide) (fun q => ?_) (fun q => ?_)
        · replace hv := hv.1 q
          refine tr_aload_n (pc := 57) 0 k_fn_play_57 rfl rfl ?_
          refine tr_getP (pc := 58) k_fn_play_58 fl_fn_12 rfl (Eq.trans rfl (hskh1.1 0 0 _ rfl)) ?_
          refine tr_dup (pc := 61) k_fn_play_61 rfl ?_
          refine tr_getIx (pc := 62) k_fn_play_62 fl_fn_129 rfl rfl ?_
          refine tr_aload_n (pc := 65) 3 k_fn_play_65 rfl rfl ?_
          refine tr_getIx (pc := 66) k_fn_play_66 fl_fn_136 rfl rfl ?_
          refine tr_ixor (pc := 69) k_fn_play_69 ?_
          refine tr_putI (pc := 70) k_fn_play_70 fl_fn_129 (Or.inl rfl) rfl ⟨rfl, rfl⟩ ?_
          refine tr_iconst (pc := 73) (v := 1) k_fn_play_73 (by decide) ?_
          refine tr_ireturn (pc := 74) k_fn_play_74 rfl rfl ?_
          exact hv
        · replace hv := hv.2 q
          refine tr_iconst (pc := 55) (v := 0) k_fn_play_55 (by decide) ?_
          refine tr_ireturn (pc := 56) k_fn_play_56 rfl rfl ?_
          exact hv
    · replace hv := hv.2 q
      refine tr_aload_n (pc := 23) 3 k_fn_play_23 rfl rfl ?_
      obtain ⟨n6, e7, hv⟩ := hv
      refine tr_getP (pc := 24) k_fn_play_24 fl_fn_125 rfl (Eq.trans rfl e7) ?_
      refine tr_getIx (pc := 27) k_fn_play_27 fl_fn_100 rfl rfl ?_
      refine tr_if_eq (pc := 30) 40 k_fn_play_30 (by decide) (fun q => ?_) (fun q => ?_)
      · replace hv := hv.1 q
        refine tr_aload_n (pc := 40) 3 k_fn_play_40 rfl rfl ?_
        refine tr_aload_n (pc := 41) 0 k_fn_play_41 rfl rfl ?_
        refine tr_getP (pc := 42) k_fn_play_42 fl_fn_12 rfl (Eq.trans rfl (hskh1.1 0 0 _ rfl)) ?_
        refine tr_getIx (pc := 45) k_fn_play_45 fl_fn_129 rfl rfl ?_
        refine tr_callV (pc := 48) (d' := d + 4) (mc' := 0) (ms' := 0) [vi (hI h1 1 0 3)] k_fn_play_48 ca_je_isIn ml_fn_132 ii_je_isIn ⟨by decide, rfl⟩ pa_je_isIn (by omega) (by omega) (by omega) rfl (Nat.le_of_ble_eq_true rfl) (Nat.le_of_ble_eq_true rfl) (Qk := fun v h9 => mT g me_fn_play (d + 5) 0 0 51 [some (vr 0 0), some (vi x1), some (vi x2), some (vr 8 n3)] (v.toList ++ []) h9 _) ?_ (fun _ _ z => z)
        show mT g me_je_isIn (d + 4) 0 0 0 [some (vr 8 n3), some (vi (hI h1 1 0 3))] [] h1 _
        refine tr_iload_n (pc := 0) 1 k_je_isIn_0 rfl rfl ?_
        refine tr_aload_n (pc := 1) 0 k_je_isIn_1 rfl rfl ?_
        refine tr_getIx (pc := 2) k_je_isIn_2 fl_je_13 rfl rfl ?_
        refine tr_iand (pc := 5) k_je_isIn_5 ?_
        refine tr_if_eq (pc := 6) 13 k_je_isIn_6 (by decide) (fun q => ?_) (fun q => ?_)
        · replace hv := hv.1 q
          refine tr_iconst (pc := 13) (v := 0) k_je_isIn_13 (by decide) ?_
          refine tr_ireturn (pc := 14) k_je_isIn_14 rfl rfl ?_
          show mT g me_fn_play (d + 5) 0 0 51 [some (vr 0 0), some (vi x1), some (vi x2), some (vr 8 n3)] [vi (0 : Int32)] h1 _
          refine tr_iload_n (pc := 51) 2 k_fn_play_51 rfl rfl ?_
          refine tr_icmp_ne (pc := 52) 57 k_fn_play_52 (by decide) (fun q => ?_) (fun q => ?_)
          · replace hv := hv.1 q
            refine tr_aload_n (pc := 57) 0 k_fn_play_57 rfl rfl ?_
            refine tr_getP (pc := 58) k_fn_play_58 fl_fn_12 rfl (Eq.trans rfl (hskh1.1 0 0 _ rfl)) ?_
            refine tr_dup (pc := 61) k_fn_play_61 rfl ?_
            refine tr_getIx (pc := 62) k_fn_play_62 fl_fn_129 rfl rfl ?_
            refine tr_aload_n (pc := 65) 3 k_fn_play_65 rfl rfl ?_
            refine tr_getIx (pc := 66) k_fn_play_66 fl_fn_136 rfl rfl ?_
            refine tr_ixor (pc := 69) k_fn_play_69 ?_
            refine tr_putI (pc := 70) k_fn_play_70 fl_fn_129 (Or.inl rfl) rfl ⟨rfl, rfl⟩ ?_
            refine tr_iconst (pc := 73) (v := 1) k_fn_play_73 (by decide) ?_
            refine tr_ireturn (pc := 74) k_fn_play_74 rfl rfl ?_
            exact hv
          · replace hv := hv.2 q
            refine tr_iconst (pc := 55) (v := 0) k_fn_play_55 (by decide) ?_
            refine tr_ireturn (pc := 56) k_fn_play_56 rfl rfl ?_
            exact hv
        · replace hv := hv.2 q
          refine tr_iconst (pc := 9) (v := 1) k_je_isIn_9 (by decide) ?_
          refine tr_goto (pc := 10) 14 k_je_isIn_10 (by decide) ?_
          refine tr_ireturn (pc := 14) k_je_isIn_14 rfl rfl ?_
          show mT g me_fn_play (d + 5) 0 0 51 [some (vr 0 0), some (vi x1), some (vi x2), some (vr 8 n3)] [vi (1 : Int32)] h1 _
          refine tr_iload_n (pc := 51) 2 k_fn_play_51 rfl rfl ?_
          refine tr_icmp_ne (pc := 52) 57 k_fn_play_52 (by decide) (fun q => ?_) (fun q => ?_)
          · replace hv := hv.1 q
            refine tr_aload_n (pc := 57) 0 k_fn_play_57 rfl rfl ?_
            refine tr_getP (pc := 58) k_fn_play_58 fl_fn_12 rfl (Eq.trans rfl (hskh1.1 0 0 _ rfl)) ?_
            refine tr_dup (pc := 61) k_fn_play_61 rfl ?_
            refine tr_getIx (pc := 62) k_fn_play_62 fl_fn_129 rfl rfl ?_
            refine tr_aload_n (pc := 65) 3 k_fn_play_65 rfl rfl ?_
            refine tr_getIx (pc := 66) k_fn_play_66 fl_fn_136 rfl rfl ?_
            refine tr_ixor (pc := 69) k_fn_play_69 ?_
            refine tr_putI (pc := 70) k_fn_play_70 fl_fn_129 (Or.inl rfl) rfl ⟨rfl, rfl⟩ ?_
            refine tr_iconst (pc := 73) (v := 1) k_fn_play_73 (by decide) ?_
            refine tr_ireturn (pc := 74) k_fn_play_74 rfl rfl ?_
            exact hv
          · replace hv := hv.2 q
            refine tr_iconst (pc := 55) (v := 0) k_fn_play_55 (by decide) ?_
            refine tr_ireturn (pc := 56) k_fn_play_56 rfl rfl ?_
            exact hv
      · replace hv := hv.2 q
        refine tr_aload_n (pc := 33) 0 k_fn_play_33 rfl rfl ?_
        refine tr_bipush (pc := 34) (v := -3) k_fn_play_34 (by decide) ?_
        have hT := hv
        clear hv
        refine tr_callV (pc := 36) (d' := d + 4) (mc' := 0) (ms' := 0) [vi (-3 : Int32)] k_fn_play_36 ca_fn_refuse ml_fn_56 ii_fn_refuse ⟨by decide, rfl⟩ pa_fn_refuse (by omega) (by omega) (by omega) rfl (Nat.le_of_ble_eq_true rfl) (Nat.le_of_ble_eq_true rfl) hT (fun v h9 hv => ?_)
        clear hT
        obtain ⟨y9, rfl, hv⟩ := hv
        obtain ⟨h8, eh⟩ : ∃ z, z = h9 := ⟨_, rfl⟩
        subst eh
        obtain ⟨hskh8, hv⟩ := hv
        show mT g me_fn_play (d + 5) 0 0 39 [some (vr 0 0), some (vi x1), some (vi x2), some (vr 8 n3)] [vi y9] h8 _
        refine tr_ireturn (pc := 39) k_fn_play_39 rfl rfl ?_
        exact hv
theorem v_ga_jetAt_0 {g : mG} {d : Nat} (x1 : Int32) {h : mH} {Q : Option mV → mH → Prop} (hsk : mSK h) (hv : ((x1 < 0 → Q (some (vn)) h) ∧ (¬ x1 < 0 → (((hI h 2 2 1) ≤ x1 → Q (some (vn)) h) ∧ (¬ (hI h 2 2 1) ≤ x1 → (∃ n1, mGet h 2 x1 (some (8, n1)) ∧ Q (some (vr 8 n1)) h)))))) : mT g me_ga_jetAt (d + 4) 0 0 0 [some (vr 1 0), some (vi x1)] [] h Q := by
  refine tr_iload_n (pc := 0) 1 k_ga_jetAt_0 rfl rfl ?_
  refine tr_if_lt (pc := 1) 29 k_ga_jetAt_1 (by decide) (fun q => ?_) (fun q => ?_)
  · replace hv := hv.1 q
    refine tr_null (pc := 29) k_ga_jetAt_29 ?_
    refine tr_areturn (pc := 30) k_ga_jetAt_30 rfl rfl ?_
    exact hv
  · replace hv := hv.2 q
    refine tr_iload_n (pc := 4) 1 k_ga_jetAt_4 rfl rfl ?_
    refine tr_aload_n (pc := 5) 0 k_ga_jetAt_5 rfl rfl ?_
    refine tr_getP (pc := 6) k_ga_jetAt_6 fl_ga_21 rfl (Eq.trans rfl (hsk.1 1 2 _ rfl)) ?_
    refine tr_callV (pc := 9) (d' := d + 3) (mc' := 0) (ms' := 0) [] k_ga_jetAt_9 ca_al_size ml_ga_24 ii_al_size ⟨by decide, rfl⟩ pa_al_size (by omega) (by omega) (by omega) rfl (Nat.le_of_ble_eq_true rfl) (Nat.le_of_ble_eq_true rfl) (Qk := fun v h9 => mT g me_ga_jetAt (d + 4) 0 0 12 [some (vr 1 0), some (vi x1)] (v.toList ++ [vi x1]) h9 _) ?_ (fun _ _ z => z)
    show mT g me_al_size (d + 3) 0 0 0 [some (vr 2 2)] [] h _
    refine tr_aload_n (pc := 0) 0 k_al_size_0 rfl rfl ?_
    refine tr_getIx (pc := 1) k_al_size_1 fl_al_48 rfl rfl ?_
    refine tr_ireturn (pc := 4) k_al_size_4 rfl rfl ?_
    show mT g me_ga_jetAt (d + 4) 0 0 12 [some (vr 1 0), some (vi x1)] [vi (hI h 2 2 1), vi x1] h _
    refine tr_icmp_ge (pc := 12) 29 k_ga_jetAt_12 (by decide) (fun q => ?_) (fun q => ?_)
    · replace hv := hv.1 q
      refine tr_null (pc := 29) k_ga_jetAt_29 ?_
      refine tr_areturn (pc := 30) k_ga_jetAt_30 rfl rfl ?_
      exact hv
    · replace hv := hv.2 q
      refine tr_aload_n (pc := 15) 0 k_ga_jetAt_15 rfl rfl ?_
      refine tr_getP (pc := 16) k_ga_jetAt_16 fl_ga_21 rfl (Eq.trans rfl (hsk.1 1 2 _ rfl)) ?_
      refine tr_iload_n (pc := 19) 1 k_ga_jetAt_19 rfl rfl ?_
      obtain ⟨n1, hg, hv⟩ := hv
      refine tr_alget (pc := 20) k_ga_jetAt_20 ml_ga_28 (by omega) (Nat.le_of_ble_eq_true rfl) (mGet.up hg rfl rfl) ?_
      refine tr_cast (pc := 23) k_ga_jetAt_23 (by decide) cl_ga_36 ?_
      refine tr_goto (pc := 26) 30 k_ga_jetAt_26 (by decide) ?_
      refine tr_areturn (pc := 30) k_ga_jetAt_30 rfl rfl ?_
      exact hv
theorem v_fn_pipe_0 {g : mG} {d : Nat} (x1 : Int32) (x2 : Int32) {h : mH} {Q : Option mV → mH → Prop} (hsk : mSK h) (hv : mT g me_ga_jointAt (d + 4) 0 0 0 [some (vr 1 0), some (vi x1)] [] h (fun v h1 => ∃ p2, v = some (vp p2) ∧ mSK h1 ∧ ((p2 = none → mT g me_fn_refuse (d + 4) 0 0 0 [some (vr 0 0), some (vi (-1 : Int32)), none] [] h1 (fun v h4 => ∃ y5, v = some (vi y5) ∧ mSK h4 ∧ Q (some (vi y5)) h4)) ∧ (∀ kq n3, p2 = some (kq, n3) → kq = 7 ∧ (((1 : Int32) ≤ x2 → ((x2 ≤ (9 : Int32) → Q (some (vi (hI h1 7 n3 5))) (setI h1 7 n3 5 x2)) ∧ (¬ x2 ≤ (9 : Int32) → mT g me_fn_refuse (d + 4) 0 0 0 [some (vr 0 0), some (vi (-6 : Int32)), none] [] h1 (fun v h6 => ∃ y7, v = some (vi y7) ∧ mSK h6 ∧ Q (some (vi y7)) h6)))) ∧ (¬ (1 : Int32) ≤ x2 → mT g me_fn_refuse (d + 4) 0 0 0 [some (vr 0 0), some (vi (-4 : Int32)), none] [] h1 (fun v h8 => ∃ y9, v = some (vi y9) ∧ mSK h8 ∧ Q (some (vi y9)) h8))))))) : mT g me_fn_pipe (d + 5) 0 0 0 [some (vr 0 0), some (vi x1), some (vi x2), none, none] [] h Q := by
  refine tr_aload_n (pc := 0) 0 k_fn_pipe_0 rfl rfl ?_
  refine tr_getP (pc := 1) k_fn_pipe_1 fl_fn_12 rfl (Eq.trans rfl (hsk.1 0 0 _ rfl)) ?_
  refine tr_iload_n (pc := 4) 1 k_fn_pipe_4 rfl rfl ?_
  have hT := hv
  clear hv
  refine tr_callV (pc := 5) (d' := d + 4) (mc' := 0) (ms' := 0) [vi x1] k_fn_pipe_5 ca_ga_jointAt ml_fn_89 ii_ga_jointAt ⟨by decide, rfl⟩ pa_ga_jointAt (by omega) (by omega) (by omega) rfl (Nat.le_of_ble_eq_true rfl) (Nat.le_of_ble_eq_true rfl) hT (fun v h9 hv => ?_)
  clear hT
  obtain ⟨p2, rfl, hv⟩ := hv
  obtain ⟨h1, eh⟩ : ∃ z, z = h9 := ⟨_, rfl⟩
  subst eh
  obtain ⟨hskh1, hv⟩ := hv
  show mT g me_fn_pipe (d + 5) 0 0 8 [some (vr 0 0), some (vi x1), some (vi x2), none, none] [vp p2] h1 _
  refine tr_astore_n (pc := 8) 3 k_fn_pipe_8 rfl (by decide) rfl ?_
  show mT g me_fn_pipe (d + 5) 0 0 9 [some (vr 0 0), some (vi x1), some (vi x2), some (vp p2), none] [] h1 _
  refine tr_aload_n (pc := 9) 3 k_fn_pipe_9 rfl rfl ?_
  rcases p2 with _ | ⟨kq, n3⟩
  · replace hv := hv.1 rfl
    refine tr_ifnonnull (pc := 10) 19 k_fn_pipe_10 (by decide) (fun _ => ?_) (fun _ _ q => by cases q)
    refine tr_aload_n (pc := 13) 0 k_fn_pipe_13 rfl rfl ?_
    refine tr_iconst (pc := 14) (v := -1) k_fn_pipe_14 (by decide) ?_
    have hT := hv
    clear hv
    refine tr_callV (pc := 15) (d' := d + 4) (mc' := 0) (ms' := 0) [vi (-1 : Int32)] k_fn_pipe_15 ca_fn_refuse ml_fn_56 ii_fn_refuse ⟨by decide, rfl⟩ pa_fn_refuse (by omega) (by omega) (by omega) rfl (Nat.le_of_ble_eq_true rfl) (Nat.le_of_ble_eq_true rfl) hT (fun v h9 hv => ?_)
    clear hT
    obtain ⟨y5, rfl, hv⟩ := hv
    obtain ⟨h4, eh⟩ : ∃ z, z = h9 := ⟨_, rfl⟩
    subst eh
    obtain ⟨hskh4, hv⟩ := hv
    show mT g me_fn_pipe (d + 5) 0 0 18 [some (vr 0 0), some (vi x1), some (vi x2), some (vn), none] [vi y5] h4 _
    refine tr_ireturn (pc := 18) k_fn_pipe_18 rfl rfl ?_
    exact hv
  · have hw := hv.2 kq n3 rfl
    clear hv
    obtain ⟨tq, hv⟩ := hw
    subst tq
    refine tr_ifnonnull (pc := 10) 19 k_fn_pipe_10 (by decide) (fun q => by cases q) (fun _ _ _ => ?_)
    refine tr_iload_n (pc := 19) 2 k_fn_pipe_19 rfl rfl ?_
    refine tr_iconst (pc := 20) (v := 1) k_fn_pipe_20 (by decide) ?_
    refine tr_icmp_ge (pc := 21) 31 k_fn_pipe_21 (by decide) (fun q => ?_) (fun q => ?_)
    · replace hv := hv.1 q
      refine tr_iload_n (pc := 31) 2 k_fn_pipe_31 rfl rfl ?_
      refine tr_bipush (pc := 32) (v := 9) k_fn_pipe_32 (by decide) ?_
      refine tr_icmp_le (pc := 34) 44 k_fn_pipe_34 (by decide) (fun q => ?_) (fun q => ?_)
      · replace hv := hv.1 q
        refine tr_aload_n (pc := 44) 3 k_fn_pipe_44 rfl rfl ?_
        refine tr_getIx (pc := 45) k_fn_pipe_45 fl_fn_139 rfl rfl ?_
        refine tr_istore (pc := 48) k_fn_pipe_48 (by decide) rfl ?_
        show mT g me_fn_pipe (d + 5) 0 0 50 [some (vr 0 0), some (vi x1), some (vi x2), some (vr 7 n3), some (vi (hI h1 7 n3 5))] [] h1 _
        refine tr_aload_n (pc := 50) 3 k_fn_pipe_50 rfl rfl ?_
        refine tr_iload_n (pc := 51) 2 k_fn_pipe_51 rfl rfl ?_
        refine tr_putI (pc := 52) k_fn_pipe_52 fl_fn_139 (Or.inl rfl) rfl ⟨rfl, rfl⟩ ?_
        refine tr_iload (pc := 55) k_fn_pipe_55 rfl ?_
        refine tr_ireturn (pc := 57) k_fn_pipe_57 rfl rfl ?_
        exact hv
      · replace hv := hv.2 q
        refine tr_aload_n (pc := 37) 0 k_fn_pipe_37 rfl rfl ?_
        refine tr_bipush (pc := 38) (v := -6) k_fn_pipe_38 (by decide) ?_
        have hT := hv
        clear hv
        refine tr_callV (pc := 40) (d' := d + 4) (mc' := 0) (ms' := 0) [vi (-6 : Int32)] k_fn_pipe_40 ca_fn_refuse ml_fn_56 ii_fn_refuse ⟨by decide, rfl⟩ pa_fn_refuse (by omega) (by omega) (by omega) rfl (Nat.le_of_ble_eq_true rfl) (Nat.le_of_ble_eq_true rfl) hT (fun v h9 hv => ?_)
        clear hT
        obtain ⟨y7, rfl, hv⟩ := hv
        obtain ⟨h6, eh⟩ : ∃ z, z = h9 := ⟨_, rfl⟩
        subst eh
        obtain ⟨hskh6, hv⟩ := hv
        show mT g me_fn_pipe (d + 5) 0 0 43 [some (vr 0 0), some (vi x1), some (vi x2), some (vr 7 n3), none] [vi y7] h6 _
        refine tr_ireturn (pc := 43) k_fn_pipe_43 rfl rfl ?_
        exact hv
    · replace hv := hv.2 q
      refine tr_aload_n (pc := 24) 0 k_fn_pipe_24 rfl rfl ?_
      refine tr_bipush (pc := 25) (v := -4) k_fn_pipe_25 (by decide) ?_
      have hT := hv
      clear hv
      refine tr_callV (pc := 27) (d' := d + 4) (mc' := 0) (ms' := 0) [vi (-4 : Int32)] k_fn_pipe_27 ca_fn_refuse ml_fn_56 ii_fn_refuse ⟨by decide, rfl⟩ pa_fn_refuse (by omega) (by omega) (by omega) rfl (Nat.le_of_ble_eq_true rfl) (Nat.le_of_ble_eq_true rfl) hT (fun v h9 hv => ?_)
      clear hT
      obtain ⟨y9, rfl, hv⟩ := hv
      obtain ⟨h8, eh⟩ : ∃ z, z = h9 := ⟨_, rfl⟩
      subst eh
      obtain ⟨hskh8, hv⟩ := hv
      show mT g me_fn_pipe (d + 5) 0 0 30 [some (vr 0 0), some (vi x1), some (vi x2), some (vr 7 n3), none] [vi y9] h8 _
      refine tr_ireturn (pc := 30) k_fn_pipe_30 rfl rfl ?_
      exact hv
theorem v_fn_leak_0 {g : mG} {d : Nat} (x1 : Int32) (x2 : Int32) {h : mH} {Q : Option mV → mH → Prop} (hsk : mSK h) (hv : mT g me_ga_jointAt (d + 4) 0 0 0 [some (vr 1 0), some (vi x1)] [] h (fun v h1 => ∃ p2, v = some (vp p2) ∧ mSK h1 ∧ ((p2 = none → mT g me_fn_refuse (d + 4) 0 0 0 [some (vr 0 0), some (vi (-1 : Int32)), none] [] h1 (fun v h4 => ∃ y5, v = some (vi y5) ∧ mSK h4 ∧ Q (some (vi y5)) h4)) ∧ (∀ kq n3, p2 = some (kq, n3) → kq = 7 ∧ ((0 ≤ x2 → ((x2 ≤ (60 : Int32) → Q (some (vi (hI h1 7 n3 6))) (setI h1 7 n3 6 x2)) ∧ (¬ x2 ≤ (60 : Int32) → mT g me_fn_refuse (d + 4) 0 0 0 [some (vr 0 0), some (vi (-6 : Int32)), none] [] h1 (fun v h6 => ∃ y7, v = some (vi y7) ∧ mSK h6 ∧ Q (some (vi y7)) h6)))) ∧ (¬ 0 ≤ x2 → mT g me_fn_refuse (d + 4) 0 0 0 [some (vr 0 0), some (vi (-4 : Int32)), none] [] h1 (fun v h8 => ∃ y9, v = some (vi y9) ∧ mSK h8 ∧ Q (some (vi y9)) h8))))))) : mT g me_fn_leak (d + 5) 0 0 0 [some (vr 0 0), some (vi x1), some (vi x2), none, none] [] h Q := by
  refine tr_aload_n (pc := 0) 0 k_fn_leak_0 rfl rfl ?_
  refine tr_getP (pc := 1) k_fn_leak_1 fl_fn_12 rfl (Eq.trans rfl (hsk.1 0 0 _ rfl)) ?_
  refine tr_iload_n (pc := 4) 1 k_fn_leak_4 rfl rfl ?_
  have hT := hv
  clear hv
  refine tr_callV (pc := 5) (d' := d + 4) (mc' := 0) (ms' := 0) [vi x1] k_fn_leak_5 ca_ga_jointAt ml_fn_89 ii_ga_jointAt ⟨by decide, rfl⟩ pa_ga_jointAt (by omega) (by omega) (by omega) rfl (Nat.le_of_ble_eq_true rfl) (Nat.le_of_ble_eq_true rfl) hT (fun v h9 hv => ?_)
  clear hT
  obtain ⟨p2, rfl, hv⟩ := hv
  obtain ⟨h1, eh⟩ : ∃ z, z = h9 := ⟨_, rfl⟩
  subst eh
  obtain ⟨hskh1, hv⟩ := hv
  show mT g me_fn_leak (d + 5) 0 0 8 [some (vr 0 0), some (vi x1), some (vi x2), none, none] [vp p2] h1 _
  refine tr_astore_n (pc := 8) 3 k_fn_leak_8 rfl (by decide) rfl ?_
  show mT g me_fn_leak (d + 5) 0 0 9 [some (vr 0 0), some (vi x1), some (vi x2), some (vp p2), none] [] h1 _
  refine tr_aload_n (pc := 9) 3 k_fn_leak_9 rfl rfl ?_
  rcases p2 with _ | ⟨kq, n3⟩
  · replace hv := hv.1 rfl
    refine tr_ifnonnull (pc := 10) 19 k_fn_leak_10 (by decide) (fun _ => ?_) (fun _ _ q => by cases q)
    refine tr_aload_n (pc := 13) 0 k_fn_leak_13 rfl rfl ?_
    refine tr_iconst (pc := 14) (v := -1) k_fn_leak_14 (by decide) ?_
    have hT := hv
    clear hv
    refine tr_callV (pc := 15) (d' := d + 4) (mc' := 0) (ms' := 0) [vi (-1 : Int32)] k_fn_leak_15 ca_fn_refuse ml_fn_56 ii_fn_refuse ⟨by decide, rfl⟩ pa_fn_refuse (by omega) (by omega) (by omega) rfl (Nat.le_of_ble_eq_true rfl) (Nat.le_of_ble_eq_true rfl) hT (fun v h9 hv => ?_)
    clear hT
    obtain ⟨y5, rfl, hv⟩ := hv
    obtain ⟨h4, eh⟩ : ∃ z, z = h9 := ⟨_, rfl⟩
    subst eh
    obtain ⟨hskh4, hv⟩ := hv
    show mT g me_fn_leak (d + 5) 0 0 18 [some (vr 0 0), some (vi x1), some (vi x2), some (vn), none] [vi y5] h4 _
    refine tr_ireturn (pc := 18) k_fn_leak_18 rfl rfl ?_
    exact hv
  · have hw := hv.2 kq n3 rfl
    clear hv
    obtain ⟨tq, hv⟩ := hw
    subst tq
    refine tr_ifnonnull (pc := 10) 19 k_fn_leak_10 (by decide) (fun q => by cases q) (fun _ _ _ => ?_)
    refine tr_iload_n (pc := 19) 2 k_fn_leak_19 rfl rfl ?_
    refine tr_if_ge (pc := 20) 30 k_fn_leak_20 (by decide) (fun q => ?_) (fun q => ?_)
    · replace hv := hv.1 q
      refine tr_iload_n (pc := 30) 2 k_fn_leak_30 rfl rfl ?_
      refine tr_bipush (pc := 31) (v := 60) k_fn_leak_31 (by decide) ?_
      refine tr_icmp_le (pc := 33) 43 k_fn_leak_33 (by decide) (fun q => ?_) (fun q => ?_)
      · replace hv := hv.1 q
        refine tr_aload_n (pc := 43) 3 k_fn_leak_43 rfl rfl ?_
        refine tr_getIx (pc := 44) k_fn_leak_44 fl_fn_141 rfl rfl ?_
        refine tr_istore (pc := 47) k_fn_leak_47 (by decide) rfl ?_
        show mT g me_fn_leak (d + 5) 0 0 49 [some (vr 0 0), some (vi x1), some (vi x2), some (vr 7 n3), some (vi (hI h1 7 n3 6))] [] h1 _
        refine tr_aload_n (pc := 49) 3 k_fn_leak_49 rfl rfl ?_
        refine tr_iload_n (pc := 50) 2 k_fn_leak_50 rfl rfl ?_
        refine tr_putI (pc := 51) k_fn_leak_51 fl_fn_141 (Or.inl rfl) rfl ⟨rfl, rfl⟩ ?_
        refine tr_iload (pc := 54) k_fn_leak_54 rfl ?_
        refine tr_ireturn (pc := 56) k_fn_leak_56 rfl rfl ?_
        exact hv
      · replace hv := hv.2 q
        refine tr_aload_n (pc := 36) 0 k_fn_leak_36 rfl rfl ?_
        refine tr_bipush (pc := 37) (v := -6) k_fn_leak_37 (by decide) ?_
        have hT := hv
        clear hv
        refine tr_callV (pc := 39) (d' := d + 4) (mc' := 0) (ms' := 0) [vi (-6 : Int32)] k_fn_leak_39 ca_fn_refuse ml_fn_56 ii_fn_refuse ⟨by decide, rfl⟩ pa_fn_refuse (by omega) (by omega) (by omega) rfl (Nat.le_of_ble_eq_true rfl) (Nat.le_of_ble_eq_true rfl) hT (fun v h9 hv => ?_)
        clear hT
        obtain ⟨y7, rfl, hv⟩ := hv
        obtain ⟨h6, eh⟩ : ∃ z, z = h9 := ⟨_, rfl⟩
        subst eh
        obtain ⟨hskh6, hv⟩ := hv
        show mT g me_fn_leak (d + 5) 0 0 42 [some (vr 0 0), some (vi x1), some (vi x2), some (vr 7 n3), none] [vi y7] h6 _
        refine tr_ireturn (pc := 42) k_fn_leak_42 rfl rfl ?_
        exact hv
    · replace hv := hv.2 q
      refine tr_aload_n (pc := 23) 0 k_fn_leak_23 rfl rfl ?_
      refine tr_bipush (pc := 24) (v := -4) k_fn_leak_24 (by decide) ?_
      have hT := hv
      clear hv
      refine tr_callV (pc := 26) (d' := d + 4) (mc' := 0) (ms' := 0) [vi (-4 : Int32)] k_fn_leak_26 ca_fn_refuse ml_fn_56 ii_fn_refuse ⟨by decide, rfl⟩ pa_fn_refuse (by omega) (by omega) (by omega) rfl (Nat.le_of_ble_eq_true rfl) (Nat.le_of_ble_eq_true rfl) hT (fun v h9 hv => ?_)
      clear hT
      obtain ⟨y9, rfl, hv⟩ := hv
      obtain ⟨h8, eh⟩ : ∃ z, z = h9 := ⟨_, rfl⟩
      subst eh
      obtain ⟨hskh8, hv⟩ := hv
      show mT g me_fn_leak (d + 5) 0 0 29 [some (vr 0 0), some (vi x1), some (vi x2), some (vr 7 n3), none] [vi y9] h8 _
      refine tr_ireturn (pc := 29) k_fn_leak_29 rfl rfl ?_
      exact hv
theorem v_fn_flow_0 {g : mG} {d : Nat} (x1 : Int32) {h : mH} {Q : Option mV → mH → Prop} (hsk : mSK h) (hv : mT g me_ga_jointAt (d + 6) 0 0 0 [some (vr 1 0), some (vi x1)] [] h (fun v h1 => ∃ p2, v = some (vp p2) ∧ mSK h1 ∧ ((p2 = none → mT g me_fn_refuse (d + 6) 0 0 0 [some (vr 0 0), some (vi (-1 : Int32)), none] [] h1 (fun v h4 => ∃ y5, v = some (vi y5) ∧ mSK h4 ∧ Q (some (vi y5)) h4)) ∧ (∀ kq n3, p2 = some (kq, n3) → kq = 7 ∧ mT g me_ga_reckonAsItIs (d + 6) 0 0 0 [some (vr 1 0)] [] h1 (fun v h6 => v = none ∧ mSK h6 ∧ Q (some (vi (hI h6 7 n3 10))) h6))))) : mT g me_fn_flow (d + 7) 0 0 0 [some (vr 0 0), some (vi x1), none] [] h Q := by
  refine tr_aload_n (pc := 0) 0 k_fn_flow_0 rfl rfl ?_
  refine tr_getP (pc := 1) k_fn_flow_1 fl_fn_12 rfl (Eq.trans rfl (hsk.1 0 0 _ rfl)) ?_
  refine tr_iload_n (pc := 4) 1 k_fn_flow_4 rfl rfl ?_
  have hT := hv
  clear hv
  refine tr_callV (pc := 5) (d' := d + 6) (mc' := 0) (ms' := 0) [vi x1] k_fn_flow_5 ca_ga_jointAt ml_fn_89 ii_ga_jointAt ⟨by decide, rfl⟩ pa_ga_jointAt (by omega) (by omega) (by omega) rfl (Nat.le_of_ble_eq_true rfl) (Nat.le_of_ble_eq_true rfl) hT (fun v h9 hv => ?_)
  clear hT
  obtain ⟨p2, rfl, hv⟩ := hv
  obtain ⟨h1, eh⟩ : ∃ z, z = h9 := ⟨_, rfl⟩
  subst eh
  obtain ⟨hskh1, hv⟩ := hv
  show mT g me_fn_flow (d + 7) 0 0 8 [some (vr 0 0), some (vi x1), none] [vp p2] h1 _
  refine tr_astore_n (pc := 8) 2 k_fn_flow_8 rfl (by decide) rfl ?_
  show mT g me_fn_flow (d + 7) 0 0 9 [some (vr 0 0), some (vi x1), some (vp p2)] [] h1 _
  refine tr_aload_n (pc := 9) 2 k_fn_flow_9 rfl rfl ?_
  rcases p2 with _ | ⟨kq, n3⟩
  · replace hv := hv.1 rfl
    refine tr_ifnonnull (pc := 10) 19 k_fn_flow_10 (by decide) (fun _ => ?_) (fun _ _ q => by cases q)
    refine tr_aload_n (pc := 13) 0 k_fn_flow_13 rfl rfl ?_
    refine tr_iconst (pc := 14) (v := -1) k_fn_flow_14 (by decide) ?_
    have hT := hv
    clear hv
    refine tr_callV (pc := 15) (d' := d + 6) (mc' := 0) (ms' := 0) [vi (-1 : Int32)] k_fn_flow_15 ca_fn_refuse ml_fn_56 ii_fn_refuse ⟨by decide, rfl⟩ pa_fn_refuse (by omega) (by omega) (by omega) rfl (Nat.le_of_ble_eq_true rfl) (Nat.le_of_ble_eq_true rfl) hT (fun v h9 hv => ?_)
    clear hT
    obtain ⟨y5, rfl, hv⟩ := hv
    obtain ⟨h4, eh⟩ : ∃ z, z = h9 := ⟨_, rfl⟩
    subst eh
    obtain ⟨hskh4, hv⟩ := hv
    show mT g me_fn_flow (d + 7) 0 0 18 [some (vr 0 0), some (vi x1), some (vn)] [vi y5] h4 _
    refine tr_ireturn (pc := 18) k_fn_flow_18 rfl rfl ?_
    exact hv
  · have hw := hv.2 kq n3 rfl
    clear hv
    obtain ⟨tq, hv⟩ := hw
    subst tq
    refine tr_ifnonnull (pc := 10) 19 k_fn_flow_10 (by decide) (fun q => by cases q) (fun _ _ _ => ?_)
    refine tr_aload_n (pc := 19) 0 k_fn_flow_19 rfl rfl ?_
    refine tr_getP (pc := 20) k_fn_flow_20 fl_fn_12 rfl (Eq.trans rfl (hskh1.1 0 0 _ rfl)) ?_
    have hT := hv
    clear hv
    refine tr_callV (pc := 23) (d' := d + 6) (mc' := 0) (ms' := 0) [] k_fn_flow_23 ca_ga_reckonAsItIs ml_fn_144 ii_ga_reckonAsItIs ⟨by decide, rfl⟩ pa_ga_reckonAsItIs (by omega) (by omega) (by omega) rfl (Nat.le_of_ble_eq_true rfl) (Nat.le_of_ble_eq_true rfl) hT (fun v h9 hv => ?_)
    clear hT
    obtain ⟨rfl, hv⟩ := hv
    obtain ⟨h6, eh⟩ : ∃ z, z = h9 := ⟨_, rfl⟩
    subst eh
    obtain ⟨hskh6, hv⟩ := hv
    show mT g me_fn_flow (d + 7) 0 0 26 [some (vr 0 0), some (vi x1), some (vr 7 n3)] [] h6 _
    refine tr_aload_n (pc := 26) 2 k_fn_flow_26 rfl rfl ?_
    refine tr_getIx (pc := 27) k_fn_flow_27 fl_fn_147 rfl rfl ?_
    refine tr_ireturn (pc := 30) k_fn_flow_30 rfl rfl ?_
    exact hv
theorem v_ga_reckonAsItIs_0 {g : mG} {d : Nat}  {h : mH} {Q : Option mV → mH → Prop} (hsk : mSK h) (hv : mT g me_ga_reckon (d + 5) 0 0 0 [some (vr 1 0), some (vi (hI h 1 0 3)), some (vi (0 : Int32)), none, none] [] h (fun v h1 => v = none ∧ mSK h1 ∧ Q none h1)) : mT g me_ga_reckonAsItIs (d + 6) 0 0 0 [some (vr 1 0)] [] h Q := by
  refine tr_aload_n (pc := 0) 0 k_ga_reckonAsItIs_0 rfl rfl ?_
  refine tr_aload_n (pc := 1) 0 k_ga_reckonAsItIs_1 rfl rfl ?_
  refine tr_getIx (pc := 2) k_ga_reckonAsItIs_2 fl_ga_38 rfl rfl ?_
  refine tr_iconst (pc := 5) (v := 0) k_ga_reckonAsItIs_5 (by decide) ?_
  have hT := hv
  clear hv
  refine tr_callV (pc := 6) (d' := d + 5) (mc' := 0) (ms' := 0) [vi (hI h 1 0 3), vi (0 : Int32)] k_ga_reckonAsItIs_6 ca_ga_reckon ml_ga_42 ii_ga_reckon ⟨by decide, rfl⟩ pa_ga_reckon (by omega) (by omega) (by omega) rfl (Nat.le_of_ble_eq_true rfl) (Nat.le_of_ble_eq_true rfl) hT (fun v h9 hv => ?_)
  clear hT
  obtain ⟨rfl, hv⟩ := hv
  obtain ⟨h1, eh⟩ : ∃ z, z = h9 := ⟨_, rfl⟩
  subst eh
  obtain ⟨hskh1, hv⟩ := hv
  show mT g me_ga_reckonAsItIs (d + 6) 0 0 9 [some (vr 1 0)] [] h1 _
  refine tr_return (pc := 9) k_ga_reckonAsItIs_9 rfl ?_
  exact hv
theorem v_ga_reckon_0 {g : mG} {d : Nat} (x1 : Int32) (x2 : Int32) {h : mH} {Q : Option mV → mH → Prop} (hsk : mSK h) (hv : mT g me_ga_forgetFlows (d + 4) 0 0 0 [some (vr 1 0), none] [] h (fun v h1 => v = none ∧ mSK h1 ∧ mT g me_ga_reckon (d + 5) 0 0 14 [some (vr 1 0), some (vi x1), some (vi x2), some (vi ((hI h1 2 1 1) - (1 : Int32))), none] [] h1 Q)) : mT g me_ga_reckon (d + 5) 0 0 0 [some (vr 1 0), some (vi x1), some (vi x2), none, none] [] h Q := by
  refine tr_aload_n (pc := 0) 0 k_ga_reckon_0 rfl rfl ?_
  have hT := hv
  clear hv
  refine tr_callV (pc := 1) (d' := d + 4) (mc' := 0) (ms' := 0) [] k_ga_reckon_1 ca_ga_forgetFlows ml_ga_46 ii_ga_forgetFlows ⟨by decide, rfl⟩ pa_ga_forgetFlows (by omega) (by omega) (by omega) rfl (Nat.le_of_ble_eq_true rfl) (Nat.le_of_ble_eq_true rfl) hT (fun v h9 hv => ?_)
  clear hT
  obtain ⟨rfl, hv⟩ := hv
  obtain ⟨h1, eh⟩ : ∃ z, z = h9 := ⟨_, rfl⟩
  subst eh
  obtain ⟨hskh1, hv⟩ := hv
  show mT g me_ga_reckon (d + 5) 0 0 4 [some (vr 1 0), some (vi x1), some (vi x2), none, none] [] h1 _
  refine tr_aload_n (pc := 4) 0 k_ga_reckon_4 rfl rfl ?_
  refine tr_getP (pc := 5) k_ga_reckon_5 fl_ga_18 rfl (Eq.trans rfl (hskh1.1 1 1 _ rfl)) ?_
  refine tr_callV (pc := 8) (d' := d + 4) (mc' := 0) (ms' := 0) [] k_ga_reckon_8 ca_al_size ml_ga_24 ii_al_size ⟨by decide, rfl⟩ pa_al_size (by omega) (by omega) (by omega) rfl (Nat.le_of_ble_eq_true rfl) (Nat.le_of_ble_eq_true rfl) (Qk := fun v h9 => mT g me_ga_reckon (d + 5) 0 0 11 [some (vr 1 0), some (vi x1), some (vi x2), none, none] (v.toList ++ []) h9 _) ?_ (fun _ _ z => z)
  show mT g me_al_size (d + 4) 0 0 0 [some (vr 2 1)] [] h1 _
  refine tr_aload_n (pc := 0) 0 k_al_size_0 rfl rfl ?_
  refine tr_getIx (pc := 1) k_al_size_1 fl_al_48 rfl rfl ?_
  refine tr_ireturn (pc := 4) k_al_size_4 rfl rfl ?_
  show mT g me_ga_reckon (d + 5) 0 0 11 [some (vr 1 0), some (vi x1), some (vi x2), none, none] [vi (hI h1 2 1 1)] h1 _
  refine tr_iconst (pc := 11) (v := 1) k_ga_reckon_11 (by decide) ?_
  refine tr_isub (pc := 12) k_ga_reckon_12 ?_
  refine tr_istore_n (pc := 13) 3 k_ga_reckon_13 rfl (by decide) rfl ?_
  show mT g me_ga_reckon (d + 5) 0 0 14 [some (vr 1 0), some (vi x1), some (vi x2), some (vi ((hI h1 2 1 1) - (1 : Int32))), none] [] h1 _
  exact hv
theorem v_ga_reckon_14 {g : mG} {d : Nat} (x1 : Int32) (x2 : Int32) (x3 : Int32) (o4 : Option mV) {h : mH} {Q : Option mV → mH → Prop} (hsk : mSK h) (hv : ((x3 < 0 → mT g me_ga_reckon (d + 5) 0 0 87 [some (vr 1 0), some (vi x1), some (vi x2), some (vi (0 : Int32)), o4] [] h Q) ∧ (¬ x3 < 0 → (∃ n1, mGet h 1 x3 (some (7, n1)) ∧ ((¬ (hI h 7 n1 8) = 0 → mT g me_ga_reckon (d + 5) 0 0 14 [some (vr 1 0), some (vi x1), some (vi x2), some (vi (x3 + (-1))), some (vr 7 n1)] [] h Q) ∧ ((hI h 7 n1 8) = 0 → mT g me_jn_drawAmong (d + 4) 0 0 0 [some (vr 7 n1), some (vi x1)] [] h (fun v h2 => ∃ y3, v = some (vi y3) ∧ mSK h2 ∧ ((x2 = 0 → ((hP h2 7 n1 2 = none → (∃ n6, hP h2 7 n1 1 = some (6, n6) ∧ mT g me_ga_reckon (d + 5) 0 0 14 [some (vr 1 0), some (vi x1), some (vi x2), some (vi (x3 + (-1))), some (vr 7 n1)] [] (setI (setI h2 7 n1 10 ((hI h 7 n1 10) + (y3 + (hI h2 7 n1 6)))) 6 n6 8 ((hI h2 6 n6 8) + ((hI h 7 n1 10) + (y3 + (hI h2 7 n1 6))))) Q)) ∧ (∀ kq n4, hP h2 7 n1 2 = some (kq, n4) → kq = 7 ∧ mT g me_ga_reckon (d + 5) 0 0 14 [some (vr 1 0), some (vi x1), some (vi x2), some (vi (x3 + (-1))), some (vr 7 n1)] [] (setI (setI h2 7 n1 10 ((hI h 7 n1 10) + (y3 + (hI h2 7 n1 6)))) 7 n4 10 ((hI (setI h2 7 n1 10 ((hI h 7 n1 10) + (y3 + (hI h2 7 n1 6)))) 7 n4 10) + ((hI h 7 n1 10) + (y3 + (hI h2 7 n1 6))))) Q))) ∧ (¬ x2 = 0 → ((hP h2 7 n1 2 = none → (∃ n10, hP h2 7 n1 1 = some (6, n10) ∧ mT g me_ga_reckon (d + 5) 0 0 14 [some (vr 1 0), some (vi x1), some (vi x2), some (vi (x3 + (-1))), some (vr 7 n1)] [] (setI (setI h2 7 n1 10 ((hI h 7 n1 10) + (y3 + (hI h2 7 n1 7)))) 6 n10 8 ((hI h2 6 n10 8) + ((hI h 7 n1 10) + (y3 + (hI h2 7 n1 7))))) Q)) ∧ (∀ kq n8, hP h2 7 n1 2 = some (kq, n8) → kq = 7 ∧ mT g me_ga_reckon (d + 5) 0 0 14 [some (vr 1 0), some (vi x1), some (vi x2), some (vi (x3 + (-1))), some (vr 7 n1)] [] (setI (setI h2 7 n1 10 ((hI h 7 n1 10) + (y3 + (hI h2 7 n1 7)))) 7 n8 10 ((hI (setI h2 7 n1 10 ((hI h 7 n1 10) + (y3 + (hI h2 7 n1 7)))) 7 n8 10) + ((hI h 7 n1 10) + (y3 + (hI h2 7 n1 7))))) Q))))))))))) : mT g me_ga_reckon (d + 5) 0 0 14 [some (vr 1 0), some (vi x1), some (vi x2), some (vi x3), o4] [] h Q := by
  refine tr_iload_n (pc := 14) 3 k_ga_reckon_14 rfl rfl ?_
  refine tr_if_lt (pc := 15) 85 k_ga_reckon_15 (by decide) (fun q => ?_) (fun q => ?_)
  · replace hv := hv.1 q
    refine tr_iconst (pc := 85) (v := 0) k_ga_reckon_85 (by decide) ?_
    refine tr_istore_n (pc := 86) 3 k_ga_reckon_86 rfl (by decide) rfl ?_
    show mT g me_ga_reckon (d + 5) 0 0 87 [some (vr 1 0), some (vi x1), some (vi x2), some (vi (0 : Int32)), o4] [] h _
    exact hv
  · replace hv := hv.2 q
    refine tr_aload_n (pc := 18) 0 k_ga_reckon_18 rfl rfl ?_
    refine tr_getP (pc := 19) k_ga_reckon_19 fl_ga_18 rfl (Eq.trans rfl (hsk.1 1 1 _ rfl)) ?_
    refine tr_iload_n (pc := 22) 3 k_ga_reckon_22 rfl rfl ?_
    obtain ⟨n1, hg, hv⟩ := hv
    refine tr_alget (pc := 23) k_ga_reckon_23 ml_ga_28 (by omega) (Nat.le_of_ble_eq_true rfl) (mGet.up hg rfl rfl) ?_
    refine tr_cast (pc := 26) k_ga_reckon_26 (by decide) cl_ga_34 ?_
    refine tr_astore (pc := 29) k_ga_reckon_29 (by decide) rfl ?_
    show mT g me_ga_reckon (d + 5) 0 0 31 [some (vr 1 0), some (vi x1), some (vi x2), some (vi x3), some (vr 7 n1)] [] h _
    refine tr_aload (pc := 31) k_ga_reckon_31 rfl ?_
    refine tr_getIx (pc := 33) k_ga_reckon_33 fl_ga_49 rfl rfl ?_
    refine tr_if_ne (pc := 36) 79 k_ga_reckon_36 (by decide) (fun q => ?_) (fun q => ?_)
    · replace hv := hv.1 q
      refine tr_iinc (pc := 79) (v := (x3 + (-1))) k_ga_reckon_79 rfl rfl (by decide) rfl ?_
      show mT g me_ga_reckon (d + 5) 0 0 82 [some (vr 1 0), some (vi x1), some (vi x2), some (vi (x3 + (-1))), some (vr 7 n1)] [] h _
      refine tr_goto (pc := 82) 14 k_ga_reckon_82 (by decide) ?_
      exact hv
    · replace hv := hv.2 q
      refine tr_aload (pc := 39) k_ga_reckon_39 rfl ?_
      refine tr_dup (pc := 41) k_ga_reckon_41 rfl ?_
      refine tr_getIx (pc := 42) k_ga_reckon_42 fl_ga_53 rfl rfl ?_
      refine tr_aload (pc := 45) k_ga_reckon_45 rfl ?_
      refine tr_iload_n (pc := 47) 1 k_ga_reckon_47 rfl rfl ?_
      have hT := hv
      clear hv
      refine tr_callV (pc := 48) (d' := d + 4) (mc' := 0) (ms' := 0) [vi x1] k_ga_reckon_48 ca_jn_drawAmong ml_ga_56 ii_jn_drawAmong ⟨by decide, rfl⟩ pa_jn_drawAmong (by omega) (by omega) (by omega) rfl (Nat.le_of_ble_eq_true rfl) (Nat.le_of_ble_eq_true rfl) hT (fun v h9 hv => ?_)
      clear hT
      obtain ⟨y3, rfl, hv⟩ := hv
      obtain ⟨h2, eh⟩ : ∃ z, z = h9 := ⟨_, rfl⟩
      subst eh
      obtain ⟨hskh2, hv⟩ := hv
      show mT g me_ga_reckon (d + 5) 0 0 51 [some (vr 1 0), some (vi x1), some (vi x2), some (vi x3), some (vr 7 n1)] [vi y3, vi (hI h 7 n1 10), vr 7 n1] h2 _
      refine tr_iload_n (pc := 51) 2 k_ga_reckon_51 rfl rfl ?_
      refine tr_if_eq (pc := 52) 63 k_ga_reckon_52 (by decide) (fun q => ?_) (fun q => ?_)
      · replace hv := hv.1 q
        refine tr_aload (pc := 63) k_ga_reckon_63 rfl ?_
        refine tr_getIx (pc := 65) k_ga_reckon_65 fl_ga_63 rfl rfl ?_
        refine tr_iadd (pc := 68) k_ga_reckon_68 ?_
        refine tr_iadd (pc := 69) k_ga_reckon_69 ?_
        refine tr_putI (pc := 70) k_ga_reckon_70 fl_ga_53 (Or.inl rfl) rfl ⟨rfl, rfl⟩ ?_
        refine tr_aload_n (pc := 73) 0 k_ga_reckon_73 rfl rfl ?_
        refine tr_aload (pc := 74) k_ga_reckon_74 rfl ?_
        refine tr_callV (pc := 76) (d' := d + 4) (mc' := 0) (ms' := 0) [vr 7 n1] k_ga_reckon_76 ca_ga_addFlowAhead ml_ga_66 ii_ga_addFlowAhead ⟨by decide, rfl⟩ pa_ga_addFlowAhead (by omega) (by omega) (by omega) rfl (Nat.le_of_ble_eq_true rfl) (Nat.le_of_ble_eq_true rfl) (Qk := fun v h9 => mT g me_ga_reckon (d + 5) 0 0 79 [some (vr 1 0), some (vi x1), some (vi x2), some (vi x3), some (vr 7 n1)] (v.toList ++ []) h9 _) ?_ (fun _ _ z => z)
        show mT g me_ga_addFlowAhead (d + 4) 0 0 0 [some (vr 1 0), some (vr 7 n1)] [] (setI h2 7 n1 10 ((hI h 7 n1 10) + (y3 + (hI h2 7 n1 6)))) _
        refine tr_aload_n (pc := 0) 1 k_ga_addFlowAhead_0 rfl rfl ?_
        rcases e5 : hP h2 7 n1 2 with _ | ⟨kq, n4⟩
        · replace hv := hv.1 e5
          refine tr_getP (pc := 1) k_ga_addFlowAhead_1 fl_ga_73 rfl (Eq.trans (hP_setI) e5) ?_
          refine tr_ifnonnull (pc := 4) 26 k_ga_addFlowAhead_4 (by decide) (fun _ => ?_) (fun _ _ q => by cases q)
          refine tr_aload_n (pc := 7) 1 k_ga_addFlowAhead_7 rfl rfl ?_
          obtain ⟨n6, e7, hv⟩ := hv
          refine tr_getP (pc := 8) k_ga_addFlowAhead_8 fl_ga_81 rfl (Eq.trans (hP_setI) e7) ?_
          refine tr_dup (pc := 11) k_ga_addFlowAhead_11 rfl ?_
          refine tr_getIx (pc := 12) k_ga_addFlowAhead_12 fl_ga_80 rfl (hI_nk (by decide)) ?_
          refine tr_aload_n (pc := 15) 1 k_ga_addFlowAhead_15 rfl rfl ?_
          refine tr_getIx (pc := 16) k_ga_addFlowAhead_16 fl_ga_53 rfl (hI_eq) ?_
          refine tr_iadd (pc := 19) k_ga_addFlowAhead_19 ?_
          refine tr_putI (pc := 20) k_ga_addFlowAhead_20 fl_ga_80 (Or.inl rfl) rfl ⟨rfl, rfl⟩ ?_
          refine tr_goto (pc := 23) 42 k_ga_addFlowAhead_23 (by decide) ?_
          refine tr_return (pc := 42) k_ga_addFlowAhead_42 rfl ?_
          show mT g me_ga_reckon (d + 5) 0 0 79 [some (vr 1 0), some (vi x1), some (vi x2), some (vi x3), some (vr 7 n1)] [] (setI (setI h2 7 n1 10 ((hI h 7 n1 10) + (y3 + (hI h2 7 n1 6)))) 6 n6 8 ((hI h2 6 n6 8) + ((hI h 7 n1 10) + (y3 + (hI h2 7 n1 6))))) _
          refine tr_iinc (pc := 79) (v := (x3 + (-1))) k_ga_reckon_79 rfl rfl (by decide) rfl ?_
          show mT g me_ga_reckon (d + 5) 0 0 82 [some (vr 1 0), some (vi x1), some (vi x2), some (vi (x3 + (-1))), some (vr 7 n1)] [] (setI (setI h2 7 n1 10 ((hI h 7 n1 10) + (y3 + (hI h2 7 n1 6)))) 6 n6 8 ((hI h2 6 n6 8) + ((hI h 7 n1 10) + (y3 + (hI h2 7 n1 6))))) _
          refine tr_goto (pc := 82) 14 k_ga_reckon_82 (by decide) ?_
          exact hv
        · have hw := hv.2 kq n4 e5
          clear hv
          obtain ⟨tq, hv⟩ := hw
          subst tq
          refine tr_getP (pc := 1) k_ga_addFlowAhead_1 fl_ga_73 rfl (Eq.trans (hP_setI) e5) ?_
          refine tr_ifnonnull (pc := 4) 26 k_ga_addFlowAhead_4 (by decide) (fun q => by cases q) (fun _ _ _ => ?_)
          refine tr_aload_n (pc := 26) 1 k_ga_addFlowAhead_26 rfl rfl ?_
          refine tr_getP (pc := 27) k_ga_addFlowAhead_27 fl_ga_73 rfl (Eq.trans (hP_setI) e5) ?_
          refine tr_dup (pc := 30) k_ga_addFlowAhead_30 rfl ?_
          refine tr_getIx (pc := 31) k_ga_addFlowAhead_31 fl_ga_53 rfl rfl ?_
          refine tr_aload_n (pc := 34) 1 k_ga_addFlowAhead_34 rfl rfl ?_
          refine tr_getIx (pc := 35) k_ga_addFlowAhead_35 fl_ga_53 rfl (hI_eq) ?_
          refine tr_iadd (pc := 38) k_ga_addFlowAhead_38 ?_
          refine tr_putI (pc := 39) k_ga_addFlowAhead_39 fl_ga_53 (Or.inl rfl) rfl ⟨rfl, rfl⟩ ?_
          refine tr_return (pc := 42) k_ga_addFlowAhead_42 rfl ?_
          show mT g me_ga_reckon (d + 5) 0 0 79 [some (vr 1 0), some (vi x1), some (vi x2), some (vi x3), some (vr 7 n1)] [] (setI (setI h2 7 n1 10 ((hI h 7 n1 10) + (y3 + (hI h2 7 n1 6)))) 7 n4 10 ((hI (setI h2 7 n1 10 ((hI h 7 n1 10) + (y3 + (hI h2 7 n1 6)))) 7 n4 10) + ((hI h 7 n1 10) + (y3 + (hI h2 7 n1 6))))) _
          refine tr_iinc (pc := 79) (v := (x3 + (-1))) k_ga_reckon_79 rfl rfl (by decide) rfl ?_
          show mT g me_ga_reckon (d + 5) 0 0 82 [some (vr 1 0), some (vi x1), some (vi x2), some (vi (x3 + (-1))), some (vr 7 n1)] [] (setI (setI h2 7 n1 10 ((hI h 7 n1 10) + (y3 + (hI h2 7 n1 6)))) 7 n4 10 ((hI (setI h2 7 n1 10 ((hI h 7 n1 10) + (y3 + (hI h2 7 n1 6)))) 7 n4 10) + ((hI h 7 n1 10) + (y3 + (hI h2 7 n1 6))))) _
          refine tr_goto (pc := 82) 14 k_ga_reckon_82 (by decide) ?_
          exact hv
      · replace hv := hv.2 q
        refine tr_aload (pc := 55) k_ga_reckon_55 rfl ?_
        refine tr_getIx (pc := 57) k_ga_reckon_57 fl_ga_60 rfl rfl ?_
        refine tr_goto (pc := 60) 68 k_ga_reckon_60 (by decide) ?_
        refine tr_iadd (pc := 68) k_ga_reckon_68 ?_
        refine tr_iadd (pc := 69) k_ga_reckon_69 ?_
        refine tr_putI (pc := 70) k_ga_reckon_70 fl_ga_53 (Or.inl rfl) rfl ⟨rfl, rfl⟩ ?_
        refine tr_aload_n (pc := 73) 0 k_ga_reckon_73 rfl rfl ?_
        refine tr_aload (pc := 74) k_ga_reckon_74 rfl ?_
        refine tr_callV (pc := 76) (d' := d + 4) (mc' := 0) (ms' := 0) [vr 7 n1] k_ga_reckon_76 ca_ga_addFlowAhead ml_ga_66 ii_ga_addFlowAhead ⟨by decide, rfl⟩ pa_ga_addFlowAhead (by omega) (by omega) (by omega) rfl (Nat.le_of_ble_eq_true rfl) (Nat.le_of_ble_eq_true rfl) (Qk := fun v h9 => mT g me_ga_reckon (d + 5) 0 0 79 [some (vr 1 0), some (vi x1), some (vi x2), some (vi x3), some (vr 7 n1)] (v.toList ++ []) h9 _) ?_ (fun _ _ z => z)
        show mT g me_ga_addFlowAhead (d + 4) 0 0 0 [some (vr 1 0), some (vr 7 n1)] [] (setI h2 7 n1 10 ((hI h 7 n1 10) + (y3 + (hI h2 7 n1 7)))) _
        refine tr_aload_n (pc := 0) 1 k_ga_addFlowAhead_0 rfl rfl ?_
        rcases e9 : hP h2 7 n1 2 with _ | ⟨kq, n8⟩
        · replace hv := hv.1 e9
          refine tr_getP (pc := 1) k_ga_addFlowAhead_1 fl_ga_73 rfl (Eq.trans (hP_setI) e9) ?_
          refine tr_ifnonnull (pc := 4) 26 k_ga_addFlowAhead_4 (by decide) (fun _ => ?_) (fun _ _ q => by cases q)
          refine tr_aload_n (pc := 7) 1 k_ga_addFlowAhead_7 rfl rfl ?_
          obtain ⟨n10, e11, hv⟩ := hv
          refine tr_getP (pc := 8) k_ga_addFlowAhead_8 fl_ga_81 rfl (Eq.trans (hP_setI) e11) ?_
          refine tr_dup (pc := 11) k_ga_addFlowAhead_11 rfl ?_
          refine tr_getIx (pc := 12) k_ga_addFlowAhead_12 fl_ga_80 rfl (hI_nk (by decide)) ?_
          refine tr_aload_n (pc := 15) 1 k_ga_addFlowAhead_15 rfl rfl ?_
          refine tr_getIx (pc := 16) k_ga_addFlowAhead_16 fl_ga_53 rfl (hI_eq) ?_
          refine tr_iadd (pc := 19) k_ga_addFlowAhead_19 ?_
          refine tr_putI (pc := 20) k_ga_addFlowAhead_20 fl_ga_80 (Or.inl rfl) rfl ⟨rfl, rfl⟩ ?_
          refine tr_goto (pc := 23) 42 k_ga_addFlowAhead_23 (by decide) ?_
          refine tr_return (pc := 42) k_ga_addFlowAhead_42 rfl ?_
          show mT g me_ga_reckon (d + 5) 0 0 79 [some (vr 1 0), some (vi x1), some (vi x2), some (vi x3), some (vr 7 n1)] [] (setI (setI h2 7 n1 10 ((hI h 7 n1 10) + (y3 + (hI h2 7 n1 7)))) 6 n10 8 ((hI h2 6 n10 8) + ((hI h 7 n1 10) + (y3 + (hI h2 7 n1 7))))) _
          refine tr_iinc (pc := 79) (v := (x3 + (-1))) k_ga_reckon_79 rfl rfl (by decide) rfl ?_
          show mT g me_ga_reckon (d + 5) 0 0 82 [some (vr 1 0), some (vi x1), some (vi x2), some (vi (x3 + (-1))), some (vr 7 n1)] [] (setI (setI h2 7 n1 10 ((hI h 7 n1 10) + (y3 + (hI h2 7 n1 7)))) 6 n10 8 ((hI h2 6 n10 8) + ((hI h 7 n1 10) + (y3 + (hI h2 7 n1 7))))) _
          refine tr_goto (pc := 82) 14 k_ga_reckon_82 (by decide) ?_
          exact hv
        · have hw := hv.2 kq n8 e9
          clear hv
          obtain ⟨tq, hv⟩ := hw
          subst tq
          refine tr_getP (pc := 1) k_ga_addFlowAhead_1 fl_ga_73 rfl (Eq.trans (hP_setI) e9) ?_
          refine tr_ifnonnull (pc := 4) 26 k_ga_addFlowAhead_4 (by decide) (fun q => by cases q) (fun _ _ _ => ?_)
          refine tr_aload_n (pc := 26) 1 k_ga_addFlowAhead_26 rfl rfl ?_
          refine tr_getP (pc := 27) k_ga_addFlowAhead_27 fl_ga_73 rfl (Eq.trans (hP_setI) e9) ?_
          refine tr_dup (pc := 30) k_ga_addFlowAhead_30 rfl ?_
          refine tr_getIx (pc := 31) k_ga_addFlowAhead_31 fl_ga_53 rfl rfl ?_
          refine tr_aload_n (pc := 34) 1 k_ga_addFlowAhead_34 rfl rfl ?_
          refine tr_getIx (pc := 35) k_ga_addFlowAhead_35 fl_ga_53 rfl (hI_eq) ?_
          refine tr_iadd (pc := 38) k_ga_addFlowAhead_38 ?_
          refine tr_putI (pc := 39) k_ga_addFlowAhead_39 fl_ga_53 (Or.inl rfl) rfl ⟨rfl, rfl⟩ ?_
          refine tr_return (pc := 42) k_ga_addFlowAhead_42 rfl ?_
          show mT g me_ga_reckon (d + 5) 0 0 79 [some (vr 1 0), some (vi x1), some (vi x2), some (vi x3), some (vr 7 n1)] [] (setI (setI h2 7 n1 10 ((hI h 7 n1 10) + (y3 + (hI h2 7 n1 7)))) 7 n8 10 ((hI (setI h2 7 n1 10 ((hI h 7 n1 10) + (y3 + (hI h2 7 n1 7)))) 7 n8 10) + ((hI h 7 n1 10) + (y3 + (hI h2 7 n1 7))))) _
          refine tr_iinc (pc := 79) (v := (x3 + (-1))) k_ga_reckon_79 rfl rfl (by decide) rfl ?_
          show mT g me_ga_reckon (d + 5) 0 0 82 [some (vr 1 0), some (vi x1), some (vi x2), some (vi (x3 + (-1))), some (vr 7 n1)] [] (setI (setI h2 7 n1 10 ((hI h 7 n1 10) + (y3 + (hI h2 7 n1 7)))) 7 n8 10 ((hI (setI h2 7 n1 10 ((hI h 7 n1 10) + (y3 + (hI h2 7 n1 7)))) 7 n8 10) + ((hI h 7 n1 10) + (y3 + (hI h2 7 n1 7))))) _
          refine tr_goto (pc := 82) 14 k_ga_reckon_82 (by decide) ?_
          exact hv
theorem v_ga_reckon_87 {g : mG} {d : Nat} (x1 : Int32) (x2 : Int32) (x3 : Int32) (o4 : Option mV) {h : mH} {Q : Option mV → mH → Prop} (hsk : mSK h) (hv : (((hI h 2 1 1) ≤ x3 → Q none h) ∧ (¬ (hI h 2 1 1) ≤ x3 → (∃ n1, mGet h 1 x3 (some (7, n1)) ∧ mT g me_jn_lossNow (d + 4) 0 0 0 [some (vr 7 n1), none, none] [] h (fun v h2 => ∃ y3, v = some (vi y3) ∧ mSK h2 ∧ ((hP h2 7 n1 2 = none → mT g me_ga_reckon (d + 5) 0 0 87 [some (vr 1 0), some (vi x1), some (vi x2), some (vi (x3 + 1)), some (vr 7 n1)] [] (setI h2 7 n1 11 (y3 + (0 : Int32))) Q) ∧ (∀ kq n4, hP h2 7 n1 2 = some (kq, n4) → kq = 7 ∧ mT g me_ga_reckon (d + 5) 0 0 87 [some (vr 1 0), some (vi x1), some (vi x2), some (vi (x3 + 1)), some (vr 7 n1)] [] (setI h2 7 n1 11 (y3 + (hI h2 7 n4 11))) Q))))))) : mT g me_ga_reckon (d + 5) 0 0 87 [some (vr 1 0), some (vi x1), some (vi x2), some (vi x3), o4] [] h Q := by
  refine tr_iload_n (pc := 87) 3 k_ga_reckon_87 rfl rfl ?_
  refine tr_aload_n (pc := 88) 0 k_ga_reckon_88 rfl rfl ?_
  refine tr_getP (pc := 89) k_ga_reckon_89 fl_ga_18 rfl (Eq.trans rfl (hsk.1 1 1 _ rfl)) ?_
  refine tr_callV (pc := 92) (d' := d + 4) (mc' := 0) (ms' := 0) [] k_ga_reckon_92 ca_al_size ml_ga_24 ii_al_size ⟨by decide, rfl⟩ pa_al_size (by omega) (by omega) (by omega) rfl (Nat.le_of_ble_eq_true rfl) (Nat.le_of_ble_eq_true rfl) (Qk := fun v h9 => mT g me_ga_reckon (d + 5) 0 0 95 [some (vr 1 0), some (vi x1), some (vi x2), some (vi x3), o4] (v.toList ++ [vi x3]) h9 _) ?_ (fun _ _ z => z)
  show mT g me_al_size (d + 4) 0 0 0 [some (vr 2 1)] [] h _
  refine tr_aload_n (pc := 0) 0 k_al_size_0 rfl rfl ?_
  refine tr_getIx (pc := 1) k_al_size_1 fl_al_48 rfl rfl ?_
  refine tr_ireturn (pc := 4) k_al_size_4 rfl rfl ?_
  show mT g me_ga_reckon (d + 5) 0 0 95 [some (vr 1 0), some (vi x1), some (vi x2), some (vi x3), o4] [vi (hI h 2 1 1), vi x3] h _
  refine tr_icmp_ge (pc := 95) 148 k_ga_reckon_95 (by decide) (fun q => ?_) (fun q => ?_)
  · replace hv := hv.1 q
    refine tr_return (pc := 148) k_ga_reckon_148 rfl ?_
    exact hv
  · replace hv := hv.2 q
    refine tr_aload_n (pc := 98) 0 k_ga_reckon_98 rfl rfl ?_
    refine tr_getP (pc := 99) k_ga_reckon_99 fl_ga_18 rfl (Eq.trans rfl (hsk.1 1 1 _ rfl)) ?_
    refine tr_iload_n (pc := 102) 3 k_ga_reckon_102 rfl rfl ?_
    obtain ⟨n1, hg, hv⟩ := hv
    refine tr_alget (pc := 103) k_ga_reckon_103 ml_ga_28 (by omega) (Nat.le_of_ble_eq_true rfl) (mGet.up hg rfl rfl) ?_
    refine tr_cast (pc := 106) k_ga_reckon_106 (by decide) cl_ga_34 ?_
    refine tr_astore (pc := 109) k_ga_reckon_109 (by decide) rfl ?_
    show mT g me_ga_reckon (d + 5) 0 0 111 [some (vr 1 0), some (vi x1), some (vi x2), some (vi x3), some (vr 7 n1)] [] h _
    refine tr_aload (pc := 111) k_ga_reckon_111 rfl ?_
    refine tr_aload (pc := 113) k_ga_reckon_113 rfl ?_
    have hT := hv
    clear hv
    refine tr_callV (pc := 115) (d' := d + 4) (mc' := 0) (ms' := 0) [] k_ga_reckon_115 ca_jn_lossNow ml_ga_70 ii_jn_lossNow ⟨by decide, rfl⟩ pa_jn_lossNow (by omega) (by omega) (by omega) rfl (Nat.le_of_ble_eq_true rfl) (Nat.le_of_ble_eq_true rfl) hT (fun v h9 hv => ?_)
    clear hT
    obtain ⟨y3, rfl, hv⟩ := hv
    obtain ⟨h2, eh⟩ : ∃ z, z = h9 := ⟨_, rfl⟩
    subst eh
    obtain ⟨hskh2, hv⟩ := hv
    show mT g me_ga_reckon (d + 5) 0 0 118 [some (vr 1 0), some (vi x1), some (vi x2), some (vi x3), some (vr 7 n1)] [vi y3, vr 7 n1] h2 _
    refine tr_aload (pc := 118) k_ga_reckon_118 rfl ?_
    rcases e5 : hP h2 7 n1 2 with _ | ⟨kq, n4⟩
    · replace hv := hv.1 e5
      refine tr_getP (pc := 120) k_ga_reckon_120 fl_ga_73 rfl (Eq.trans rfl e5) ?_
      refine tr_ifnonnull (pc := 123) 130 k_ga_reckon_123 (by decide) (fun _ => ?_) (fun _ _ q => by cases q)
      refine tr_iconst (pc := 126) (v := 0) k_ga_reckon_126 (by decide) ?_
      refine tr_goto (pc := 127) 138 k_ga_reckon_127 (by decide) ?_
      refine tr_iadd (pc := 138) k_ga_reckon_138 ?_
      refine tr_putI (pc := 139) k_ga_reckon_139 fl_ga_77 (Or.inl rfl) rfl ⟨rfl, rfl⟩ ?_
      refine tr_iinc (pc := 142) (v := (x3 + 1)) k_ga_reckon_142 rfl rfl (by decide) rfl ?_
      show mT g me_ga_reckon (d + 5) 0 0 145 [some (vr 1 0), some (vi x1), some (vi x2), some (vi (x3 + 1)), some (vr 7 n1)] [] (setI h2 7 n1 11 (y3 + (0 : Int32))) _
      refine tr_goto (pc := 145) 87 k_ga_reckon_145 (by decide) ?_
      exact hv
    · have hw := hv.2 kq n4 e5
      clear hv
      obtain ⟨tq, hv⟩ := hw
      subst tq
      refine tr_getP (pc := 120) k_ga_reckon_120 fl_ga_73 rfl (Eq.trans rfl e5) ?_
      refine tr_ifnonnull (pc := 123) 130 k_ga_reckon_123 (by decide) (fun q => by cases q) (fun _ _ _ => ?_)
      refine tr_aload (pc := 130) k_ga_reckon_130 rfl ?_
      refine tr_getP (pc := 132) k_ga_reckon_132 fl_ga_73 rfl (Eq.trans rfl e5) ?_
      refine tr_getIx (pc := 135) k_ga_reckon_135 fl_ga_77 rfl rfl ?_
      refine tr_iadd (pc := 138) k_ga_reckon_138 ?_
      refine tr_putI (pc := 139) k_ga_reckon_139 fl_ga_77 (Or.inl rfl) rfl ⟨rfl, rfl⟩ ?_
      refine tr_iinc (pc := 142) (v := (x3 + 1)) k_ga_reckon_142 rfl rfl (by decide) rfl ?_
      show mT g me_ga_reckon (d + 5) 0 0 145 [some (vr 1 0), some (vi x1), some (vi x2), some (vi (x3 + 1)), some (vr 7 n1)] [] (setI h2 7 n1 11 (y3 + (hI h2 7 n4 11))) _
      refine tr_goto (pc := 145) 87 k_ga_reckon_145 (by decide) ?_
      exact hv
theorem v_ga_forgetFlows_0 {g : mG} {d : Nat}  {h : mH} {Q : Option mV → mH → Prop} (hsk : mSK h) (hv : mT g me_ga_forgetFlows (d + 4) 0 0 2 [some (vr 1 0), some (vi (0 : Int32))] [] h Q) : mT g me_ga_forgetFlows (d + 4) 0 0 0 [some (vr 1 0), none] [] h Q := by
  refine tr_iconst (pc := 0) (v := 0) k_ga_forgetFlows_0 (by decide) ?_
  refine tr_istore_n (pc := 1) 1 k_ga_forgetFlows_1 rfl (by decide) rfl ?_
  show mT g me_ga_forgetFlows (d + 4) 0 0 2 [some (vr 1 0), some (vi (0 : Int32))] [] h _
  exact hv
theorem v_ga_forgetFlows_2 {g : mG} {d : Nat} (x1 : Int32) {h : mH} {Q : Option mV → mH → Prop} (hsk : mSK h) (hv : (((hI h 2 0 1) ≤ x1 → mT g me_ga_forgetFlows (d + 4) 0 0 36 [some (vr 1 0), some (vi (0 : Int32))] [] h Q) ∧ (¬ (hI h 2 0 1) ≤ x1 → (∃ n1, mGet h 0 x1 (some (6, n1)) ∧ mT g me_ga_forgetFlows (d + 4) 0 0 2 [some (vr 1 0), some (vi (x1 + 1))] [] (setI h 6 n1 8 (0 : Int32)) Q)))) : mT g me_ga_forgetFlows (d + 4) 0 0 2 [some (vr 1 0), some (vi x1)] [] h Q := by
  refine tr_iload_n (pc := 2) 1 k_ga_forgetFlows_2 rfl rfl ?_
  refine tr_aload_n (pc := 3) 0 k_ga_forgetFlows_3 rfl rfl ?_
  refine tr_getP (pc := 4) k_ga_forgetFlows_4 fl_ga_12 rfl (Eq.trans rfl (hsk.1 1 0 _ rfl)) ?_
  refine tr_callV (pc := 7) (d' := d + 3) (mc' := 0) (ms' := 0) [] k_ga_forgetFlows_7 ca_al_size ml_ga_24 ii_al_size ⟨by decide, rfl⟩ pa_al_size (by omega) (by omega) (by omega) rfl (Nat.le_of_ble_eq_true rfl) (Nat.le_of_ble_eq_true rfl) (Qk := fun v h9 => mT g me_ga_forgetFlows (d + 4) 0 0 10 [some (vr 1 0), some (vi x1)] (v.toList ++ [vi x1]) h9 _) ?_ (fun _ _ z => z)
  show mT g me_al_size (d + 3) 0 0 0 [some (vr 2 0)] [] h _
  refine tr_aload_n (pc := 0) 0 k_al_size_0 rfl rfl ?_
  refine tr_getIx (pc := 1) k_al_size_1 fl_al_48 rfl rfl ?_
  refine tr_ireturn (pc := 4) k_al_size_4 rfl rfl ?_
  show mT g me_ga_forgetFlows (d + 4) 0 0 10 [some (vr 1 0), some (vi x1)] [vi (hI h 2 0 1), vi x1] h _
  refine tr_icmp_ge (pc := 10) 34 k_ga_forgetFlows_10 (by decide) (fun q => ?_) (fun q => ?_)
  · replace hv := hv.1 q
    refine tr_iconst (pc := 34) (v := 0) k_ga_forgetFlows_34 (by decide) ?_
    refine tr_istore_n (pc := 35) 1 k_ga_forgetFlows_35 rfl (by decide) rfl ?_
    show mT g me_ga_forgetFlows (d + 4) 0 0 36 [some (vr 1 0), some (vi (0 : Int32))] [] h _
    exact hv
  · replace hv := hv.2 q
    refine tr_aload_n (pc := 13) 0 k_ga_forgetFlows_13 rfl rfl ?_
    refine tr_getP (pc := 14) k_ga_forgetFlows_14 fl_ga_12 rfl (Eq.trans rfl (hsk.1 1 0 _ rfl)) ?_
    refine tr_iload_n (pc := 17) 1 k_ga_forgetFlows_17 rfl rfl ?_
    obtain ⟨n1, hg, hv⟩ := hv
    refine tr_alget (pc := 18) k_ga_forgetFlows_18 ml_ga_28 (by omega) (Nat.le_of_ble_eq_true rfl) (mGet.up hg rfl rfl) ?_
    refine tr_cast (pc := 21) k_ga_forgetFlows_21 (by decide) cl_ga_32 ?_
    refine tr_iconst (pc := 24) (v := 0) k_ga_forgetFlows_24 (by decide) ?_
    refine tr_putI (pc := 25) k_ga_forgetFlows_25 fl_ga_80 (Or.inl rfl) rfl ⟨rfl, rfl⟩ ?_
    refine tr_iinc (pc := 28) (v := (x1 + 1)) k_ga_forgetFlows_28 rfl rfl (by decide) rfl ?_
    show mT g me_ga_forgetFlows (d + 4) 0 0 31 [some (vr 1 0), some (vi (x1 + 1))] [] (setI h 6 n1 8 (0 : Int32)) _
    refine tr_goto (pc := 31) 2 k_ga_forgetFlows_31 (by decide) ?_
    exact hv
theorem v_ga_forgetFlows_36 {g : mG} {d : Nat} (x1 : Int32) {h : mH} {Q : Option mV → mH → Prop} (hsk : mSK h) (hv : (((hI h 2 1 1) ≤ x1 → Q none h) ∧ (¬ (hI h 2 1 1) ≤ x1 → (∃ n1, mGet h 1 x1 (some (7, n1)) ∧ mT g me_ga_forgetFlows (d + 4) 0 0 36 [some (vr 1 0), some (vi (x1 + 1))] [] (setI h 7 n1 10 (0 : Int32)) Q)))) : mT g me_ga_forgetFlows (d + 4) 0 0 36 [some (vr 1 0), some (vi x1)] [] h Q := by
  refine tr_iload_n (pc := 36) 1 k_ga_forgetFlows_36 rfl rfl ?_
  refine tr_aload_n (pc := 37) 0 k_ga_forgetFlows_37 rfl rfl ?_
  refine tr_getP (pc := 38) k_ga_forgetFlows_38 fl_ga_18 rfl (Eq.trans rfl (hsk.1 1 1 _ rfl)) ?_
  refine tr_callV (pc := 41) (d' := d + 3) (mc' := 0) (ms' := 0) [] k_ga_forgetFlows_41 ca_al_size ml_ga_24 ii_al_size ⟨by decide, rfl⟩ pa_al_size (by omega) (by omega) (by omega) rfl (Nat.le_of_ble_eq_true rfl) (Nat.le_of_ble_eq_true rfl) (Qk := fun v h9 => mT g me_ga_forgetFlows (d + 4) 0 0 44 [some (vr 1 0), some (vi x1)] (v.toList ++ [vi x1]) h9 _) ?_ (fun _ _ z => z)
  show mT g me_al_size (d + 3) 0 0 0 [some (vr 2 1)] [] h _
  refine tr_aload_n (pc := 0) 0 k_al_size_0 rfl rfl ?_
  refine tr_getIx (pc := 1) k_al_size_1 fl_al_48 rfl rfl ?_
  refine tr_ireturn (pc := 4) k_al_size_4 rfl rfl ?_
  show mT g me_ga_forgetFlows (d + 4) 0 0 44 [some (vr 1 0), some (vi x1)] [vi (hI h 2 1 1), vi x1] h _
  refine tr_icmp_ge (pc := 44) 68 k_ga_forgetFlows_44 (by decide) (fun q => ?_) (fun q => ?_)
  · replace hv := hv.1 q
    refine tr_return (pc := 68) k_ga_forgetFlows_68 rfl ?_
    exact hv
  · replace hv := hv.2 q
    refine tr_aload_n (pc := 47) 0 k_ga_forgetFlows_47 rfl rfl ?_
    refine tr_getP (pc := 48) k_ga_forgetFlows_48 fl_ga_18 rfl (Eq.trans rfl (hsk.1 1 1 _ rfl)) ?_
    refine tr_iload_n (pc := 51) 1 k_ga_forgetFlows_51 rfl rfl ?_
    obtain ⟨n1, hg, hv⟩ := hv
    refine tr_alget (pc := 52) k_ga_forgetFlows_52 ml_ga_28 (by omega) (Nat.le_of_ble_eq_true rfl) (mGet.up hg rfl rfl) ?_
    refine tr_cast (pc := 55) k_ga_forgetFlows_55 (by decide) cl_ga_34 ?_
    refine tr_iconst (pc := 58) (v := 0) k_ga_forgetFlows_58 (by decide) ?_
    refine tr_putI (pc := 59) k_ga_forgetFlows_59 fl_ga_53 (Or.inl rfl) rfl ⟨rfl, rfl⟩ ?_
    refine tr_iinc (pc := 62) (v := (x1 + 1)) k_ga_forgetFlows_62 rfl rfl (by decide) rfl ?_
    show mT g me_ga_forgetFlows (d + 4) 0 0 65 [some (vr 1 0), some (vi (x1 + 1))] [] (setI h 7 n1 10 (0 : Int32)) _
    refine tr_goto (pc := 65) 36 k_ga_forgetFlows_65 (by decide) ?_
    exact hv
theorem v_jn_drawAmong_0 {g : mG} {d : Nat} (a0 : Nat) (x1 : Int32) {h : mH} {Q : Option mV → mH → Prop} (hsk : mSK h) (hv : ((hP h 7 a0 9 = none → Q (some (vi (0 : Int32))) h) ∧ (∀ kq n1, hP h 7 a0 9 = some (kq, n1) → kq = 8 ∧ (((x1 &&& (hI h 8 n1 1)) = 0 → Q (some (vi (0 : Int32))) h) ∧ (¬ (x1 &&& (hI h 8 n1 1)) = 0 → Q (some (vi (hI h 8 n1 3))) h))))) : mT g me_jn_drawAmong (d + 2) 0 0 0 [some (vr 7 a0), some (vi x1)] [] h Q := by
  refine tr_aload_n (pc := 0) 0 k_jn_drawAmong_0 rfl rfl ?_
  rcases e2 : hP h 7 a0 9 with _ | ⟨kq, n1⟩
  · replace hv := hv.1 e2
    refine tr_getP (pc := 1) k_jn_drawAmong_1 fl_jn_48 rfl (Eq.trans rfl e2) ?_
    refine tr_ifnull (pc := 4) 28 k_jn_drawAmong_4 (by decide) (fun _ => ?_) (fun _ _ q => by cases q)
    refine tr_iconst (pc := 28) (v := 0) k_jn_drawAmong_28 (by decide) ?_
    refine tr_ireturn (pc := 29) k_jn_drawAmong_29 rfl rfl ?_
    exact hv
  · have hw := hv.2 kq n1 e2
    clear hv
    obtain ⟨tq, hv⟩ := hw
    subst tq
    refine tr_getP (pc := 1) k_jn_drawAmong_1 fl_jn_48 rfl (Eq.trans rfl e2) ?_
    refine tr_ifnull (pc := 4) 28 k_jn_drawAmong_4 (by decide) (fun q => by cases q) (fun _ _ _ => ?_)
    refine tr_aload_n (pc := 7) 0 k_jn_drawAmong_7 rfl rfl ?_
    refine tr_getP (pc := 8) k_jn_drawAmong_8 fl_jn_48 rfl (Eq.trans rfl e2) ?_
    refine tr_iload_n (pc := 11) 1 k_jn_drawAmong_11 rfl rfl ?_
    refine tr_callV (pc := 12) (d' := d + 1) (mc' := 0) (ms' := 0) [vi x1] k_jn_drawAmong_12 ca_je_isIn ml_jn_52 ii_je_isIn ⟨by decide, rfl⟩ pa_je_isIn (by omega) (by omega) (by omega) rfl (Nat.le_of_ble_eq_true rfl) (Nat.le_of_ble_eq_true rfl) (Qk := fun v h9 => mT g me_jn_drawAmong (d + 2) 0 0 15 [some (vr 7 a0), some (vi x1)] (v.toList ++ []) h9 _) ?_ (fun _ _ z => z)
    show mT g me_je_isIn (d + 1) 0 0 0 [some (vr 8 n1), some (vi x1)] [] h _
    refine tr_iload_n (pc := 0) 1 k_je_isIn_0 rfl rfl ?_
    refine tr_aload_n (pc := 1) 0 k_je_isIn_1 rfl rfl ?_
    refine tr_getIx (pc := 2) k_je_isIn_2 fl_je_13 rfl rfl ?_
    refine tr_iand (pc := 5) k_je_isIn_5 ?_
    refine tr_if_eq (pc := 6) 13 k_je_isIn_6 (by decide) (fun q => ?_) (fun q => ?_)
    · replace hv := hv.1 q
      refine tr_iconst (pc := 13) (v := 0) k_je_isIn_13 (by decide) ?_
      refine tr_ireturn (pc := 14) k_je_isIn_14 rfl rfl ?_
      show mT g me_jn_drawAmong (d + 2) 0 0 15 [some (vr 7 a0), some (vi x1)] [vi (0 : Int32)] h _
      refine tr_if_eq (pc := 15) 28 k_jn_drawAmong_15 (by decide) (fun _ => ?_) (fun q => absurd q (by decide))
      refine tr_iconst (pc := 28) (v := 0) k_jn_drawAmong_28 (by decide) ?_
      refine tr_ireturn (pc := 29) k_jn_drawAmong_29 rfl rfl ?_
      exact hv
    · replace hv := hv.2 q
      refine tr_iconst (pc := 9) (v := 1) k_je_isIn_9 (by decide) ?_
      refine tr_goto (pc := 10) 14 k_je_isIn_10 (by decide) ?_
      refine tr_ireturn (pc := 14) k_je_isIn_14 rfl rfl ?_
      show mT g me_jn_drawAmong (d + 2) 0 0 15 [some (vr 7 a0), some (vi x1)] [vi (1 : Int32)] h _
      refine tr_if_eq (pc := 15) 28 k_jn_drawAmong_15 (by decide) (fun q => absurd q (by decide)) (fun _ => ?_)
      refine tr_aload_n (pc := 18) 0 k_jn_drawAmong_18 rfl rfl ?_
      refine tr_getP (pc := 19) k_jn_drawAmong_19 fl_jn_48 rfl (Eq.trans rfl e2) ?_
      refine tr_getIx (pc := 22) k_jn_drawAmong_22 fl_jn_58 rfl rfl ?_
      refine tr_goto (pc := 25) 29 k_jn_drawAmong_25 (by decide) ?_
      refine tr_ireturn (pc := 29) k_jn_drawAmong_29 rfl rfl ?_
      exact hv
theorem v_jn_lossNow_0 {g : mG} {d : Nat} (a0 : Nat) {h : mH} {Q : Option mV → mH → Prop} (hsk : mSK h) (hv : ((0 ≤ (lg_cmp (((100 : Int64) * (Int32.toInt64 (hI h 7 a0 5))) * (Int32.toInt64 (hI h 7 a0 5))) (1 : Int64)) → (¬ (((100 : Int64) * (Int32.toInt64 (hI h 7 a0 5))) * (Int32.toInt64 (hI h 7 a0 5))) = 0 ∧ Q (some (vi (Int64.toInt32 ((((Int32.toInt64 (hI h 7 a0 10)) * (Int32.toInt64 (hI h 7 a0 10))) * (Int32.toInt64 (hI h 7 a0 4))) / (((100 : Int64) * (Int32.toInt64 (hI h 7 a0 5))) * (Int32.toInt64 (hI h 7 a0 5))))))) h)) ∧ (¬ 0 ≤ (lg_cmp (((100 : Int64) * (Int32.toInt64 (hI h 7 a0 5))) * (Int32.toInt64 (hI h 7 a0 5))) (1 : Int64)) → Q (some (vi (0 : Int32))) h))) : mT g me_jn_lossNow (d + 1) 0 0 0 [some (vr 7 a0), none, none] [] h Q := by
  refine tr_ldc2 (pc := 0) (v := 100) k_jn_lossNow_0 co_jn_30 ?_
  refine tr_aload_n (pc := 3) 0 k_jn_lossNow_3 rfl rfl ?_
  refine tr_getIx (pc := 4) k_jn_lossNow_4 fl_jn_24 rfl rfl ?_
  refine tr_i2l (pc := 7) k_jn_lossNow_7 ?_
  refine tr_lmul (pc := 8) k_jn_lossNow_8 ?_
  refine tr_aload_n (pc := 9) 0 k_jn_lossNow_9 rfl rfl ?_
  refine tr_getIx (pc := 10) k_jn_lossNow_10 fl_jn_24 rfl rfl ?_
  refine tr_i2l (pc := 13) k_jn_lossNow_13 ?_
  refine tr_lmul (pc := 14) k_jn_lossNow_14 ?_
  refine tr_lstore_n (pc := 15) 1 k_jn_lossNow_15 rfl (by decide) rfl ?_
  show mT g me_jn_lossNow (d + 1) 0 0 16 [some (vr 7 a0), some (vl (((100 : Int64) * (Int32.toInt64 (hI h 7 a0 5))) * (Int32.toInt64 (hI h 7 a0 5)))), none] [] h _
  refine tr_lload_n (pc := 16) 1 k_jn_lossNow_16 rfl rfl ?_
  refine tr_lconst (pc := 17) (v := 1) k_jn_lossNow_17 (by decide) ?_
  refine tr_lcmp (pc := 18) k_jn_lossNow_18 ?_
  refine tr_if_ge (pc := 19) 26 k_jn_lossNow_19 (by decide) (fun q => ?_) (fun q => ?_)
  · replace hv := hv.1 q
    refine tr_aload_n (pc := 26) 0 k_jn_lossNow_26 rfl rfl ?_
    refine tr_getIx (pc := 27) k_jn_lossNow_27 fl_jn_32 rfl rfl ?_
    refine tr_i2l (pc := 30) k_jn_lossNow_30 ?_
    refine tr_aload_n (pc := 31) 0 k_jn_lossNow_31 rfl rfl ?_
    refine tr_getIx (pc := 32) k_jn_lossNow_32 fl_jn_32 rfl rfl ?_
    refine tr_i2l (pc := 35) k_jn_lossNow_35 ?_
    refine tr_lmul (pc := 36) k_jn_lossNow_36 ?_
    refine tr_aload_n (pc := 37) 0 k_jn_lossNow_37 rfl rfl ?_
    refine tr_getIx (pc := 38) k_jn_lossNow_38 fl_jn_27 rfl rfl ?_
    refine tr_i2l (pc := 41) k_jn_lossNow_41 ?_
    refine tr_lmul (pc := 42) k_jn_lossNow_42 ?_
    refine tr_lload_n (pc := 43) 1 k_jn_lossNow_43 rfl rfl ?_
    refine tr_ldiv (pc := 44) k_jn_lossNow_44 hv.1 ?_
    replace hv := hv.2
    refine tr_l2i (pc := 45) k_jn_lossNow_45 ?_
    refine tr_ireturn (pc := 46) k_jn_lossNow_46 rfl rfl ?_
    exact hv
  · replace hv := hv.2 q
    refine tr_iconst (pc := 22) (v := 0) k_jn_lossNow_22 (by decide) ?_
    refine tr_goto (pc := 23) 46 k_jn_lossNow_23 (by decide) ?_
    refine tr_ireturn (pc := 46) k_jn_lossNow_46 rfl rfl ?_
    exact hv
theorem v_fn_head_0 {g : mG} {d : Nat} (x1 : Int32) {h : mH} {Q : Option mV → mH → Prop} (hsk : mSK h) (hv : mT g me_ga_jointAt (d + 6) 0 0 0 [some (vr 1 0), some (vi x1)] [] h (fun v h1 => ∃ p2, v = some (vp p2) ∧ mSK h1 ∧ ((p2 = none → mT g me_fn_refuse (d + 5) 0 0 0 [some (vr 0 0), some (vi (-1 : Int32)), none] [] h1 (fun v h4 => ∃ y5, v = some (vi y5) ∧ mSK h4 ∧ Q (some (vi ((1000000000 : Int32) - y5))) h4)) ∧ (∀ kq n3, p2 = some (kq, n3) → kq = 7 ∧ mT g me_ga_reckonAsItIs (d + 6) 0 0 0 [some (vr 1 0)] [] h1 (fun v h6 => v = none ∧ mSK h6 ∧ (∃ n7, hP h6 7 n3 1 = some (6, n7) ∧ ((¬ (hI h6 7 n3 8) = 0 → Q (some (vi (0 : Int32))) h6) ∧ ((hI h6 7 n3 8) = 0 → ((¬ (hI h6 6 n7 5) = 0 → (((1 : Int32) ≤ (hI h6 6 n7 2) → (¬ (hI h6 6 n7 2) = 0 ∧ Q (some (vi ((((hI h6 6 n7 1) + ((hI h6 6 n7 5) / (hI h6 6 n7 2))) - (hI h6 7 n3 11)) - (hI h6 7 n3 3)))) h6)) ∧ (¬ (1 : Int32) ≤ (hI h6 6 n7 2) → Q (some (vi (((hI h6 6 n7 1) - (hI h6 7 n3 11)) - (hI h6 7 n3 3)))) h6))) ∧ ((hI h6 6 n7 5) = 0 → Q (some (vi (0 : Int32))) h6)))))))))) : mT g me_fn_head (d + 7) 0 0 0 [some (vr 0 0), some (vi x1), none] [] h Q := by
  refine tr_aload_n (pc := 0) 0 k_fn_head_0 rfl rfl ?_
  refine tr_getP (pc := 1) k_fn_head_1 fl_fn_12 rfl (Eq.trans rfl (hsk.1 0 0 _ rfl)) ?_
  refine tr_iload_n (pc := 4) 1 k_fn_head_4 rfl rfl ?_
  have hT := hv
  clear hv
  refine tr_callV (pc := 5) (d' := d + 6) (mc' := 0) (ms' := 0) [vi x1] k_fn_head_5 ca_ga_jointAt ml_fn_89 ii_ga_jointAt ⟨by decide, rfl⟩ pa_ga_jointAt (by omega) (by omega) (by omega) rfl (Nat.le_of_ble_eq_true rfl) (Nat.le_of_ble_eq_true rfl) hT (fun v h9 hv => ?_)
  clear hT
  obtain ⟨p2, rfl, hv⟩ := hv
  obtain ⟨h1, eh⟩ : ∃ z, z = h9 := ⟨_, rfl⟩
  subst eh
  obtain ⟨hskh1, hv⟩ := hv
  show mT g me_fn_head (d + 7) 0 0 8 [some (vr 0 0), some (vi x1), none] [vp p2] h1 _
  refine tr_astore_n (pc := 8) 2 k_fn_head_8 rfl (by decide) rfl ?_
  show mT g me_fn_head (d + 7) 0 0 9 [some (vr 0 0), some (vi x1), some (vp p2)] [] h1 _
  refine tr_aload_n (pc := 9) 2 k_fn_head_9 rfl rfl ?_
  rcases p2 with _ | ⟨kq, n3⟩
  · replace hv := hv.1 rfl
    refine tr_ifnonnull (pc := 10) 19 k_fn_head_10 (by decide) (fun _ => ?_) (fun _ _ q => by cases q)
    refine tr_aload_n (pc := 13) 0 k_fn_head_13 rfl rfl ?_
    refine tr_iconst (pc := 14) (v := -1) k_fn_head_14 (by decide) ?_
    refine tr_callV (pc := 15) (d' := d + 6) (mc' := 0) (ms' := 0) [vi (-1 : Int32)] k_fn_head_15 ca_fn_refuseAsTold ml_fn_150 ii_fn_refuseAsTold ⟨by decide, rfl⟩ pa_fn_refuseAsTold (by omega) (by omega) (by omega) rfl (Nat.le_of_ble_eq_true rfl) (Nat.le_of_ble_eq_true rfl) (Qk := fun v h9 => mT g me_fn_head (d + 7) 0 0 18 [some (vr 0 0), some (vi x1), some (vn)] (v.toList ++ []) h9 _) ?_ (fun _ _ z => z)
    show mT g me_fn_refuseAsTold (d + 6) 0 0 0 [some (vr 0 0), some (vi (-1 : Int32))] [] h1 _
    refine tr_ldcw (pc := 0) (v := 1000000000) k_fn_refuseAsTold_0 co_fn_307 ?_
    refine tr_aload_n (pc := 3) 0 k_fn_refuseAsTold_3 rfl rfl ?_
    refine tr_iload_n (pc := 4) 1 k_fn_refuseAsTold_4 rfl rfl ?_
    have hT := hv
    clear hv
    refine tr_callV (pc := 5) (d' := d + 5) (mc' := 0) (ms' := 0) [vi (-1 : Int32)] k_fn_refuseAsTold_5 ca_fn_refuse ml_fn_56 ii_fn_refuse ⟨by decide, rfl⟩ pa_fn_refuse (by omega) (by omega) (by omega) rfl (Nat.le_of_ble_eq_true rfl) (Nat.le_of_ble_eq_true rfl) hT (fun v h9 hv => ?_)
    clear hT
    obtain ⟨y5, rfl, hv⟩ := hv
    obtain ⟨h4, eh⟩ : ∃ z, z = h9 := ⟨_, rfl⟩
    subst eh
    obtain ⟨hskh4, hv⟩ := hv
    show mT g me_fn_refuseAsTold (d + 6) 0 0 8 [some (vr 0 0), some (vi (-1 : Int32))] [vi y5, vi (1000000000 : Int32)] h4 _
    refine tr_isub (pc := 8) k_fn_refuseAsTold_8 ?_
    refine tr_ireturn (pc := 9) k_fn_refuseAsTold_9 rfl rfl ?_
    show mT g me_fn_head (d + 7) 0 0 18 [some (vr 0 0), some (vi x1), some (vn)] [vi ((1000000000 : Int32) - y5)] h4 _
    refine tr_ireturn (pc := 18) k_fn_head_18 rfl rfl ?_
    exact hv
  · have hw := hv.2 kq n3 rfl
    clear hv
    obtain ⟨tq, hv⟩ := hw
    subst tq
    refine tr_ifnonnull (pc := 10) 19 k_fn_head_10 (by decide) (fun q => by cases q) (fun _ _ _ => ?_)
    refine tr_aload_n (pc := 19) 0 k_fn_head_19 rfl rfl ?_
    refine tr_getP (pc := 20) k_fn_head_20 fl_fn_12 rfl (Eq.trans rfl (hskh1.1 0 0 _ rfl)) ?_
    have hT := hv
    clear hv
    refine tr_callV (pc := 23) (d' := d + 6) (mc' := 0) (ms' := 0) [] k_fn_head_23 ca_ga_reckonAsItIs ml_fn_144 ii_ga_reckonAsItIs ⟨by decide, rfl⟩ pa_ga_reckonAsItIs (by omega) (by omega) (by omega) rfl (Nat.le_of_ble_eq_true rfl) (Nat.le_of_ble_eq_true rfl) hT (fun v h9 hv => ?_)
    clear hT
    obtain ⟨rfl, hv⟩ := hv
    obtain ⟨h6, eh⟩ : ∃ z, z = h9 := ⟨_, rfl⟩
    subst eh
    obtain ⟨hskh6, hv⟩ := hv
    show mT g me_fn_head (d + 7) 0 0 26 [some (vr 0 0), some (vi x1), some (vr 7 n3)] [] h6 _
    refine tr_aload_n (pc := 26) 2 k_fn_head_26 rfl rfl ?_
    refine tr_aload_n (pc := 27) 2 k_fn_head_27 rfl rfl ?_
    obtain ⟨n7, e8, hv⟩ := hv
    refine tr_getP (pc := 28) k_fn_head_28 fl_fn_153 rfl (Eq.trans rfl e8) ?_
    refine tr_getIx (pc := 31) k_fn_head_31 fl_fn_157 rfl rfl ?_
    refine tr_callV (pc := 34) (d' := d + 6) (mc' := 0) (ms' := 0) [vi (hI h6 6 n7 5)] k_fn_head_34 ca_jn_headWith ml_fn_160 ii_jn_headWith ⟨by decide, rfl⟩ pa_jn_headWith (by omega) (by omega) (by omega) rfl (Nat.le_of_ble_eq_true rfl) (Nat.le_of_ble_eq_true rfl) (Qk := fun v h9 => mT g me_fn_head (d + 7) 0 0 37 [some (vr 0 0), some (vi x1), some (vr 7 n3)] (v.toList ++ []) h9 _) ?_ (fun _ _ z => z)
    show mT g me_jn_headWith (d + 6) 0 0 0 [some (vr 7 n3), some (vi (hI h6 6 n7 5)), none] [] h6 _
    refine tr_aload_n (pc := 0) 0 k_jn_headWith_0 rfl rfl ?_
    refine tr_getIx (pc := 1) k_jn_headWith_1 fl_jn_35 rfl rfl ?_
    refine tr_if_ne (pc := 4) 11 k_jn_headWith_4 (by decide) (fun q => ?_) (fun q => ?_)
    · replace hv := hv.1 q
      refine tr_iconst (pc := 11) (v := 1) k_jn_headWith_11 (by decide) ?_
      refine tr_goto (pc := 12) 16 k_jn_headWith_12 (by decide) ?_
      refine tr_istore_n (pc := 16) 2 k_jn_headWith_16 rfl (by decide) rfl ?_
      show mT g me_jn_headWith (d + 6) 0 0 17 [some (vr 7 n3), some (vi (hI h6 6 n7 5)), some (vi (1 : Int32))] [] h6 _
      refine tr_iload_n (pc := 17) 2 k_jn_headWith_17 rfl rfl ?_
      refine tr_if_eq (pc := 18) 25 k_jn_headWith_18 (by decide) (fun q => absurd q (by decide)) (fun _ => ?_)
      refine tr_iconst (pc := 21) (v := 0) k_jn_headWith_21 (by decide) ?_
      refine tr_goto (pc := 22) 43 k_jn_headWith_22 (by decide) ?_
      refine tr_ireturn (pc := 43) k_jn_headWith_43 rfl rfl ?_
      show mT g me_fn_head (d + 7) 0 0 37 [some (vr 0 0), some (vi x1), some (vr 7 n3)] [vi (0 : Int32)] h6 _
      refine tr_ireturn (pc := 37) k_fn_head_37 rfl rfl ?_
      exact hv
    · replace hv := hv.2 q
      refine tr_iload_n (pc := 7) 1 k_jn_headWith_7 rfl rfl ?_
      refine tr_if_ne (pc := 8) 15 k_jn_headWith_8 (by decide) (fun q => ?_) (fun q => ?_)
      · replace hv := hv.1 q
        refine tr_iconst (pc := 15) (v := 0) k_jn_headWith_15 (by decide) ?_
        refine tr_istore_n (pc := 16) 2 k_jn_headWith_16 rfl (by decide) rfl ?_
        show mT g me_jn_headWith (d + 6) 0 0 17 [some (vr 7 n3), some (vi (hI h6 6 n7 5)), some (vi (0 : Int32))] [] h6 _
        refine tr_iload_n (pc := 17) 2 k_jn_headWith_17 rfl rfl ?_
        refine tr_if_eq (pc := 18) 25 k_jn_headWith_18 (by decide) (fun _ => ?_) (fun q => absurd q (by decide))
        refine tr_aload_n (pc := 25) 0 k_jn_headWith_25 rfl rfl ?_
        refine tr_getP (pc := 26) k_jn_headWith_26 fl_jn_13 rfl (Eq.trans rfl e8) ?_
        refine tr_iload_n (pc := 29) 1 k_jn_headWith_29 rfl rfl ?_
        refine tr_callV (pc := 30) (d' := d + 5) (mc' := 0) (ms' := 0) [vi (hI h6 6 n7 5)] k_jn_headWith_30 ca_tk_levelWith ml_jn_39 ii_tk_levelWith ⟨by decide, rfl⟩ pa_tk_levelWith (by omega) (by omega) (by omega) rfl (Nat.le_of_ble_eq_true rfl) (Nat.le_of_ble_eq_true rfl) (Qk := fun v h9 => mT g me_jn_headWith (d + 6) 0 0 33 [some (vr 7 n3), some (vi (hI h6 6 n7 5)), some (vi (0 : Int32))] (v.toList ++ []) h9 _) ?_ (fun _ _ z => z)
        show mT g me_tk_levelWith (d + 5) 0 0 0 [some (vr 6 n7), some (vi (hI h6 6 n7 5))] [] h6 _
        refine tr_aload_n (pc := 0) 0 k_tk_levelWith_0 rfl rfl ?_
        refine tr_getIx (pc := 1) k_tk_levelWith_1 fl_tk_16 rfl rfl ?_
        refine tr_iconst (pc := 4) (v := 1) k_tk_levelWith_4 (by decide) ?_
        refine tr_icmp_ge (pc := 5) 15 k_tk_levelWith_5 (by decide) (fun q => ?_) (fun q => ?_)
        · replace hv := hv.1 q
          refine tr_aload_n (pc := 15) 0 k_tk_levelWith_15 rfl rfl ?_
          refine tr_getIx (pc := 16) k_tk_levelWith_16 fl_tk_13 rfl rfl ?_
          refine tr_iload_n (pc := 19) 1 k_tk_levelWith_19 rfl rfl ?_
          refine tr_aload_n (pc := 20) 0 k_tk_levelWith_20 rfl rfl ?_
          refine tr_getIx (pc := 21) k_tk_levelWith_21 fl_tk_16 rfl rfl ?_
          refine tr_idiv (pc := 24) k_tk_levelWith_24 hv.1 ?_
          replace hv := hv.2
          refine tr_iadd (pc := 25) k_tk_levelWith_25 ?_
          refine tr_ireturn (pc := 26) k_tk_levelWith_26 rfl rfl ?_
          show mT g me_jn_headWith (d + 6) 0 0 33 [some (vr 7 n3), some (vi (hI h6 6 n7 5)), some (vi (0 : Int32))] [vi ((hI h6 6 n7 1) + ((hI h6 6 n7 5) / (hI h6 6 n7 2)))] h6 _
          refine tr_aload_n (pc := 33) 0 k_jn_headWith_33 rfl rfl ?_
          refine tr_getIx (pc := 34) k_jn_headWith_34 fl_jn_45 rfl rfl ?_
          refine tr_isub (pc := 37) k_jn_headWith_37 ?_
          refine tr_aload_n (pc := 38) 0 k_jn_headWith_38 rfl rfl ?_
          refine tr_getIx (pc := 39) k_jn_headWith_39 fl_jn_21 rfl rfl ?_
          refine tr_isub (pc := 42) k_jn_headWith_42 ?_
          refine tr_ireturn (pc := 43) k_jn_headWith_43 rfl rfl ?_
          show mT g me_fn_head (d + 7) 0 0 37 [some (vr 0 0), some (vi x1), some (vr 7 n3)] [vi ((((hI h6 6 n7 1) + ((hI h6 6 n7 5) / (hI h6 6 n7 2))) - (hI h6 7 n3 11)) - (hI h6 7 n3 3))] h6 _
          refine tr_ireturn (pc := 37) k_fn_head_37 rfl rfl ?_
          exact hv
        · replace hv := hv.2 q
          refine tr_aload_n (pc := 8) 0 k_tk_levelWith_8 rfl rfl ?_
          refine tr_getIx (pc := 9) k_tk_levelWith_9 fl_tk_13 rfl rfl ?_
          refine tr_goto (pc := 12) 26 k_tk_levelWith_12 (by decide) ?_
          refine tr_ireturn (pc := 26) k_tk_levelWith_26 rfl rfl ?_
          show mT g me_jn_headWith (d + 6) 0 0 33 [some (vr 7 n3), some (vi (hI h6 6 n7 5)), some (vi (0 : Int32))] [vi (hI h6 6 n7 1)] h6 _
          refine tr_aload_n (pc := 33) 0 k_jn_headWith_33 rfl rfl ?_
          refine tr_getIx (pc := 34) k_jn_headWith_34 fl_jn_45 rfl rfl ?_
          refine tr_isub (pc := 37) k_jn_headWith_37 ?_
          refine tr_aload_n (pc := 38) 0 k_jn_headWith_38 rfl rfl ?_
          refine tr_getIx (pc := 39) k_jn_headWith_39 fl_jn_21 rfl rfl ?_
          refine tr_isub (pc := 42) k_jn_headWith_42 ?_
          refine tr_ireturn (pc := 43) k_jn_headWith_43 rfl rfl ?_
          show mT g me_fn_head (d + 7) 0 0 37 [some (vr 0 0), some (vi x1), some (vr 7 n3)] [vi (((hI h6 6 n7 1) - (hI h6 7 n3 11)) - (hI h6 7 n3 3))] h6 _
          refine tr_ireturn (pc := 37) k_fn_head_37 rfl rfl ?_
          exact hv
      · replace hv := hv.2 q
        refine tr_iconst (pc := 11) (v := 1) k_jn_headWith_11 (by decide) ?_
        refine tr_goto (pc := 12) 16 k_jn_headWith_12 (by decide) ?_
        refine tr_istore_n (pc := 16) 2 k_jn_headWith_16 rfl (by decide) rfl ?_
        show mT g me_jn_headWith (d + 6) 0 0 17 [some (vr 7 n3), some (vi (hI h6 6 n7 5)), some (vi (1 : Int32))] [] h6 _
        refine tr_iload_n (pc := 17) 2 k_jn_headWith_17 rfl rfl ?_
        refine tr_if_eq (pc := 18) 25 k_jn_headWith_18 (by decide) (fun q => absurd q (by decide)) (fun _ => ?_)
        refine tr_iconst (pc := 21) (v := 0) k_jn_headWith_21 (by decide) ?_
        refine tr_goto (pc := 22) 43 k_jn_headWith_22 (by decide) ?_
        refine tr_ireturn (pc := 43) k_jn_headWith_43 rfl rfl ?_
        show mT g me_fn_head (d + 7) 0 0 37 [some (vr 0 0), some (vi x1), some (vr 7 n3)] [vi (0 : Int32)] h6 _
        refine tr_ireturn (pc := 37) k_fn_head_37 rfl rfl ?_
        exact hv
