/-! printed by my own program: walks between loop heads -/
theorem v_fn_task_0 {g : mG} {d : Nat} (x1 : Int32) (x2 : Int32) {h : mH} {Q : Option mV → mH → Prop} (hsk : mSK h) (hv : mT g me_tl_build (d + 5) 0 0 0 [some (vr 4 0), none, none, none, none] [] h (fun v h1 => v = none ∧ mSK h1 ∧ ((x1 < 0 → mT g me_fn_refuse (d + 5) 0 0 0 [some (vr 0 0), some (vi (-1 : Int32)), none] [] h1 (fun v h2 => ∃ y3, v = some (vi y3) ∧ mSK h2 ∧ Q (some (vi y3)) h2)) ∧ (¬ x1 < 0 → ((x1 < (hI h1 4 0 7) → ((x2 < 0 → mT g me_fn_refuse (d + 5) 0 0 0 [some (vr 0 0), some (vi (-2 : Int32)), none] [] h1 (fun v h4 => ∃ y5, v = some (vi y5) ∧ mSK h4 ∧ Q (some (vi y5)) h4)) ∧ (¬ x2 < 0 → ((x2 ≤ (2 : Int32) → ((x1 < 0 → Q (some (vi (-9 : Int32))) h1) ∧ (¬ x1 < 0 → (((hI h1 4 0 7) ≤ x1 → Q (some (vi (-9 : Int32))) h1) ∧ (¬ (hI h1 4 0 7) ≤ x1 → ((x1 < (576 : Int32) → ((¬ x2 = 0 → ((¬ x2 = (1 : Int32) → (vp_in x1 576 ∧ Q (some (vi (hI h1 11 2 x1.toNatClampNeg))) h1)) ∧ (x2 = (1 : Int32) → (vp_in x1 576 ∧ Q (some (vi (hI h1 11 1 x1.toNatClampNeg))) h1)))) ∧ (x2 = 0 → (vp_in x1 576 ∧ Q (some (vi (hI h1 11 0 x1.toNatClampNeg))) h1)))) ∧ (¬ x1 < (576 : Int32) → Q (some (vi (-9 : Int32))) h1))))))) ∧ (¬ x2 ≤ (2 : Int32) → mT g me_fn_refuse (d + 5) 0 0 0 [some (vr 0 0), some (vi (-2 : Int32)), none] [] h1 (fun v h6 => ∃ y7, v = some (vi y7) ∧ mSK h6 ∧ Q (some (vi y7)) h6)))))) ∧ (¬ x1 < (hI h1 4 0 7) → mT g me_fn_refuse (d + 5) 0 0 0 [some (vr 0 0), some (vi (-1 : Int32)), none] [] h1 (fun v h8 => ∃ y9, v = some (vi y9) ∧ mSK h8 ∧ Q (some (vi y9)) h8))))))) : mT g me_fn_task (d + 6) 0 0 0 [some (vr 0 0), some (vi x1), some (vi x2)] [] h Q := by
  refine tr_aload_n (pc := 0) 0 k_fn_task_0 rfl rfl ?_
  refine tr_getP (pc := 1) k_fn_task_1 fl_fn_35 rfl (Eq.trans rfl (hsk.1 0 3 _ rfl)) ?_
  refine tr_callV (pc := 4) (d' := d + 5) (mc' := 0) (ms' := 0) [] k_fn_task_4 ca_tl_build ml_fn_225 ii_tl_build ⟨by decide, rfl⟩ pa_tl_build (by omega) (by omega) (by omega) rfl (Nat.le_of_ble_eq_true rfl) (Nat.le_of_ble_eq_true rfl) hv (fun v h9 hv => ?_)
  obtain ⟨rfl, hv⟩ := hv
  obtain ⟨h1, eh⟩ : ∃ z, z = h9 := ⟨_, rfl⟩
  subst eh
  obtain ⟨hskh1, hv⟩ := hv
  show mT g me_fn_task (d + 6) 0 0 7 [some (vr 0 0), some (vi x1), some (vi x2)] [] h1 _
  refine tr_iload_n (pc := 7) 1 k_fn_task_7 rfl rfl ?_
  refine tr_if_lt (pc := 8) 22 k_fn_task_8 (by decide) (fun q => ?_) (fun q => ?_)
  · replace hv := hv.1 q
    refine tr_aload_n (pc := 22) 0 k_fn_task_22 rfl rfl ?_
    refine tr_iconst (pc := 23) (v := -1) k_fn_task_23 (by decide) ?_
    refine tr_callV (pc := 24) (d' := d + 5) (mc' := 0) (ms' := 0) [vi (-1 : Int32)] k_fn_task_24 ca_fn_refuse ml_fn_56 ii_fn_refuse ⟨by decide, rfl⟩ pa_fn_refuse (by omega) (by omega) (by omega) rfl (Nat.le_of_ble_eq_true rfl) (Nat.le_of_ble_eq_true rfl) hv (fun v h9 hv => ?_)
    obtain ⟨y3, rfl, hv⟩ := hv
    obtain ⟨h2, eh⟩ : ∃ z, z = h9 := ⟨_, rfl⟩
    subst eh
    obtain ⟨hskh2, hv⟩ := hv
    show mT g me_fn_task (d + 6) 0 0 27 [some (vr 0 0), some (vi x1), some (vi x2)] [vi y3] h2 _
    refine tr_ireturn (pc := 27) k_fn_task_27 rfl rfl ?_
    exact hv
  · replace hv := hv.2 q
    refine tr_iload_n (pc := 11) 1 k_fn_task_11 rfl rfl ?_
    refine tr_aload_n (pc := 12) 0 k_fn_task_12 rfl rfl ?_
    refine tr_getP (pc := 13) k_fn_task_13 fl_fn_35 rfl (Eq.trans rfl (hskh1.1 0 3 _ rfl)) ?_
    refine tr_getIx (pc := 16) k_fn_task_16 fl_fn_228 rfl rfl ?_
    refine tr_icmp_lt (pc := 19) 28 k_fn_task_19 (by decide) (fun q => ?_) (fun q => ?_)
    · replace hv := hv.1 q
      refine tr_iload_n (pc := 28) 2 k_fn_task_28 rfl rfl ?_
      refine tr_if_lt (pc := 29) 37 k_fn_task_29 (by decide) (fun q => ?_) (fun q => ?_)
      · replace hv := hv.1 q
        refine tr_aload_n (pc := 37) 0 k_fn_task_37 rfl rfl ?_
        refine tr_bipush (pc := 38) (v := -2) k_fn_task_38 (by decide) ?_
        refine tr_callV (pc := 40) (d' := d + 5) (mc' := 0) (ms' := 0) [vi (-2 : Int32)] k_fn_task_40 ca_fn_refuse ml_fn_56 ii_fn_refuse ⟨by decide, rfl⟩ pa_fn_refuse (by omega) (by omega) (by omega) rfl (Nat.le_of_ble_eq_true rfl) (Nat.le_of_ble_eq_true rfl) hv (fun v h9 hv => ?_)
        obtain ⟨y5, rfl, hv⟩ := hv
        obtain ⟨h4, eh⟩ : ∃ z, z = h9 := ⟨_, rfl⟩
        subst eh
        obtain ⟨hskh4, hv⟩ := hv
        show mT g me_fn_task (d + 6) 0 0 43 [some (vr 0 0), some (vi x1), some (vi x2)] [vi y5] h4 _
        refine tr_ireturn (pc := 43) k_fn_task_43 rfl rfl ?_
        exact hv
      · replace hv := hv.2 q
        refine tr_iload_n (pc := 32) 2 k_fn_task_32 rfl rfl ?_
        refine tr_iconst (pc := 33) (v := 2) k_fn_task_33 (by decide) ?_
        refine tr_icmp_le (pc := 34) 44 k_fn_task_34 (by decide) (fun q => ?_) (fun q => ?_)
        · replace hv := hv.1 q
          refine tr_aload_n (pc := 44) 0 k_fn_task_44 rfl rfl ?_
          refine tr_getP (pc := 45) k_fn_task_45 fl_fn_35 rfl (Eq.trans rfl (hskh1.1 0 3 _ rfl)) ?_
          refine tr_iload_n (pc := 48) 1 k_fn_task_48 rfl rfl ?_
          refine tr_iload_n (pc := 49) 2 k_fn_task_49 rfl rfl ?_
          refine tr_callV (pc := 50) (d' := d + 5) (mc' := 0) (ms' := 0) [vi x1, vi x2] k_fn_task_50 ca_tl_tell ml_fn_229 ii_tl_tell ⟨by decide, rfl⟩ pa_tl_tell (by omega) (by omega) (by omega) rfl (Nat.le_of_ble_eq_true rfl) (Nat.le_of_ble_eq_true rfl) (Qk := fun v h9 => mT g me_fn_task (d + 6) 0 0 53 [some (vr 0 0), some (vi x1), some (vi x2)] (v.toList ++ []) h9 _) ?_ (fun _ _ z => z)
          show mT g me_tl_tell (d + 5) 0 0 0 [some (vr 4 0), some (vi x1), some (vi x2)] [] h1 _
          refine tr_iload_n (pc := 0) 1 k_tl_tell_0 rfl rfl ?_
          refine tr_if_lt (pc := 1) 21 k_tl_tell_1 (by decide) (fun q => ?_) (fun q => ?_)
          · replace hv := hv.1 q
            refine tr_bipush (pc := 21) (v := -9) k_tl_tell_21 (by decide) ?_
            refine tr_ireturn (pc := 23) k_tl_tell_23 rfl rfl ?_
            show mT g me_fn_task (d + 6) 0 0 53 [some (vr 0 0), some (vi x1), some (vi x2)] [vi (-9 : Int32)] h1 _
            refine tr_ireturn (pc := 53) k_fn_task_53 rfl rfl ?_
            exact hv
          · replace hv := hv.2 q
            refine tr_iload_n (pc := 4) 1 k_tl_tell_4 rfl rfl ?_
            refine tr_aload_n (pc := 5) 0 k_tl_tell_5 rfl rfl ?_
            refine tr_getIx (pc := 6) k_tl_tell_6 fl_tl_35 rfl rfl ?_
            refine tr_icmp_ge (pc := 9) 21 k_tl_tell_9 (by decide) (fun q => ?_) (fun q => ?_)
            · replace hv := hv.1 q
              refine tr_bipush (pc := 21) (v := -9) k_tl_tell_21 (by decide) ?_
              refine tr_ireturn (pc := 23) k_tl_tell_23 rfl rfl ?_
              show mT g me_fn_task (d + 6) 0 0 53 [some (vr 0 0), some (vi x1), some (vi x2)] [vi (-9 : Int32)] h1 _
              refine tr_ireturn (pc := 53) k_fn_task_53 rfl rfl ?_
              exact hv
            · replace hv := hv.2 q
              refine tr_iload_n (pc := 12) 1 k_tl_tell_12 rfl rfl ?_
              refine tr_aload_n (pc := 13) 0 k_tl_tell_13 rfl rfl ?_
              refine tr_getP (pc := 14) k_tl_tell_14 fl_tl_19 rfl (Eq.trans rfl (hskh1.1 4 2 _ rfl)) ?_
              refine tr_alen (pc := 17) (v := 576) (by decide) k_tl_tell_17 (by rw [show hL _ 11 0 = 576 from hskh1.2.1 11 0 _ rfl]; rfl) ?_
              refine tr_icmp_lt (pc := 18) 24 k_tl_tell_18 (by decide) (fun q => ?_) (fun q => ?_)
              · replace hv := hv.1 q
                refine tr_iload_n (pc := 24) 2 k_tl_tell_24 rfl rfl ?_
                refine tr_if_ne (pc := 25) 37 k_tl_tell_25 (by decide) (fun q => ?_) (fun q => ?_)
                · replace hv := hv.1 q
                  refine tr_iload_n (pc := 37) 2 k_tl_tell_37 rfl rfl ?_
                  refine tr_iconst (pc := 38) (v := 1) k_tl_tell_38 (by decide) ?_
                  refine tr_icmp_ne (pc := 39) 51 k_tl_tell_39 (by decide) (fun q => ?_) (fun q => ?_)
                  · replace hv := hv.1 q
                    refine tr_aload_n (pc := 51) 0 k_tl_tell_51 rfl rfl ?_
                    refine tr_getP (pc := 52) k_tl_tell_52 fl_tl_26 rfl (Eq.trans rfl (hskh1.1 4 4 _ rfl)) ?_
                    refine tr_iload_n (pc := 55) 1 k_tl_tell_55 rfl rfl ?_
                    refine tr_ialdx (pc := 56) k_tl_tell_56 (mvin (hskh1.2.1 11 2 _ rfl) hv.1) rfl ?_
                    replace hv := hv.2
                    refine tr_ireturn (pc := 57) k_tl_tell_57 rfl rfl ?_
                    show mT g me_fn_task (d + 6) 0 0 53 [some (vr 0 0), some (vi x1), some (vi x2)] [vi (hI h1 11 2 x1.toNatClampNeg)] h1 _
                    refine tr_ireturn (pc := 53) k_fn_task_53 rfl rfl ?_
                    exact hv
                  · replace hv := hv.2 q
                    refine tr_aload_n (pc := 42) 0 k_tl_tell_42 rfl rfl ?_
                    refine tr_getP (pc := 43) k_tl_tell_43 fl_tl_23 rfl (Eq.trans rfl (hskh1.1 4 3 _ rfl)) ?_
                    refine tr_iload_n (pc := 46) 1 k_tl_tell_46 rfl rfl ?_
                    refine tr_ialdx (pc := 47) k_tl_tell_47 (mvin (hskh1.2.1 11 1 _ rfl) hv.1) rfl ?_
                    replace hv := hv.2
                    refine tr_goto (pc := 48) 57 k_tl_tell_48 (by decide) ?_
                    refine tr_ireturn (pc := 57) k_tl_tell_57 rfl rfl ?_
                    show mT g me_fn_task (d + 6) 0 0 53 [some (vr 0 0), some (vi x1), some (vi x2)] [vi (hI h1 11 1 x1.toNatClampNeg)] h1 _
                    refine tr_ireturn (pc := 53) k_fn_task_53 rfl rfl ?_
                    exact hv
                · replace hv := hv.2 q
                  refine tr_aload_n (pc := 28) 0 k_tl_tell_28 rfl rfl ?_
                  refine tr_getP (pc := 29) k_tl_tell_29 fl_tl_19 rfl (Eq.trans rfl (hskh1.1 4 2 _ rfl)) ?_
                  refine tr_iload_n (pc := 32) 1 k_tl_tell_32 rfl rfl ?_
                  refine tr_ialdx (pc := 33) k_tl_tell_33 (mvin (hskh1.2.1 11 0 _ rfl) hv.1) rfl ?_
                  replace hv := hv.2
                  refine tr_goto (pc := 34) 57 k_tl_tell_34 (by decide) ?_
                  refine tr_ireturn (pc := 57) k_tl_tell_57 rfl rfl ?_
                  show mT g me_fn_task (d + 6) 0 0 53 [some (vr 0 0), some (vi x1), some (vi x2)] [vi (hI h1 11 0 x1.toNatClampNeg)] h1 _
                  refine tr_ireturn (pc := 53) k_fn_task_53 rfl rfl ?_
                  exact hv
              · replace hv := hv.2 q
                refine tr_bipush (pc := 21) (v := -9) k_tl_tell_21 (by decide) ?_
                refine tr_ireturn (pc := 23) k_tl_tell_23 rfl rfl ?_
                show mT g me_fn_task (d + 6) 0 0 53 [some (vr 0 0), some (vi x1), some (vi x2)] [vi (-9 : Int32)] h1 _
                refine tr_ireturn (pc := 53) k_fn_task_53 rfl rfl ?_
                exact hv
        · replace hv := hv.2 q
          refine tr_aload_n (pc := 37) 0 k_fn_task_37 rfl rfl ?_
          refine tr_bipush (pc := 38) (v := -2) k_fn_task_38 (by decide) ?_
          refine tr_callV (pc := 40) (d' := d + 5) (mc' := 0) (ms' := 0) [vi (-2 : Int32)] k_fn_task_40 ca_fn_refuse ml_fn_56 ii_fn_refuse ⟨by decide, rfl⟩ pa_fn_refuse (by omega) (by omega) (by omega) rfl (Nat.le_of_ble_eq_true rfl) (Nat.le_of_ble_eq_true rfl) hv (fun v h9 hv => ?_)
          obtain ⟨y7, rfl, hv⟩ := hv
          obtain ⟨h6, eh⟩ : ∃ z, z = h9 := ⟨_, rfl⟩
          subst eh
          obtain ⟨hskh6, hv⟩ := hv
          show mT g me_fn_task (d + 6) 0 0 43 [some (vr 0 0), some (vi x1), some (vi x2)] [vi y7] h6 _
          refine tr_ireturn (pc := 43) k_fn_task_43 rfl rfl ?_
          exact hv
    · replace hv := hv.2 q
      refine tr_aload_n (pc := 22) 0 k_fn_task_22 rfl rfl ?_
      refine tr_iconst (pc := 23) (v := -1) k_fn_task_23 (by decide) ?_
      refine tr_callV (pc := 24) (d' := d + 5) (mc' := 0) (ms' := 0) [vi (-1 : Int32)] k_fn_task_24 ca_fn_refuse ml_fn_56 ii_fn_refuse ⟨by decide, rfl⟩ pa_fn_refuse (by omega) (by omega) (by omega) rfl (Nat.le_of_ble_eq_true rfl) (Nat.le_of_ble_eq_true rfl) hv (fun v h9 hv => ?_)
      obtain ⟨y9, rfl, hv⟩ := hv
      obtain ⟨h8, eh⟩ : ∃ z, z = h9 := ⟨_, rfl⟩
      subst eh
      obtain ⟨hskh8, hv⟩ := hv
      show mT g me_fn_task (d + 6) 0 0 27 [some (vr 0 0), some (vi x1), some (vi x2)] [vi y9] h8 _
      refine tr_ireturn (pc := 27) k_fn_task_27 rfl rfl ?_
      exact hv
theorem v_fn_boys_0 {g : mG} {d : Nat}  {h : mH} {Q : Option mV → mH → Prop} (hsk : mSK h) (hv : mT g me_tl_build (d + 5) 0 0 0 [some (vr 4 0), none, none, none, none] [] h (fun v h1 => v = none ∧ mSK h1 ∧ (((hI h1 4 0 7) ≤ (60 : Int32) → mT g me_tl_fewestBoys (d + 5) 0 0 0 [some (vr 4 0), some (vi (hI h1 0 0 6)), none, none, none] [] h1 (fun v h2 => ∃ y3, v = some (vi y3) ∧ mSK h2 ∧ Q (some (vi y3)) h2)) ∧ (¬ (hI h1 4 0 7) ≤ (60 : Int32) → mT g me_fn_refuse (d + 5) 0 0 0 [some (vr 0 0), some (vi (-6 : Int32)), none] [] h1 (fun v h4 => ∃ y5, v = some (vi y5) ∧ mSK h4 ∧ Q (some (vi y5)) h4))))) : mT g me_fn_boys (d + 6) 0 0 0 [some (vr 0 0)] [] h Q := by
  refine tr_aload_n (pc := 0) 0 k_fn_boys_0 rfl rfl ?_
  refine tr_getP (pc := 1) k_fn_boys_1 fl_fn_35 rfl (Eq.trans rfl (hsk.1 0 3 _ rfl)) ?_
  refine tr_callV (pc := 4) (d' := d + 5) (mc' := 0) (ms' := 0) [] k_fn_boys_4 ca_tl_build ml_fn_225 ii_tl_build ⟨by decide, rfl⟩ pa_tl_build (by omega) (by omega) (by omega) rfl (Nat.le_of_ble_eq_true rfl) (Nat.le_of_ble_eq_true rfl) hv (fun v h9 hv => ?_)
  obtain ⟨rfl, hv⟩ := hv
  obtain ⟨h1, eh⟩ : ∃ z, z = h9 := ⟨_, rfl⟩
  subst eh
  obtain ⟨hskh1, hv⟩ := hv
  show mT g me_fn_boys (d + 6) 0 0 7 [some (vr 0 0)] [] h1 _
  refine tr_aload_n (pc := 7) 0 k_fn_boys_7 rfl rfl ?_
  refine tr_getP (pc := 8) k_fn_boys_8 fl_fn_35 rfl (Eq.trans rfl (hskh1.1 0 3 _ rfl)) ?_
  refine tr_getIx (pc := 11) k_fn_boys_11 fl_fn_228 rfl rfl ?_
  refine tr_bipush (pc := 14) (v := 60) k_fn_boys_14 (by decide) ?_
  refine tr_icmp_le (pc := 16) 26 k_fn_boys_16 (by decide) (fun q => ?_) (fun q => ?_)
  · replace hv := hv.1 q
    refine tr_aload_n (pc := 26) 0 k_fn_boys_26 rfl rfl ?_
    refine tr_getP (pc := 27) k_fn_boys_27 fl_fn_35 rfl (Eq.trans rfl (hskh1.1 0 3 _ rfl)) ?_
    refine tr_aload_n (pc := 30) 0 k_fn_boys_30 rfl rfl ?_
    refine tr_getIx (pc := 31) k_fn_boys_31 fl_fn_52 rfl rfl ?_
    refine tr_callV (pc := 34) (d' := d + 5) (mc' := 0) (ms' := 0) [vi (hI h1 0 0 6)] k_fn_boys_34 ca_tl_fewestBoys ml_fn_232 ii_tl_fewestBoys ⟨by decide, rfl⟩ pa_tl_fewestBoys (by omega) (by omega) (by omega) rfl (Nat.le_of_ble_eq_true rfl) (Nat.le_of_ble_eq_true rfl) hv (fun v h9 hv => ?_)
    obtain ⟨y3, rfl, hv⟩ := hv
    obtain ⟨h2, eh⟩ : ∃ z, z = h9 := ⟨_, rfl⟩
    subst eh
    obtain ⟨hskh2, hv⟩ := hv
    show mT g me_fn_boys (d + 6) 0 0 37 [some (vr 0 0)] [vi y3] h2 _
    refine tr_ireturn (pc := 37) k_fn_boys_37 rfl rfl ?_
    exact hv
  · replace hv := hv.2 q
    refine tr_aload_n (pc := 19) 0 k_fn_boys_19 rfl rfl ?_
    refine tr_bipush (pc := 20) (v := -6) k_fn_boys_20 (by decide) ?_
    refine tr_callV (pc := 22) (d' := d + 5) (mc' := 0) (ms' := 0) [vi (-6 : Int32)] k_fn_boys_22 ca_fn_refuse ml_fn_56 ii_fn_refuse ⟨by decide, rfl⟩ pa_fn_refuse (by omega) (by omega) (by omega) rfl (Nat.le_of_ble_eq_true rfl) (Nat.le_of_ble_eq_true rfl) hv (fun v h9 hv => ?_)
    obtain ⟨y5, rfl, hv⟩ := hv
    obtain ⟨h4, eh⟩ : ∃ z, z = h9 := ⟨_, rfl⟩
    subst eh
    obtain ⟨hskh4, hv⟩ := hv
    show mT g me_fn_boys (d + 6) 0 0 25 [some (vr 0 0)] [vi y5] h4 _
    refine tr_ireturn (pc := 25) k_fn_boys_25 rfl rfl ?_
    exact hv
theorem v_tl_fewestBoys_0 {g : mG} {d : Nat} (x1 : Int32) {h : mH} {Q : Option mV → mH → Prop} (hsk : mSK h) (hv : mT g me_tl_fewestBoys (d + 2) 0 0 4 [some (vr 4 0), some (vi x1), some (vi (0 : Int32)), some (vi (0 : Int32)), none] [] h Q) : mT g me_tl_fewestBoys (d + 2) 0 0 0 [some (vr 4 0), some (vi x1), none, none, none] [] h Q := by
  refine tr_iconst (pc := 0) (v := 0) k_tl_fewestBoys_0 (by decide) ?_
  refine tr_istore_n (pc := 1) 2 k_tl_fewestBoys_1 rfl (by decide) rfl ?_
  show mT g me_tl_fewestBoys (d + 2) 0 0 2 [some (vr 4 0), some (vi x1), some (vi (0 : Int32)), none, none] [] h _
  refine tr_iconst (pc := 2) (v := 0) k_tl_fewestBoys_2 (by decide) ?_
  refine tr_istore_n (pc := 3) 3 k_tl_fewestBoys_3 rfl (by decide) rfl ?_
  show mT g me_tl_fewestBoys (d + 2) 0 0 4 [some (vr 4 0), some (vi x1), some (vi (0 : Int32)), some (vi (0 : Int32)), none] [] h _
  exact hv
theorem v_tl_fewestBoys_4 {g : mG} {d : Nat} (x1 : Int32) (x2 : Int32) (x3 : Int32) (o4 : Option mV) {h : mH} {Q : Option mV → mH → Prop} (hsk : mSK h) (hv : (((30 : Int32) ≤ x3 → Q (some (vi x2)) h) ∧ (¬ (30 : Int32) ≤ x3 → mT g me_tl_fewestBoys (d + 2) 0 0 13 [some (vr 4 0), some (vi x1), some (vi x2), some (vi x3), some (vi (0 : Int32))] [] h Q))) : mT g me_tl_fewestBoys (d + 2) 0 0 4 [some (vr 4 0), some (vi x1), some (vi x2), some (vi x3), o4] [] h Q := by
  refine tr_iload_n (pc := 4) 3 k_tl_fewestBoys_4 rfl rfl ?_
  refine tr_bipush (pc := 5) (v := 30) k_tl_fewestBoys_5 (by decide) ?_
  refine tr_icmp_ge (pc := 7) 83 k_tl_fewestBoys_7 (by decide) (fun q => ?_) (fun q => ?_)
  · replace hv := hv.1 q
    refine tr_iload_n (pc := 83) 2 k_tl_fewestBoys_83 rfl rfl ?_
    refine tr_ireturn (pc := 84) k_tl_fewestBoys_84 rfl rfl ?_
    exact hv
  · replace hv := hv.2 q
    refine tr_iconst (pc := 10) (v := 0) k_tl_fewestBoys_10 (by decide) ?_
    refine tr_istore (pc := 11) k_tl_fewestBoys_11 (by decide) rfl ?_
    show mT g me_tl_fewestBoys (d + 2) 0 0 13 [some (vr 4 0), some (vi x1), some (vi x2), some (vi x3), some (vi (0 : Int32))] [] h _
    exact hv
theorem v_tl_fewestBoys_13 {g : mG} {d : Nat} (x1 : Int32) (x2 : Int32) (x3 : Int32) (x4 : Int32) {h : mH} {Q : Option mV → mH → Prop} (hsk : mSK h) (hv : (((hI h 4 0 7) ≤ x4 → mT g me_tl_fewestBoys (d + 2) 0 0 4 [some (vr 4 0), some (vi x1), some (vi x2), some (vi (x3 + 1)), some (vi x4)] [] h Q) ∧ (¬ (hI h 4 0 7) ≤ x4 → (((576 : Int32) ≤ x4 → mT g me_tl_fewestBoys (d + 2) 0 0 4 [some (vr 4 0), some (vi x1), some (vi x2), some (vi (x3 + 1)), some (vi x4)] [] h Q) ∧ (¬ (576 : Int32) ≤ x4 → (vp_in x4 576 ∧ ((¬ (hI h 11 3 x4.toNatClampNeg) = x3 → mT g me_tl_fewestBoys (d + 2) 0 0 13 [some (vr 4 0), some (vi x1), some (vi x2), some (vi x3), some (vi (x4 + 1))] [] h Q) ∧ ((hI h 11 3 x4.toNatClampNeg) = x3 → mT g me_tl_mostApartAhead (d + 1) 0 0 0 [some (vr 4 0), some (vi x4), some (vi x1), none, none, none] [] h (fun v h1 => ∃ y2, v = some (vi y2) ∧ mSK h1 ∧ (vp_in x4 576 ∧ (vp_in x4 576 ∧ mT g me_tl_fewestBoys (d + 2) 0 0 13 [some (vr 4 0), some (vi x1), some (vi (if x2 < ((1 : Int32) + y2) then ((1 : Int32) + y2) else x2)), some (vi x3), some (vi (x4 + 1))] [] (setI h1 11 4 x4.toNatClampNeg ((1 : Int32) + y2)) Q))))))))))) : mT g me_tl_fewestBoys (d + 2) 0 0 13 [some (vr 4 0), some (vi x1), some (vi x2), some (vi x3), some (vi x4)] [] h Q := by
  refine tr_iload (pc := 13) k_tl_fewestBoys_13 rfl ?_
  refine tr_aload_n (pc := 15) 0 k_tl_fewestBoys_15 rfl rfl ?_
  refine tr_getIx (pc := 16) k_tl_fewestBoys_16 fl_tl_35 rfl rfl ?_
  refine tr_icmp_ge (pc := 19) 77 k_tl_fewestBoys_19 (by decide) (fun q => ?_) (fun q => ?_)
  · replace hv := hv.1 q
    refine tr_iinc (pc := 77) (v := (x3 + 1)) k_tl_fewestBoys_77 rfl rfl (by decide) rfl ?_
    show mT g me_tl_fewestBoys (d + 2) 0 0 80 [some (vr 4 0), some (vi x1), some (vi x2), some (vi (x3 + 1)), some (vi x4)] [] h _
    refine tr_goto (pc := 80) 4 k_tl_fewestBoys_80 (by decide) ?_
    exact hv
  · replace hv := hv.2 q
    refine tr_iload (pc := 22) k_tl_fewestBoys_22 rfl ?_
    refine tr_aload_n (pc := 24) 0 k_tl_fewestBoys_24 rfl rfl ?_
    refine tr_getP (pc := 25) k_tl_fewestBoys_25 fl_tl_32 rfl (Eq.trans rfl (hsk.1 4 6 _ rfl)) ?_
    refine tr_alen (pc := 28) (v := 576) (by decide) k_tl_fewestBoys_28 (by rw [show hL _ 11 4 = 576 from hsk.2.1 11 4 _ rfl]; rfl) ?_
    refine tr_icmp_ge (pc := 29) 77 k_tl_fewestBoys_29 (by decide) (fun q => ?_) (fun q => ?_)
    · replace hv := hv.1 q
      refine tr_iinc (pc := 77) (v := (x3 + 1)) k_tl_fewestBoys_77 rfl rfl (by decide) rfl ?_
      show mT g me_tl_fewestBoys (d + 2) 0 0 80 [some (vr 4 0), some (vi x1), some (vi x2), some (vi (x3 + 1)), some (vi x4)] [] h _
      refine tr_goto (pc := 80) 4 k_tl_fewestBoys_80 (by decide) ?_
      exact hv
    · replace hv := hv.2 q
      refine tr_aload_n (pc := 32) 0 k_tl_fewestBoys_32 rfl rfl ?_
      refine tr_getP (pc := 33) k_tl_fewestBoys_33 fl_tl_29 rfl (Eq.trans rfl (hsk.1 4 5 _ rfl)) ?_
      refine tr_iload (pc := 36) k_tl_fewestBoys_36 rfl ?_
      refine tr_ialdx (pc := 38) k_tl_fewestBoys_38 (mvin (hsk.2.1 11 3 _ rfl) hv.1) rfl ?_
      replace hv := hv.2
      refine tr_iload_n (pc := 39) 3 k_tl_fewestBoys_39 rfl rfl ?_
      refine tr_icmp_ne (pc := 40) 71 k_tl_fewestBoys_40 (by decide) (fun q => ?_) (fun q => ?_)
      · replace hv := hv.1 q
        refine tr_iinc (pc := 71) (v := (x4 + 1)) k_tl_fewestBoys_71 rfl rfl (by decide) rfl ?_
        show mT g me_tl_fewestBoys (d + 2) 0 0 74 [some (vr 4 0), some (vi x1), some (vi x2), some (vi x3), some (vi (x4 + 1))] [] h _
        refine tr_goto (pc := 74) 13 k_tl_fewestBoys_74 (by decide) ?_
        exact hv
      · replace hv := hv.2 q
        refine tr_aload_n (pc := 43) 0 k_tl_fewestBoys_43 rfl rfl ?_
        refine tr_getP (pc := 44) k_tl_fewestBoys_44 fl_tl_32 rfl (Eq.trans rfl (hsk.1 4 6 _ rfl)) ?_
        refine tr_iload (pc := 47) k_tl_fewestBoys_47 rfl ?_
        refine tr_iconst (pc := 49) (v := 1) k_tl_fewestBoys_49 (by decide) ?_
        refine tr_aload_n (pc := 50) 0 k_tl_fewestBoys_50 rfl rfl ?_
        refine tr_iload (pc := 51) k_tl_fewestBoys_51 rfl ?_
        refine tr_iload_n (pc := 53) 1 k_tl_fewestBoys_53 rfl rfl ?_
        refine tr_callV (pc := 54) (d' := d + 1) (mc' := 0) (ms' := 0) [vi x4, vi x1] k_tl_fewestBoys_54 ca_tl_mostApartAhead ml_tl_83 ii_tl_mostApartAhead ⟨by decide, rfl⟩ pa_tl_mostApartAhead (by omega) (by omega) (by omega) rfl (Nat.le_of_ble_eq_true rfl) (Nat.le_of_ble_eq_true rfl) hv (fun v h9 hv => ?_)
        obtain ⟨y2, rfl, hv⟩ := hv
        obtain ⟨h1, eh⟩ : ∃ z, z = h9 := ⟨_, rfl⟩
        subst eh
        obtain ⟨hskh1, hv⟩ := hv
        show mT g me_tl_fewestBoys (d + 2) 0 0 57 [some (vr 4 0), some (vi x1), some (vi x2), some (vi x3), some (vi x4)] [vi y2, vi (1 : Int32), vi x4, vr 11 4] h1 _
        refine tr_iadd (pc := 57) k_tl_fewestBoys_57 ?_
        refine tr_iast (pc := 58) k_tl_fewestBoys_58 (mvin (hskh1.2.1 11 4 _ rfl) hv.1) ?_
        replace hv := hv.2
        refine tr_iload_n (pc := 59) 2 k_tl_fewestBoys_59 rfl rfl ?_
        refine tr_aload_n (pc := 60) 0 k_tl_fewestBoys_60 rfl rfl ?_
        refine tr_getP (pc := 61) k_tl_fewestBoys_61 fl_tl_32 rfl (Eq.trans (hP_setI) (hskh1.1 4 6 _ rfl)) ?_
        refine tr_iload (pc := 64) k_tl_fewestBoys_64 rfl ?_
        refine tr_ialdx (pc := 66) k_tl_fewestBoys_66 (mvin (hskh1.2.1 11 4 _ rfl) hv.1) (hI_eq) ?_
        replace hv := hv.2
        refine tr_max (pc := 67) k_tl_fewestBoys_67 ml_tl_87 (by omega) (Nat.le_of_ble_eq_true rfl) ?_
        refine tr_istore_n (pc := 70) 2 k_tl_fewestBoys_70 rfl (by decide) rfl ?_
        show mT g me_tl_fewestBoys (d + 2) 0 0 71 [some (vr 4 0), some (vi x1), some (vi (if x2 < ((1 : Int32) + y2) then ((1 : Int32) + y2) else x2)), some (vi x3), some (vi x4)] [] (setI h1 11 4 x4.toNatClampNeg ((1 : Int32) + y2)) _
        refine tr_iinc (pc := 71) (v := (x4 + 1)) k_tl_fewestBoys_71 rfl rfl (by decide) rfl ?_
        show mT g me_tl_fewestBoys (d + 2) 0 0 74 [some (vr 4 0), some (vi x1), some (vi (if x2 < ((1 : Int32) + y2) then ((1 : Int32) + y2) else x2)), some (vi x3), some (vi (x4 + 1))] [] (setI h1 11 4 x4.toNatClampNeg ((1 : Int32) + y2)) _
        refine tr_goto (pc := 74) 13 k_tl_fewestBoys_74 (by decide) ?_
        exact hv
theorem v_tl_mostApartAhead_0 {g : mG} {d : Nat} (x1 : Int32) (x2 : Int32) {h : mH} {Q : Option mV → mH → Prop} (hsk : mSK h) (hv : ((x1 < 0 → Q (some (vi (0 : Int32))) h) ∧ (¬ x1 < 0 → ((x1 < (576 : Int32) → mT g me_tl_mostApartAhead (d + 1) 0 0 20 [some (vr 4 0), some (vi x1), some (vi x2), some (vi (0 : Int32)), some (vi (0 : Int32)), none] [] h Q) ∧ (¬ x1 < (576 : Int32) → Q (some (vi (0 : Int32))) h))))) : mT g me_tl_mostApartAhead (d + 1) 0 0 0 [some (vr 4 0), some (vi x1), some (vi x2), none, none, none] [] h Q := by
  refine tr_iload_n (pc := 0) 1 k_tl_mostApartAhead_0 rfl rfl ?_
  refine tr_if_lt (pc := 1) 13 k_tl_mostApartAhead_1 (by decide) (fun q => ?_) (fun q => ?_)
  · replace hv := hv.1 q
    refine tr_iconst (pc := 13) (v := 0) k_tl_mostApartAhead_13 (by decide) ?_
    refine tr_ireturn (pc := 14) k_tl_mostApartAhead_14 rfl rfl ?_
    exact hv
  · replace hv := hv.2 q
    refine tr_iload_n (pc := 4) 1 k_tl_mostApartAhead_4 rfl rfl ?_
    refine tr_aload_n (pc := 5) 0 k_tl_mostApartAhead_5 rfl rfl ?_
    refine tr_getP (pc := 6) k_tl_mostApartAhead_6 fl_tl_32 rfl (Eq.trans rfl (hsk.1 4 6 _ rfl)) ?_
    refine tr_alen (pc := 9) (v := 576) (by decide) k_tl_mostApartAhead_9 (by rw [show hL _ 11 4 = 576 from hsk.2.1 11 4 _ rfl]; rfl) ?_
    refine tr_icmp_lt (pc := 10) 15 k_tl_mostApartAhead_10 (by decide) (fun q => ?_) (fun q => ?_)
    · replace hv := hv.1 q
      refine tr_iconst (pc := 15) (v := 0) k_tl_mostApartAhead_15 (by decide) ?_
      refine tr_istore_n (pc := 16) 3 k_tl_mostApartAhead_16 rfl (by decide) rfl ?_
      show mT g me_tl_mostApartAhead (d + 1) 0 0 17 [some (vr 4 0), some (vi x1), some (vi x2), some (vi (0 : Int32)), none, none] [] h _
      refine tr_iconst (pc := 17) (v := 0) k_tl_mostApartAhead_17 (by decide) ?_
      refine tr_istore (pc := 18) k_tl_mostApartAhead_18 (by decide) rfl ?_
      show mT g me_tl_mostApartAhead (d + 1) 0 0 20 [some (vr 4 0), some (vi x1), some (vi x2), some (vi (0 : Int32)), some (vi (0 : Int32)), none] [] h _
      exact hv
    · replace hv := hv.2 q
      refine tr_iconst (pc := 13) (v := 0) k_tl_mostApartAhead_13 (by decide) ?_
      refine tr_ireturn (pc := 14) k_tl_mostApartAhead_14 rfl rfl ?_
      exact hv
theorem v_tl_mostApartAhead_20 {g : mG} {d : Nat} (x1 : Int32) (x2 : Int32) (x3 : Int32) (x4 : Int32) (o5 : Option mV) {h : mH} {Q : Option mV → mH → Prop} (hsk : mSK h) (hv : (((hI h 4 0 7) ≤ x4 → Q (some (vi x3)) h) ∧ (¬ (hI h 4 0 7) ≤ x4 → (((576 : Int32) ≤ x4 → Q (some (vi x3)) h) ∧ (¬ (576 : Int32) ≤ x4 → (vp_in x1 576 ∧ (vp_in x4 576 ∧ (vp_in x1 576 ∧ (vp_in x4 576 ∧ (((((hI h 11 3 x1.toNatClampNeg) - (hI h 11 3 x4.toNatClampNeg)) * x2) ≤ (if 0 ≤ ((hI h 11 0 x1.toNatClampNeg) - (hI h 11 0 x4.toNatClampNeg)) then ((hI h 11 0 x1.toNatClampNeg) - (hI h 11 0 x4.toNatClampNeg)) else 0 - ((hI h 11 0 x1.toNatClampNeg) - (hI h 11 0 x4.toNatClampNeg))) → mT g me_tl_mostApartAhead (d + 1) 0 0 20 [some (vr 4 0), some (vi x1), some (vi x2), some (vi x3), some (vi (x4 + 1)), some (vi (((hI h 11 3 x1.toNatClampNeg) - (hI h 11 3 x4.toNatClampNeg)) * x2))] [] h Q) ∧ (¬ (((hI h 11 3 x1.toNatClampNeg) - (hI h 11 3 x4.toNatClampNeg)) * x2) ≤ (if 0 ≤ ((hI h 11 0 x1.toNatClampNeg) - (hI h 11 0 x4.toNatClampNeg)) then ((hI h 11 0 x1.toNatClampNeg) - (hI h 11 0 x4.toNatClampNeg)) else 0 - ((hI h 11 0 x1.toNatClampNeg) - (hI h 11 0 x4.toNatClampNeg))) → (vp_in x4 576 ∧ mT g me_tl_mostApartAhead (d + 1) 0 0 20 [some (vr 4 0), some (vi x1), some (vi x2), some (vi (if x3 < (hI h 11 4 x4.toNatClampNeg) then (hI h 11 4 x4.toNatClampNeg) else x3)), some (vi (x4 + 1)), some (vi (((hI h 11 3 x1.toNatClampNeg) - (hI h 11 3 x4.toNatClampNeg)) * x2))] [] h Q)))))))))))) : mT g me_tl_mostApartAhead (d + 1) 0 0 20 [some (vr 4 0), some (vi x1), some (vi x2), some (vi x3), some (vi x4), o5] [] h Q := by
  refine tr_iload (pc := 20) k_tl_mostApartAhead_20 rfl ?_
  refine tr_aload_n (pc := 22) 0 k_tl_mostApartAhead_22 rfl rfl ?_
  refine tr_getIx (pc := 23) k_tl_mostApartAhead_23 fl_tl_35 rfl rfl ?_
  refine tr_icmp_ge (pc := 26) 97 k_tl_mostApartAhead_26 (by decide) (fun q => ?_) (fun q => ?_)
  · replace hv := hv.1 q
    refine tr_iload_n (pc := 97) 3 k_tl_mostApartAhead_97 rfl rfl ?_
    refine tr_ireturn (pc := 98) k_tl_mostApartAhead_98 rfl rfl ?_
    exact hv
  · replace hv := hv.2 q
    refine tr_iload (pc := 29) k_tl_mostApartAhead_29 rfl ?_
    refine tr_aload_n (pc := 31) 0 k_tl_mostApartAhead_31 rfl rfl ?_
    refine tr_getP (pc := 32) k_tl_mostApartAhead_32 fl_tl_32 rfl (Eq.trans rfl (hsk.1 4 6 _ rfl)) ?_
    refine tr_alen (pc := 35) (v := 576) (by decide) k_tl_mostApartAhead_35 (by rw [show hL _ 11 4 = 576 from hsk.2.1 11 4 _ rfl]; rfl) ?_
    refine tr_icmp_ge (pc := 36) 97 k_tl_mostApartAhead_36 (by decide) (fun q => ?_) (fun q => ?_)
    · replace hv := hv.1 q
      refine tr_iload_n (pc := 97) 3 k_tl_mostApartAhead_97 rfl rfl ?_
      refine tr_ireturn (pc := 98) k_tl_mostApartAhead_98 rfl rfl ?_
      exact hv
    · replace hv := hv.2 q
      refine tr_aload_n (pc := 39) 0 k_tl_mostApartAhead_39 rfl rfl ?_
      refine tr_getP (pc := 40) k_tl_mostApartAhead_40 fl_tl_29 rfl (Eq.trans rfl (hsk.1 4 5 _ rfl)) ?_
      refine tr_iload_n (pc := 43) 1 k_tl_mostApartAhead_43 rfl rfl ?_
      refine tr_ialdx (pc := 44) k_tl_mostApartAhead_44 (mvin (hsk.2.1 11 3 _ rfl) hv.1) rfl ?_
      replace hv := hv.2
      refine tr_aload_n (pc := 45) 0 k_tl_mostApartAhead_45 rfl rfl ?_
      refine tr_getP (pc := 46) k_tl_mostApartAhead_46 fl_tl_29 rfl (Eq.trans rfl (hsk.1 4 5 _ rfl)) ?_
      refine tr_iload (pc := 49) k_tl_mostApartAhead_49 rfl ?_
      refine tr_ialdx (pc := 51) k_tl_mostApartAhead_51 (mvin (hsk.2.1 11 3 _ rfl) hv.1) rfl ?_
      replace hv := hv.2
      refine tr_isub (pc := 52) k_tl_mostApartAhead_52 ?_
      refine tr_iload_n (pc := 53) 2 k_tl_mostApartAhead_53 rfl rfl ?_
      refine tr_imul (pc := 54) k_tl_mostApartAhead_54 ?_
      refine tr_istore (pc := 55) k_tl_mostApartAhead_55 (by decide) rfl ?_
      show mT g me_tl_mostApartAhead (d + 1) 0 0 57 [some (vr 4 0), some (vi x1), some (vi x2), some (vi x3), some (vi x4), some (vi (((hI h 11 3 x1.toNatClampNeg) - (hI h 11 3 x4.toNatClampNeg)) * x2))] [] h _
      refine tr_aload_n (pc := 57) 0 k_tl_mostApartAhead_57 rfl rfl ?_
      refine tr_getP (pc := 58) k_tl_mostApartAhead_58 fl_tl_19 rfl (Eq.trans rfl (hsk.1 4 2 _ rfl)) ?_
      refine tr_iload_n (pc := 61) 1 k_tl_mostApartAhead_61 rfl rfl ?_
      refine tr_ialdx (pc := 62) k_tl_mostApartAhead_62 (mvin (hsk.2.1 11 0 _ rfl) hv.1) rfl ?_
      replace hv := hv.2
      refine tr_aload_n (pc := 63) 0 k_tl_mostApartAhead_63 rfl rfl ?_
      refine tr_getP (pc := 64) k_tl_mostApartAhead_64 fl_tl_19 rfl (Eq.trans rfl (hsk.1 4 2 _ rfl)) ?_
      refine tr_iload (pc := 67) k_tl_mostApartAhead_67 rfl ?_
      refine tr_ialdx (pc := 69) k_tl_mostApartAhead_69 (mvin (hsk.2.1 11 0 _ rfl) hv.1) rfl ?_
      replace hv := hv.2
      refine tr_isub (pc := 70) k_tl_mostApartAhead_70 ?_
      refine tr_abs (pc := 71) k_tl_mostApartAhead_71 ml_tl_92 (by omega) (Nat.le_of_ble_eq_true rfl) ?_
      refine tr_iload (pc := 74) k_tl_mostApartAhead_74 rfl ?_
      refine tr_icmp_ge (pc := 76) 91 k_tl_mostApartAhead_76 (by decide) (fun q => ?_) (fun q => ?_)
      · replace hv := hv.1 q
        refine tr_iinc (pc := 91) (v := (x4 + 1)) k_tl_mostApartAhead_91 rfl rfl (by decide) rfl ?_
        show mT g me_tl_mostApartAhead (d + 1) 0 0 94 [some (vr 4 0), some (vi x1), some (vi x2), some (vi x3), some (vi (x4 + 1)), some (vi (((hI h 11 3 x1.toNatClampNeg) - (hI h 11 3 x4.toNatClampNeg)) * x2))] [] h _
        refine tr_goto (pc := 94) 20 k_tl_mostApartAhead_94 (by decide) ?_
        exact hv
      · replace hv := hv.2 q
        refine tr_iload_n (pc := 79) 3 k_tl_mostApartAhead_79 rfl rfl ?_
        refine tr_aload_n (pc := 80) 0 k_tl_mostApartAhead_80 rfl rfl ?_
        refine tr_getP (pc := 81) k_tl_mostApartAhead_81 fl_tl_32 rfl (Eq.trans rfl (hsk.1 4 6 _ rfl)) ?_
        refine tr_iload (pc := 84) k_tl_mostApartAhead_84 rfl ?_
        refine tr_ialdx (pc := 86) k_tl_mostApartAhead_86 (mvin (hsk.2.1 11 4 _ rfl) hv.1) rfl ?_
        replace hv := hv.2
        refine tr_max (pc := 87) k_tl_mostApartAhead_87 ml_tl_87 (by omega) (Nat.le_of_ble_eq_true rfl) ?_
        refine tr_istore_n (pc := 90) 3 k_tl_mostApartAhead_90 rfl (by decide) rfl ?_
        show mT g me_tl_mostApartAhead (d + 1) 0 0 91 [some (vr 4 0), some (vi x1), some (vi x2), some (vi (if x3 < (hI h 11 4 x4.toNatClampNeg) then (hI h 11 4 x4.toNatClampNeg) else x3)), some (vi x4), some (vi (((hI h 11 3 x1.toNatClampNeg) - (hI h 11 3 x4.toNatClampNeg)) * x2))] [] h _
        refine tr_iinc (pc := 91) (v := (x4 + 1)) k_tl_mostApartAhead_91 rfl rfl (by decide) rfl ?_
        show mT g me_tl_mostApartAhead (d + 1) 0 0 94 [some (vr 4 0), some (vi x1), some (vi x2), some (vi (if x3 < (hI h 11 4 x4.toNatClampNeg) then (hI h 11 4 x4.toNatClampNeg) else x3)), some (vi (x4 + 1)), some (vi (((hI h 11 3 x1.toNatClampNeg) - (hI h 11 3 x4.toNatClampNeg)) * x2))] [] h _
        refine tr_goto (pc := 94) 20 k_tl_mostApartAhead_94 (by decide) ?_
        exact hv
theorem v_fn_gauge_0 {g : mG} {d : Nat} (x1 : Int32) (x2 : Int32) {h : mH} {Q : Option mV → mH → Prop} (hsk : mSK h) (hv : mT g me_ga_jetAt (d + 4) 0 0 0 [some (vr 1 0), some (vi x1)] [] h (fun v h1 => ∃ p2, v = some (vp p2) ∧ mSK h1 ∧ ((p2 = none → mT g me_fn_refuse (d + 3) 0 0 0 [some (vr 0 0), some (vi (-1 : Int32)), none] [] h1 (fun v h4 => ∃ y5, v = some (vi y5) ∧ mSK h4 ∧ Q (some (vi ((1000000000 : Int32) - y5))) h4)) ∧ (∀ kq n3, p2 = some (kq, n3) → kq = 8 ∧ (((-1 : Int32) ≤ x2 → ((x2 ≤ (500 : Int32) → Q (some (vi (hI h1 8 n3 4))) (setI h1 8 n3 4 x2)) ∧ (¬ x2 ≤ (500 : Int32) → mT g me_fn_refuse (d + 3) 0 0 0 [some (vr 0 0), some (vi (-6 : Int32)), none] [] h1 (fun v h6 => ∃ y7, v = some (vi y7) ∧ mSK h6 ∧ Q (some (vi ((1000000000 : Int32) - y7))) h6)))) ∧ (¬ (-1 : Int32) ≤ x2 → mT g me_fn_refuse (d + 3) 0 0 0 [some (vr 0 0), some (vi (-4 : Int32)), none] [] h1 (fun v h8 => ∃ y9, v = some (vi y9) ∧ mSK h8 ∧ Q (some (vi ((1000000000 : Int32) - y9))) h8))))))) : mT g me_fn_gauge (d + 5) 0 0 0 [some (vr 0 0), some (vi x1), some (vi x2), none, none] [] h Q := by
  refine tr_aload_n (pc := 0) 0 k_fn_gauge_0 rfl rfl ?_
  refine tr_getP (pc := 1) k_fn_gauge_1 fl_fn_12 rfl (Eq.trans rfl (hsk.1 0 0 _ rfl)) ?_
  refine tr_iload_n (pc := 4) 1 k_fn_gauge_4 rfl rfl ?_
  refine tr_callV (pc := 5) (d' := d + 4) (mc' := 0) (ms' := 0) [vi x1] k_fn_gauge_5 ca_ga_jetAt ml_fn_121 ii_ga_jetAt ⟨by decide, rfl⟩ pa_ga_jetAt (by omega) (by omega) (by omega) rfl (Nat.le_of_ble_eq_true rfl) (Nat.le_of_ble_eq_true rfl) hv (fun v h9 hv => ?_)
  obtain ⟨p2, rfl, hv⟩ := hv
  obtain ⟨h1, eh⟩ : ∃ z, z = h9 := ⟨_, rfl⟩
  subst eh
  obtain ⟨hskh1, hv⟩ := hv
  show mT g me_fn_gauge (d + 5) 0 0 8 [some (vr 0 0), some (vi x1), some (vi x2), none, none] [vp p2] h1 _
  refine tr_astore_n (pc := 8) 3 k_fn_gauge_8 rfl (by decide) rfl ?_
  show mT g me_fn_gauge (d + 5) 0 0 9 [some (vr 0 0), some (vi x1), some (vi x2), some (vp p2), none] [] h1 _
  refine tr_aload_n (pc := 9) 3 k_fn_gauge_9 rfl rfl ?_
  rcases p2 with _ | ⟨kq, n3⟩
  · replace hv := hv.1 rfl
    refine tr_ifnonnull (pc := 10) 19 k_fn_gauge_10 (by decide) (fun _ => ?_) (fun _ _ q => by cases q)
    refine tr_aload_n (pc := 13) 0 k_fn_gauge_13 rfl rfl ?_
    refine tr_iconst (pc := 14) (v := -1) k_fn_gauge_14 (by decide) ?_
    refine tr_callV (pc := 15) (d' := d + 4) (mc' := 0) (ms' := 0) [vi (-1 : Int32)] k_fn_gauge_15 ca_fn_refuseAsTold ml_fn_150 ii_fn_refuseAsTold ⟨by decide, rfl⟩ pa_fn_refuseAsTold (by omega) (by omega) (by omega) rfl (Nat.le_of_ble_eq_true rfl) (Nat.le_of_ble_eq_true rfl) (Qk := fun v h9 => mT g me_fn_gauge (d + 5) 0 0 18 [some (vr 0 0), some (vi x1), some (vi x2), some (vn), none] (v.toList ++ []) h9 _) ?_ (fun _ _ z => z)
    show mT g me_fn_refuseAsTold (d + 4) 0 0 0 [some (vr 0 0), some (vi (-1 : Int32))] [] h1 _
    refine tr_ldcw (pc := 0) (v := 1000000000) k_fn_refuseAsTold_0 co_fn_307 ?_
    refine tr_aload_n (pc := 3) 0 k_fn_refuseAsTold_3 rfl rfl ?_
    refine tr_iload_n (pc := 4) 1 k_fn_refuseAsTold_4 rfl rfl ?_
    refine tr_callV (pc := 5) (d' := d + 3) (mc' := 0) (ms' := 0) [vi (-1 : Int32)] k_fn_refuseAsTold_5 ca_fn_refuse ml_fn_56 ii_fn_refuse ⟨by decide, rfl⟩ pa_fn_refuse (by omega) (by omega) (by omega) rfl (Nat.le_of_ble_eq_true rfl) (Nat.le_of_ble_eq_true rfl) hv (fun v h9 hv => ?_)
    obtain ⟨y5, rfl, hv⟩ := hv
    obtain ⟨h4, eh⟩ : ∃ z, z = h9 := ⟨_, rfl⟩
    subst eh
    obtain ⟨hskh4, hv⟩ := hv
    show mT g me_fn_refuseAsTold (d + 4) 0 0 8 [some (vr 0 0), some (vi (-1 : Int32))] [vi y5, vi (1000000000 : Int32)] h4 _
    refine tr_isub (pc := 8) k_fn_refuseAsTold_8 ?_
    refine tr_ireturn (pc := 9) k_fn_refuseAsTold_9 rfl rfl ?_
    show mT g me_fn_gauge (d + 5) 0 0 18 [some (vr 0 0), some (vi x1), some (vi x2), some (vn), none] [vi ((1000000000 : Int32) - y5)] h4 _
    refine tr_ireturn (pc := 18) k_fn_gauge_18 rfl rfl ?_
    exact hv
  · have hw := hv.2 kq n3 rfl
    clear hv
    obtain ⟨tq, hv⟩ := hw
    subst tq
    refine tr_ifnonnull (pc := 10) 19 k_fn_gauge_10 (by decide) (fun q => by cases q) (fun _ _ _ => ?_)
    refine tr_iload_n (pc := 19) 2 k_fn_gauge_19 rfl rfl ?_
    refine tr_iconst (pc := 20) (v := -1) k_fn_gauge_20 (by decide) ?_
    refine tr_icmp_ge (pc := 21) 31 k_fn_gauge_21 (by decide) (fun q => ?_) (fun q => ?_)
    · replace hv := hv.1 q
      refine tr_iload_n (pc := 31) 2 k_fn_gauge_31 rfl rfl ?_
      refine tr_sipush (pc := 32) (v := 500) k_fn_gauge_32 (by decide) ?_
      refine tr_icmp_le (pc := 35) 45 k_fn_gauge_35 (by decide) (fun q => ?_) (fun q => ?_)
      · replace hv := hv.1 q
        refine tr_aload_n (pc := 45) 3 k_fn_gauge_45 rfl rfl ?_
        refine tr_getIx (pc := 46) k_fn_gauge_46 fl_fn_235 rfl rfl ?_
        refine tr_istore (pc := 49) k_fn_gauge_49 (by decide) rfl ?_
        show mT g me_fn_gauge (d + 5) 0 0 51 [some (vr 0 0), some (vi x1), some (vi x2), some (vr 8 n3), some (vi (hI h1 8 n3 4))] [] h1 _
        refine tr_aload_n (pc := 51) 3 k_fn_gauge_51 rfl rfl ?_
        refine tr_iload_n (pc := 52) 2 k_fn_gauge_52 rfl rfl ?_
        refine tr_putI (pc := 53) k_fn_gauge_53 fl_fn_235 (Or.inl rfl) rfl ⟨rfl, rfl⟩ ?_
        refine tr_iload (pc := 56) k_fn_gauge_56 rfl ?_
        refine tr_ireturn (pc := 58) k_fn_gauge_58 rfl rfl ?_
        exact hv
      · replace hv := hv.2 q
        refine tr_aload_n (pc := 38) 0 k_fn_gauge_38 rfl rfl ?_
        refine tr_bipush (pc := 39) (v := -6) k_fn_gauge_39 (by decide) ?_
        refine tr_callV (pc := 41) (d' := d + 4) (mc' := 0) (ms' := 0) [vi (-6 : Int32)] k_fn_gauge_41 ca_fn_refuseAsTold ml_fn_150 ii_fn_refuseAsTold ⟨by decide, rfl⟩ pa_fn_refuseAsTold (by omega) (by omega) (by omega) rfl (Nat.le_of_ble_eq_true rfl) (Nat.le_of_ble_eq_true rfl) (Qk := fun v h9 => mT g me_fn_gauge (d + 5) 0 0 44 [some (vr 0 0), some (vi x1), some (vi x2), some (vr 8 n3), none] (v.toList ++ []) h9 _) ?_ (fun _ _ z => z)
        show mT g me_fn_refuseAsTold (d + 4) 0 0 0 [some (vr 0 0), some (vi (-6 : Int32))] [] h1 _
        refine tr_ldcw (pc := 0) (v := 1000000000) k_fn_refuseAsTold_0 co_fn_307 ?_
        refine tr_aload_n (pc := 3) 0 k_fn_refuseAsTold_3 rfl rfl ?_
        refine tr_iload_n (pc := 4) 1 k_fn_refuseAsTold_4 rfl rfl ?_
        refine tr_callV (pc := 5) (d' := d + 3) (mc' := 0) (ms' := 0) [vi (-6 : Int32)] k_fn_refuseAsTold_5 ca_fn_refuse ml_fn_56 ii_fn_refuse ⟨by decide, rfl⟩ pa_fn_refuse (by omega) (by omega) (by omega) rfl (Nat.le_of_ble_eq_true rfl) (Nat.le_of_ble_eq_true rfl) hv (fun v h9 hv => ?_)
        obtain ⟨y7, rfl, hv⟩ := hv
        obtain ⟨h6, eh⟩ : ∃ z, z = h9 := ⟨_, rfl⟩
        subst eh
        obtain ⟨hskh6, hv⟩ := hv
        show mT g me_fn_refuseAsTold (d + 4) 0 0 8 [some (vr 0 0), some (vi (-6 : Int32))] [vi y7, vi (1000000000 : Int32)] h6 _
        refine tr_isub (pc := 8) k_fn_refuseAsTold_8 ?_
        refine tr_ireturn (pc := 9) k_fn_refuseAsTold_9 rfl rfl ?_
        show mT g me_fn_gauge (d + 5) 0 0 44 [some (vr 0 0), some (vi x1), some (vi x2), some (vr 8 n3), none] [vi ((1000000000 : Int32) - y7)] h6 _
        refine tr_ireturn (pc := 44) k_fn_gauge_44 rfl rfl ?_
        exact hv
    · replace hv := hv.2 q
      refine tr_aload_n (pc := 24) 0 k_fn_gauge_24 rfl rfl ?_
      refine tr_bipush (pc := 25) (v := -4) k_fn_gauge_25 (by decide) ?_
      refine tr_callV (pc := 27) (d' := d + 4) (mc' := 0) (ms' := 0) [vi (-4 : Int32)] k_fn_gauge_27 ca_fn_refuseAsTold ml_fn_150 ii_fn_refuseAsTold ⟨by decide, rfl⟩ pa_fn_refuseAsTold (by omega) (by omega) (by omega) rfl (Nat.le_of_ble_eq_true rfl) (Nat.le_of_ble_eq_true rfl) (Qk := fun v h9 => mT g me_fn_gauge (d + 5) 0 0 30 [some (vr 0 0), some (vi x1), some (vi x2), some (vr 8 n3), none] (v.toList ++ []) h9 _) ?_ (fun _ _ z => z)
      show mT g me_fn_refuseAsTold (d + 4) 0 0 0 [some (vr 0 0), some (vi (-4 : Int32))] [] h1 _
      refine tr_ldcw (pc := 0) (v := 1000000000) k_fn_refuseAsTold_0 co_fn_307 ?_
      refine tr_aload_n (pc := 3) 0 k_fn_refuseAsTold_3 rfl rfl ?_
      refine tr_iload_n (pc := 4) 1 k_fn_refuseAsTold_4 rfl rfl ?_
      refine tr_callV (pc := 5) (d' := d + 3) (mc' := 0) (ms' := 0) [vi (-4 : Int32)] k_fn_refuseAsTold_5 ca_fn_refuse ml_fn_56 ii_fn_refuse ⟨by decide, rfl⟩ pa_fn_refuse (by omega) (by omega) (by omega) rfl (Nat.le_of_ble_eq_true rfl) (Nat.le_of_ble_eq_true rfl) hv (fun v h9 hv => ?_)
      obtain ⟨y9, rfl, hv⟩ := hv
      obtain ⟨h8, eh⟩ : ∃ z, z = h9 := ⟨_, rfl⟩
      subst eh
      obtain ⟨hskh8, hv⟩ := hv
      show mT g me_fn_refuseAsTold (d + 4) 0 0 8 [some (vr 0 0), some (vi (-4 : Int32))] [vi y9, vi (1000000000 : Int32)] h8 _
      refine tr_isub (pc := 8) k_fn_refuseAsTold_8 ?_
      refine tr_ireturn (pc := 9) k_fn_refuseAsTold_9 rfl rfl ?_
      show mT g me_fn_gauge (d + 5) 0 0 30 [some (vr 0 0), some (vi x1), some (vi x2), some (vr 8 n3), none] [vi ((1000000000 : Int32) - y9)] h8 _
      refine tr_ireturn (pc := 30) k_fn_gauge_30 rfl rfl ?_
      exact hv
theorem v_fn_tol_0 {g : mG} {d : Nat} (x1 : Int32) {h : mH} {Q : Option mV → mH → Prop} (hsk : mSK h) (hv : ((0 ≤ x1 → ((x1 ≤ (50 : Int32) → Q (some (vi (hI h 5 0 1))) (setI h 5 0 1 x1)) ∧ (¬ x1 ≤ (50 : Int32) → mT g me_fn_refuse (d + 1) 0 0 0 [some (vr 0 0), some (vi (-6 : Int32)), none] [] h (fun v h1 => ∃ y2, v = some (vi y2) ∧ mSK h1 ∧ Q (some (vi y2)) h1)))) ∧ (¬ 0 ≤ x1 → mT g me_fn_refuse (d + 1) 0 0 0 [some (vr 0 0), some (vi (-4 : Int32)), none] [] h (fun v h3 => ∃ y4, v = some (vi y4) ∧ mSK h3 ∧ Q (some (vi y4)) h3)))) : mT g me_fn_tol (d + 2) 0 0 0 [some (vr 0 0), some (vi x1), none] [] h Q := by
  refine tr_iload_n (pc := 0) 1 k_fn_tol_0 rfl rfl ?_
  refine tr_if_ge (pc := 1) 11 k_fn_tol_1 (by decide) (fun q => ?_) (fun q => ?_)
  · replace hv := hv.1 q
    refine tr_iload_n (pc := 11) 1 k_fn_tol_11 rfl rfl ?_
    refine tr_bipush (pc := 12) (v := 50) k_fn_tol_12 (by decide) ?_
    refine tr_icmp_le (pc := 14) 24 k_fn_tol_14 (by decide) (fun q => ?_) (fun q => ?_)
    · replace hv := hv.1 q
      refine tr_aload_n (pc := 24) 0 k_fn_tol_24 rfl rfl ?_
      refine tr_getP (pc := 25) k_fn_tol_25 fl_fn_44 rfl (Eq.trans rfl (hsk.1 0 4 _ rfl)) ?_
      refine tr_getIx (pc := 28) k_fn_tol_28 fl_fn_238 rfl rfl ?_
      refine tr_istore_n (pc := 31) 2 k_fn_tol_31 rfl (by decide) rfl ?_
      show mT g me_fn_tol (d + 2) 0 0 32 [some (vr 0 0), some (vi x1), some (vi (hI h 5 0 1))] [] h _
      refine tr_aload_n (pc := 32) 0 k_fn_tol_32 rfl rfl ?_
      refine tr_getP (pc := 33) k_fn_tol_33 fl_fn_44 rfl (Eq.trans rfl (hsk.1 0 4 _ rfl)) ?_
      refine tr_iload_n (pc := 36) 1 k_fn_tol_36 rfl rfl ?_
      refine tr_putI (pc := 37) k_fn_tol_37 fl_fn_238 (Or.inl rfl) rfl ⟨rfl, rfl⟩ ?_
      refine tr_iload_n (pc := 40) 2 k_fn_tol_40 rfl rfl ?_
      refine tr_ireturn (pc := 41) k_fn_tol_41 rfl rfl ?_
      exact hv
    · replace hv := hv.2 q
      refine tr_aload_n (pc := 17) 0 k_fn_tol_17 rfl rfl ?_
      refine tr_bipush (pc := 18) (v := -6) k_fn_tol_18 (by decide) ?_
      refine tr_callV (pc := 20) (d' := d + 1) (mc' := 0) (ms' := 0) [vi (-6 : Int32)] k_fn_tol_20 ca_fn_refuse ml_fn_56 ii_fn_refuse ⟨by decide, rfl⟩ pa_fn_refuse (by omega) (by omega) (by omega) rfl (Nat.le_of_ble_eq_true rfl) (Nat.le_of_ble_eq_true rfl) hv (fun v h9 hv => ?_)
      obtain ⟨y2, rfl, hv⟩ := hv
      obtain ⟨h1, eh⟩ : ∃ z, z = h9 := ⟨_, rfl⟩
      subst eh
      obtain ⟨hskh1, hv⟩ := hv
      show mT g me_fn_tol (d + 2) 0 0 23 [some (vr 0 0), some (vi x1), none] [vi y2] h1 _
      refine tr_ireturn (pc := 23) k_fn_tol_23 rfl rfl ?_
      exact hv
  · replace hv := hv.2 q
    refine tr_aload_n (pc := 4) 0 k_fn_tol_4 rfl rfl ?_
    refine tr_bipush (pc := 5) (v := -4) k_fn_tol_5 (by decide) ?_
    refine tr_callV (pc := 7) (d' := d + 1) (mc' := 0) (ms' := 0) [vi (-4 : Int32)] k_fn_tol_7 ca_fn_refuse ml_fn_56 ii_fn_refuse ⟨by decide, rfl⟩ pa_fn_refuse (by omega) (by omega) (by omega) rfl (Nat.le_of_ble_eq_true rfl) (Nat.le_of_ble_eq_true rfl) hv (fun v h9 hv => ?_)
    obtain ⟨y4, rfl, hv⟩ := hv
    obtain ⟨h3, eh⟩ : ∃ z, z = h9 := ⟨_, rfl⟩
    subst eh
    obtain ⟨hskh3, hv⟩ := hv
    show mT g me_fn_tol (d + 2) 0 0 10 [some (vr 0 0), some (vi x1), none] [vi y4] h3 _
    refine tr_ireturn (pc := 10) k_fn_tol_10 rfl rfl ?_
    exact hv
theorem v_fn_explain_0 {g : mG} {d : Nat}  {h : mH} {Q : Option mV → mH → Prop} (hsk : mSK h) (hv : mT g me_lk_seek (d + 8) 0 0 0 [some (vr 5 0), none, none, none] [] h (fun v h1 => ∃ y2, v = some (vi y2) ∧ mSK h1 ∧ Q (some (vi y2)) h1)) : mT g me_fn_explain (d + 9) 0 0 0 [some (vr 0 0)] [] h Q := by
  refine tr_aload_n (pc := 0) 0 k_fn_explain_0 rfl rfl ?_
  refine tr_getP (pc := 1) k_fn_explain_1 fl_fn_44 rfl (Eq.trans rfl (hsk.1 0 4 _ rfl)) ?_
  refine tr_callV (pc := 4) (d' := d + 8) (mc' := 0) (ms' := 0) [] k_fn_explain_4 ca_lk_seek ml_fn_241 ii_lk_seek ⟨by decide, rfl⟩ pa_lk_seek (by omega) (by omega) (by omega) rfl (Nat.le_of_ble_eq_true rfl) (Nat.le_of_ble_eq_true rfl) hv (fun v h9 hv => ?_)
  obtain ⟨y2, rfl, hv⟩ := hv
  obtain ⟨h1, eh⟩ : ∃ z, z = h9 := ⟨_, rfl⟩
  subst eh
  obtain ⟨hskh1, hv⟩ := hv
  show mT g me_fn_explain (d + 9) 0 0 7 [some (vr 0 0)] [vi y2] h1 _
  refine tr_ireturn (pc := 7) k_fn_explain_7 rfl rfl ?_
  exact hv
theorem v_lk_seek_0 {g : mG} {d : Nat}  {h : mH} {Q : Option mV → mH → Prop} (hsk : mSK h) (hv : mT g me_lk_isAnyRead (d + 7) 0 0 0 [some (vr 5 0), none] [] (setI (setI (setI (setI h 5 0 2 (-9 : Int32)) 5 0 3 (-9 : Int32)) 5 0 4 (-9 : Int32)) 5 0 5 (-9 : Int32)) (fun v h1 => ∃ y2, v = some (vi y2) ∧ mSK h1 ∧ ((¬ y2 = 0 → mT g me_lk_misses (d + 7) 0 0 0 [some (vr 5 0), none, none, none, none] [] h1 (fun v h3 => ∃ y4, v = some (vi y4) ∧ mSK h3 ∧ ((¬ y4 = 0 → mT g me_lk_seek (d + 8) 0 0 35 [some (vr 5 0), some (vi (hI h3 2 1 1)), some (vi (0 : Int32)), none] [] h3 Q) ∧ (y4 = 0 → Q (some (vi (0 : Int32))) h3)))) ∧ (y2 = 0 → Q (some (vi (4 : Int32))) h1)))) : mT g me_lk_seek (d + 8) 0 0 0 [some (vr 5 0), none, none, none] [] h Q := by
  refine tr_aload_n (pc := 0) 0 k_lk_seek_0 rfl rfl ?_
  refine tr_callV (pc := 1) (d' := d + 7) (mc' := 0) (ms' := 0) [] k_lk_seek_1 ca_lk_forgetFound ml_lk_15 ii_lk_forgetFound ⟨by decide, rfl⟩ pa_lk_forgetFound (by omega) (by omega) (by omega) rfl (Nat.le_of_ble_eq_true rfl) (Nat.le_of_ble_eq_true rfl) (Qk := fun v h9 => mT g me_lk_seek (d + 8) 0 0 4 [some (vr 5 0), none, none, none] (v.toList ++ []) h9 _) ?_ (fun _ _ z => z)
  show mT g me_lk_forgetFound (d + 7) 0 0 0 [some (vr 5 0)] [] h _
  refine tr_aload_n (pc := 0) 0 k_lk_forgetFound_0 rfl rfl ?_
  refine tr_bipush (pc := 1) (v := -9) k_lk_forgetFound_1 (by decide) ?_
  refine tr_putI (pc := 3) k_lk_forgetFound_3 fl_lk_51 (Or.inl rfl) rfl ⟨rfl, rfl⟩ ?_
  refine tr_aload_n (pc := 6) 0 k_lk_forgetFound_6 rfl rfl ?_
  refine tr_bipush (pc := 7) (v := -9) k_lk_forgetFound_7 (by decide) ?_
  refine tr_putI (pc := 9) k_lk_forgetFound_9 fl_lk_55 (Or.inl rfl) rfl ⟨rfl, rfl⟩ ?_
  refine tr_aload_n (pc := 12) 0 k_lk_forgetFound_12 rfl rfl ?_
  refine tr_bipush (pc := 13) (v := -9) k_lk_forgetFound_13 (by decide) ?_
  refine tr_putI (pc := 15) k_lk_forgetFound_15 fl_lk_58 (Or.inl rfl) rfl ⟨rfl, rfl⟩ ?_
  refine tr_aload_n (pc := 18) 0 k_lk_forgetFound_18 rfl rfl ?_
  refine tr_bipush (pc := 19) (v := -9) k_lk_forgetFound_19 (by decide) ?_
  refine tr_putI (pc := 21) k_lk_forgetFound_21 fl_lk_61 (Or.inl rfl) rfl ⟨rfl, rfl⟩ ?_
  refine tr_return (pc := 24) k_lk_forgetFound_24 rfl ?_
  show mT g me_lk_seek (d + 8) 0 0 4 [some (vr 5 0), none, none, none] [] (setI (setI (setI (setI h 5 0 2 (-9 : Int32)) 5 0 3 (-9 : Int32)) 5 0 4 (-9 : Int32)) 5 0 5 (-9 : Int32)) _
  refine tr_aload_n (pc := 4) 0 k_lk_seek_4 rfl rfl ?_
  refine tr_callV (pc := 5) (d' := d + 7) (mc' := 0) (ms' := 0) [] k_lk_seek_5 ca_lk_isAnyRead ml_lk_18 ii_lk_isAnyRead ⟨by decide, rfl⟩ pa_lk_isAnyRead (by omega) (by omega) (by omega) rfl (Nat.le_of_ble_eq_true rfl) (Nat.le_of_ble_eq_true rfl) hv (fun v h9 hv => ?_)
  obtain ⟨y2, rfl, hv⟩ := hv
  obtain ⟨h1, eh⟩ : ∃ z, z = h9 := ⟨_, rfl⟩
  subst eh
  obtain ⟨hskh1, hv⟩ := hv
  show mT g me_lk_seek (d + 8) 0 0 8 [some (vr 5 0), none, none, none] [vi y2] h1 _
  refine tr_if_ne (pc := 8) 13 k_lk_seek_8 (by decide) (fun q => ?_) (fun q => ?_)
  · replace hv := hv.1 q
    refine tr_aload_n (pc := 13) 0 k_lk_seek_13 rfl rfl ?_
    refine tr_callV (pc := 14) (d' := d + 7) (mc' := 0) (ms' := 0) [] k_lk_seek_14 ca_lk_misses ml_lk_22 ii_lk_misses ⟨by decide, rfl⟩ pa_lk_misses (by omega) (by omega) (by omega) rfl (Nat.le_of_ble_eq_true rfl) (Nat.le_of_ble_eq_true rfl) hv (fun v h9 hv => ?_)
    obtain ⟨y4, rfl, hv⟩ := hv
    obtain ⟨h3, eh⟩ : ∃ z, z = h9 := ⟨_, rfl⟩
    subst eh
    obtain ⟨hskh3, hv⟩ := hv
    show mT g me_lk_seek (d + 8) 0 0 17 [some (vr 5 0), none, none, none] [vi y4] h3 _
    refine tr_if_ne (pc := 17) 22 k_lk_seek_17 (by decide) (fun q => ?_) (fun q => ?_)
    · replace hv := hv.1 q
      refine tr_aload_n (pc := 22) 0 k_lk_seek_22 rfl rfl ?_
      refine tr_getP (pc := 23) k_lk_seek_23 fl_lk_9 rfl (Eq.trans rfl (hskh3.1 5 0 _ rfl)) ?_
      refine tr_getP (pc := 26) k_lk_seek_26 fl_lk_26 rfl (Eq.trans rfl (hskh3.1 1 1 _ rfl)) ?_
      refine tr_callV (pc := 29) (d' := d + 7) (mc' := 0) (ms' := 0) [] k_lk_seek_29 ca_al_size ml_lk_32 ii_al_size ⟨by decide, rfl⟩ pa_al_size (by omega) (by omega) (by omega) rfl (Nat.le_of_ble_eq_true rfl) (Nat.le_of_ble_eq_true rfl) (Qk := fun v h9 => mT g me_lk_seek (d + 8) 0 0 32 [some (vr 5 0), none, none, none] (v.toList ++ []) h9 _) ?_ (fun _ _ z => z)
      show mT g me_al_size (d + 7) 0 0 0 [some (vr 2 1)] [] h3 _
      refine tr_aload_n (pc := 0) 0 k_al_size_0 rfl rfl ?_
      refine tr_getIx (pc := 1) k_al_size_1 fl_al_48 rfl rfl ?_
      refine tr_ireturn (pc := 4) k_al_size_4 rfl rfl ?_
      show mT g me_lk_seek (d + 8) 0 0 32 [some (vr 5 0), none, none, none] [vi (hI h3 2 1 1)] h3 _
      refine tr_istore_n (pc := 32) 1 k_lk_seek_32 rfl (by decide) rfl ?_
      show mT g me_lk_seek (d + 8) 0 0 33 [some (vr 5 0), some (vi (hI h3 2 1 1)), none, none] [] h3 _
      refine tr_iconst (pc := 33) (v := 0) k_lk_seek_33 (by decide) ?_
      refine tr_istore_n (pc := 34) 2 k_lk_seek_34 rfl (by decide) rfl ?_
      show mT g me_lk_seek (d + 8) 0 0 35 [some (vr 5 0), some (vi (hI h3 2 1 1)), some (vi (0 : Int32)), none] [] h3 _
      exact hv
    · replace hv := hv.2 q
      refine tr_iconst (pc := 20) (v := 0) k_lk_seek_20 (by decide) ?_
      refine tr_ireturn (pc := 21) k_lk_seek_21 rfl rfl ?_
      exact hv
  · replace hv := hv.2 q
    refine tr_iconst (pc := 11) (v := 4) k_lk_seek_11 (by decide) ?_
    refine tr_ireturn (pc := 12) k_lk_seek_12 rfl rfl ?_
    exact hv
theorem v_lk_seek_35 {g : mG} {d : Nat} (x1 : Int32) (x2 : Int32) (o3 : Option mV) {h : mH} {Q : Option mV → mH → Prop} (hsk : mSK h) (hv : ((x1 ≤ x2 → mT g me_lk_seek (d + 8) 0 0 71 [some (vr 5 0), some (vi x1), some (vi (0 : Int32)), o3] [] h Q) ∧ (¬ x1 ≤ x2 → (∃ n1, mGet h 1 x2 (some (7, n1)) ∧ mT g me_lk_explainsAlone (d + 7) 0 0 0 [some (vr 5 0), some (vr 7 n1), none, none, none, none] [] h (fun v h2 => ∃ y3, v = some (vi y3) ∧ mSK h2 ∧ ((y3 = 0 → mT g me_lk_seek (d + 8) 0 0 35 [some (vr 5 0), some (vi x1), some (vi (x2 + 1)), o3] [] h2 Q) ∧ (¬ y3 = 0 → Q (some (vi (1 : Int32))) h2))))))) : mT g me_lk_seek (d + 8) 0 0 35 [some (vr 5 0), some (vi x1), some (vi x2), o3] [] h Q := by
  refine tr_iload_n (pc := 35) 2 k_lk_seek_35 rfl rfl ?_
  refine tr_iload_n (pc := 36) 1 k_lk_seek_36 rfl rfl ?_
  refine tr_icmp_ge (pc := 37) 69 k_lk_seek_37 (by decide) (fun q => ?_) (fun q => ?_)
  · replace hv := hv.1 q
    refine tr_iconst (pc := 69) (v := 0) k_lk_seek_69 (by decide) ?_
    refine tr_istore_n (pc := 70) 2 k_lk_seek_70 rfl (by decide) rfl ?_
    show mT g me_lk_seek (d + 8) 0 0 71 [some (vr 5 0), some (vi x1), some (vi (0 : Int32)), o3] [] h _
    exact hv
  · replace hv := hv.2 q
    refine tr_aload_n (pc := 40) 0 k_lk_seek_40 rfl rfl ?_
    refine tr_aload_n (pc := 41) 0 k_lk_seek_41 rfl rfl ?_
    refine tr_getP (pc := 42) k_lk_seek_42 fl_lk_9 rfl (Eq.trans rfl (hsk.1 5 0 _ rfl)) ?_
    refine tr_getP (pc := 45) k_lk_seek_45 fl_lk_26 rfl (Eq.trans rfl (hsk.1 1 1 _ rfl)) ?_
    refine tr_iload_n (pc := 48) 2 k_lk_seek_48 rfl rfl ?_
    obtain ⟨n1, hg, hv⟩ := hv
    refine tr_alget (pc := 49) k_lk_seek_49 ml_lk_37 (by omega) (Nat.le_of_ble_eq_true rfl) (mGet.up hg rfl rfl) ?_
    refine tr_cast (pc := 52) k_lk_seek_52 (by decide) cl_lk_41 ?_
    refine tr_callV (pc := 55) (d' := d + 7) (mc' := 0) (ms' := 0) [vr 7 n1] k_lk_seek_55 ca_lk_explainsAlone ml_lk_43 ii_lk_explainsAlone ⟨by decide, rfl⟩ pa_lk_explainsAlone (by omega) (by omega) (by omega) rfl (Nat.le_of_ble_eq_true rfl) (Nat.le_of_ble_eq_true rfl) hv (fun v h9 hv => ?_)
    obtain ⟨y3, rfl, hv⟩ := hv
    obtain ⟨h2, eh⟩ : ∃ z, z = h9 := ⟨_, rfl⟩
    subst eh
    obtain ⟨hskh2, hv⟩ := hv
    show mT g me_lk_seek (d + 8) 0 0 58 [some (vr 5 0), some (vi x1), some (vi x2), o3] [vi y3] h2 _
    refine tr_if_eq (pc := 58) 63 k_lk_seek_58 (by decide) (fun q => ?_) (fun q => ?_)
    · replace hv := hv.1 q
      refine tr_iinc (pc := 63) (v := (x2 + 1)) k_lk_seek_63 rfl rfl (by decide) rfl ?_
      show mT g me_lk_seek (d + 8) 0 0 66 [some (vr 5 0), some (vi x1), some (vi (x2 + 1)), o3] [] h2 _
      refine tr_goto (pc := 66) 35 k_lk_seek_66 (by decide) ?_
      exact hv
    · replace hv := hv.2 q
      refine tr_iconst (pc := 61) (v := 1) k_lk_seek_61 (by decide) ?_
      refine tr_ireturn (pc := 62) k_lk_seek_62 rfl rfl ?_
      exact hv
theorem v_lk_seek_71 {g : mG} {d : Nat} (x1 : Int32) (x2 : Int32) (o3 : Option mV) {h : mH} {Q : Option mV → mH → Prop} (hsk : mSK h) (hv : ((x1 ≤ x2 → Q (some (vi (3 : Int32))) h) ∧ (¬ x1 ≤ x2 → mT g me_lk_seek (d + 8) 0 0 80 [some (vr 5 0), some (vi x1), some (vi x2), some (vi (x2 + (1 : Int32)))] [] h Q))) : mT g me_lk_seek (d + 8) 0 0 71 [some (vr 5 0), some (vi x1), some (vi x2), o3] [] h Q := by
  refine tr_iload_n (pc := 71) 2 k_lk_seek_71 rfl rfl ?_
  refine tr_iload_n (pc := 72) 1 k_lk_seek_72 rfl rfl ?_
  refine tr_icmp_ge (pc := 73) 134 k_lk_seek_73 (by decide) (fun q => ?_) (fun q => ?_)
  · replace hv := hv.1 q
    refine tr_iconst (pc := 134) (v := 3) k_lk_seek_134 (by decide) ?_
    refine tr_ireturn (pc := 135) k_lk_seek_135 rfl rfl ?_
    exact hv
  · replace hv := hv.2 q
    refine tr_iload_n (pc := 76) 2 k_lk_seek_76 rfl rfl ?_
    refine tr_iconst (pc := 77) (v := 1) k_lk_seek_77 (by decide) ?_
    refine tr_iadd (pc := 78) k_lk_seek_78 ?_
    refine tr_istore_n (pc := 79) 3 k_lk_seek_79 rfl (by decide) rfl ?_
    show mT g me_lk_seek (d + 8) 0 0 80 [some (vr 5 0), some (vi x1), some (vi x2), some (vi (x2 + (1 : Int32)))] [] h _
    exact hv
theorem v_lk_seek_80 {g : mG} {d : Nat} (x1 : Int32) (x2 : Int32) (x3 : Int32) {h : mH} {Q : Option mV → mH → Prop} (hsk : mSK h) (hv : ((x1 ≤ x3 → mT g me_lk_seek (d + 8) 0 0 71 [some (vr 5 0), some (vi x1), some (vi (x2 + 1)), some (vi x3)] [] h Q) ∧ (¬ x1 ≤ x3 → (∃ n1, mGet h 1 x2 (some (7, n1)) ∧ (∃ n2, mGet h 1 x3 (some (7, n2)) ∧ mT g me_lk_explainTogether (d + 7) 0 0 0 [some (vr 5 0), some (vr 7 n1), some (vr 7 n2), none, none, none, none, none, none] [] h (fun v h3 => ∃ y4, v = some (vi y4) ∧ mSK h3 ∧ ((y4 = 0 → mT g me_lk_seek (d + 8) 0 0 80 [some (vr 5 0), some (vi x1), some (vi x2), some (vi (x3 + 1))] [] h3 Q) ∧ (¬ y4 = 0 → Q (some (vi (2 : Int32))) h3)))))))) : mT g me_lk_seek (d + 8) 0 0 80 [some (vr 5 0), some (vi x1), some (vi x2), some (vi x3)] [] h Q := by
  refine tr_iload_n (pc := 80) 3 k_lk_seek_80 rfl rfl ?_
  refine tr_iload_n (pc := 81) 1 k_lk_seek_81 rfl rfl ?_
  refine tr_icmp_ge (pc := 82) 128 k_lk_seek_82 (by decide) (fun q => ?_) (fun q => ?_)
  · replace hv := hv.1 q
    refine tr_iinc (pc := 128) (v := (x2 + 1)) k_lk_seek_128 rfl rfl (by decide) rfl ?_
    show mT g me_lk_seek (d + 8) 0 0 131 [some (vr 5 0), some (vi x1), some (vi (x2 + 1)), some (vi x3)] [] h _
    refine tr_goto (pc := 131) 71 k_lk_seek_131 (by decide) ?_
    exact hv
  · replace hv := hv.2 q
    refine tr_aload_n (pc := 85) 0 k_lk_seek_85 rfl rfl ?_
    refine tr_aload_n (pc := 86) 0 k_lk_seek_86 rfl rfl ?_
    refine tr_getP (pc := 87) k_lk_seek_87 fl_lk_9 rfl (Eq.trans rfl (hsk.1 5 0 _ rfl)) ?_
    refine tr_getP (pc := 90) k_lk_seek_90 fl_lk_26 rfl (Eq.trans rfl (hsk.1 1 1 _ rfl)) ?_
    refine tr_iload_n (pc := 93) 2 k_lk_seek_93 rfl rfl ?_
    obtain ⟨n1, hg, hv⟩ := hv
    refine tr_alget (pc := 94) k_lk_seek_94 ml_lk_37 (by omega) (Nat.le_of_ble_eq_true rfl) (mGet.up hg rfl rfl) ?_
    refine tr_cast (pc := 97) k_lk_seek_97 (by decide) cl_lk_41 ?_
    refine tr_aload_n (pc := 100) 0 k_lk_seek_100 rfl rfl ?_
    refine tr_getP (pc := 101) k_lk_seek_101 fl_lk_9 rfl (Eq.trans rfl (hsk.1 5 0 _ rfl)) ?_
    refine tr_getP (pc := 104) k_lk_seek_104 fl_lk_26 rfl (Eq.trans rfl (hsk.1 1 1 _ rfl)) ?_
    refine tr_iload_n (pc := 107) 3 k_lk_seek_107 rfl rfl ?_
    obtain ⟨n2, hg, hv⟩ := hv
    refine tr_alget (pc := 108) k_lk_seek_108 ml_lk_37 (by omega) (Nat.le_of_ble_eq_true rfl) (mGet.up hg rfl rfl) ?_
    refine tr_cast (pc := 111) k_lk_seek_111 (by decide) cl_lk_41 ?_
    refine tr_callV (pc := 114) (d' := d + 7) (mc' := 0) (ms' := 0) [vr 7 n1, vr 7 n2] k_lk_seek_114 ca_lk_explainTogether ml_lk_47 ii_lk_explainTogether ⟨by decide, rfl⟩ pa_lk_explainTogether (by omega) (by omega) (by omega) rfl (Nat.le_of_ble_eq_true rfl) (Nat.le_of_ble_eq_true rfl) hv (fun v h9 hv => ?_)
    obtain ⟨y4, rfl, hv⟩ := hv
    obtain ⟨h3, eh⟩ : ∃ z, z = h9 := ⟨_, rfl⟩
    subst eh
    obtain ⟨hskh3, hv⟩ := hv
    show mT g me_lk_seek (d + 8) 0 0 117 [some (vr 5 0), some (vi x1), some (vi x2), some (vi x3)] [vi y4] h3 _
    refine tr_if_eq (pc := 117) 122 k_lk_seek_117 (by decide) (fun q => ?_) (fun q => ?_)
    · replace hv := hv.1 q
      refine tr_iinc (pc := 122) (v := (x3 + 1)) k_lk_seek_122 rfl rfl (by decide) rfl ?_
      show mT g me_lk_seek (d + 8) 0 0 125 [some (vr 5 0), some (vi x1), some (vi x2), some (vi (x3 + 1))] [] h3 _
      refine tr_goto (pc := 125) 80 k_lk_seek_125 (by decide) ?_
      exact hv
    · replace hv := hv.2 q
      refine tr_iconst (pc := 120) (v := 2) k_lk_seek_120 (by decide) ?_
      refine tr_ireturn (pc := 121) k_lk_seek_121 rfl rfl ?_
      exact hv
theorem v_lk_isAnyRead_0 {g : mG} {d : Nat}  {h : mH} {Q : Option mV → mH → Prop} (hsk : mSK h) (hv : mT g me_lk_isAnyRead (d + 4) 0 0 2 [some (vr 5 0), some (vi (0 : Int32))] [] h Q) : mT g me_lk_isAnyRead (d + 4) 0 0 0 [some (vr 5 0), none] [] h Q := by
  refine tr_iconst (pc := 0) (v := 0) k_lk_isAnyRead_0 (by decide) ?_
  refine tr_istore_n (pc := 1) 1 k_lk_isAnyRead_1 rfl (by decide) rfl ?_
  show mT g me_lk_isAnyRead (d + 4) 0 0 2 [some (vr 5 0), some (vi (0 : Int32))] [] h _
  exact hv
theorem v_lk_isAnyRead_2 {g : mG} {d : Nat} (x1 : Int32) {h : mH} {Q : Option mV → mH → Prop} (hsk : mSK h) (hv : (((hI h 2 2 1) ≤ x1 → Q (some (vi (0 : Int32))) h) ∧ (¬ (hI h 2 2 1) ≤ x1 → (∃ n1, mGet h 2 x1 (some (8, n1)) ∧ (((hI h 8 n1 4) < 0 → mT g me_lk_isAnyRead (d + 4) 0 0 2 [some (vr 5 0), some (vi (x1 + 1))] [] h Q) ∧ (¬ (hI h 8 n1 4) < 0 → Q (some (vi (1 : Int32))) h)))))) : mT g me_lk_isAnyRead (d + 4) 0 0 2 [some (vr 5 0), some (vi x1)] [] h Q := by
  refine tr_iload_n (pc := 2) 1 k_lk_isAnyRead_2 rfl rfl ?_
  refine tr_aload_n (pc := 3) 0 k_lk_isAnyRead_3 rfl rfl ?_
  refine tr_getP (pc := 4) k_lk_isAnyRead_4 fl_lk_9 rfl (Eq.trans rfl (hsk.1 5 0 _ rfl)) ?_
  refine tr_getP (pc := 7) k_lk_isAnyRead_7 fl_lk_64 rfl (Eq.trans rfl (hsk.1 1 2 _ rfl)) ?_
  refine tr_callV (pc := 10) (d' := d + 3) (mc' := 0) (ms' := 0) [] k_lk_isAnyRead_10 ca_al_size ml_lk_32 ii_al_size ⟨by decide, rfl⟩ pa_al_size (by omega) (by omega) (by omega) rfl (Nat.le_of_ble_eq_true rfl) (Nat.le_of_ble_eq_true rfl) (Qk := fun v h9 => mT g me_lk_isAnyRead (d + 4) 0 0 13 [some (vr 5 0), some (vi x1)] (v.toList ++ [vi x1]) h9 _) ?_ (fun _ _ z => z)
  show mT g me_al_size (d + 3) 0 0 0 [some (vr 2 2)] [] h _
  refine tr_aload_n (pc := 0) 0 k_al_size_0 rfl rfl ?_
  refine tr_getIx (pc := 1) k_al_size_1 fl_al_48 rfl rfl ?_
  refine tr_ireturn (pc := 4) k_al_size_4 rfl rfl ?_
  show mT g me_lk_isAnyRead (d + 4) 0 0 13 [some (vr 5 0), some (vi x1)] [vi (hI h 2 2 1), vi x1] h _
  refine tr_icmp_ge (pc := 13) 44 k_lk_isAnyRead_13 (by decide) (fun q => ?_) (fun q => ?_)
  · replace hv := hv.1 q
    refine tr_iconst (pc := 44) (v := 0) k_lk_isAnyRead_44 (by decide) ?_
    refine tr_ireturn (pc := 45) k_lk_isAnyRead_45 rfl rfl ?_
    exact hv
  · replace hv := hv.2 q
    refine tr_aload_n (pc := 16) 0 k_lk_isAnyRead_16 rfl rfl ?_
    refine tr_getP (pc := 17) k_lk_isAnyRead_17 fl_lk_9 rfl (Eq.trans rfl (hsk.1 5 0 _ rfl)) ?_
    refine tr_getP (pc := 20) k_lk_isAnyRead_20 fl_lk_64 rfl (Eq.trans rfl (hsk.1 1 2 _ rfl)) ?_
    refine tr_iload_n (pc := 23) 1 k_lk_isAnyRead_23 rfl rfl ?_
    obtain ⟨n1, hg, hv⟩ := hv
    refine tr_alget (pc := 24) k_lk_isAnyRead_24 ml_lk_37 (by omega) (Nat.le_of_ble_eq_true rfl) (mGet.up hg rfl rfl) ?_
    refine tr_cast (pc := 27) k_lk_isAnyRead_27 (by decide) cl_lk_67 ?_
    refine tr_getIx (pc := 30) k_lk_isAnyRead_30 fl_lk_69 rfl rfl ?_
    refine tr_if_lt (pc := 33) 38 k_lk_isAnyRead_33 (by decide) (fun q => ?_) (fun q => ?_)
    · replace hv := hv.1 q
      refine tr_iinc (pc := 38) (v := (x1 + 1)) k_lk_isAnyRead_38 rfl rfl (by decide) rfl ?_
      show mT g me_lk_isAnyRead (d + 4) 0 0 41 [some (vr 5 0), some (vi (x1 + 1))] [] h _
      refine tr_goto (pc := 41) 2 k_lk_isAnyRead_41 (by decide) ?_
      exact hv
    · replace hv := hv.2 q
      refine tr_iconst (pc := 36) (v := 1) k_lk_isAnyRead_36 (by decide) ?_
      refine tr_ireturn (pc := 37) k_lk_isAnyRead_37 rfl rfl ?_
      exact hv
theorem v_lk_misses_0 {g : mG} {d : Nat}  {h : mH} {Q : Option mV → mH → Prop} (hsk : mSK h) (hv : mT g me_ga_reckon (d + 5) 0 0 0 [some (vr 1 0), some (vi (hI h 1 0 3)), some (vi (1 : Int32)), none, none] [] h (fun v h1 => v = none ∧ mSK h1 ∧ mT g me_lk_misses (d + 6) 0 0 19 [some (vr 5 0), some (vi (0 : Int32)), some (vi (0 : Int32)), none, none] [] h1 Q)) : mT g me_lk_misses (d + 6) 0 0 0 [some (vr 5 0), none, none, none, none] [] h Q := by
  refine tr_aload_n (pc := 0) 0 k_lk_misses_0 rfl rfl ?_
  refine tr_getP (pc := 1) k_lk_misses_1 fl_lk_9 rfl (Eq.trans rfl (hsk.1 5 0 _ rfl)) ?_
  refine tr_aload_n (pc := 4) 0 k_lk_misses_4 rfl rfl ?_
  refine tr_getP (pc := 5) k_lk_misses_5 fl_lk_9 rfl (Eq.trans rfl (hsk.1 5 0 _ rfl)) ?_
  refine tr_getIx (pc := 8) k_lk_misses_8 fl_lk_82 rfl rfl ?_
  refine tr_iconst (pc := 11) (v := 1) k_lk_misses_11 (by decide) ?_
  refine tr_callV (pc := 12) (d' := d + 5) (mc' := 0) (ms' := 0) [vi (hI h 1 0 3), vi (1 : Int32)] k_lk_misses_12 ca_ga_reckon ml_lk_85 ii_ga_reckon ⟨by decide, rfl⟩ pa_ga_reckon (by omega) (by omega) (by omega) rfl (Nat.le_of_ble_eq_true rfl) (Nat.le_of_ble_eq_true rfl) hv (fun v h9 hv => ?_)
  obtain ⟨rfl, hv⟩ := hv
  obtain ⟨h1, eh⟩ : ∃ z, z = h9 := ⟨_, rfl⟩
  subst eh
  obtain ⟨hskh1, hv⟩ := hv
  show mT g me_lk_misses (d + 6) 0 0 15 [some (vr 5 0), none, none, none, none] [] h1 _
  refine tr_iconst (pc := 15) (v := 0) k_lk_misses_15 (by decide) ?_
  refine tr_istore_n (pc := 16) 1 k_lk_misses_16 rfl (by decide) rfl ?_
  show mT g me_lk_misses (d + 6) 0 0 17 [some (vr 5 0), some (vi (0 : Int32)), none, none, none] [] h1 _
  refine tr_iconst (pc := 17) (v := 0) k_lk_misses_17 (by decide) ?_
  refine tr_istore_n (pc := 18) 2 k_lk_misses_18 rfl (by decide) rfl ?_
  show mT g me_lk_misses (d + 6) 0 0 19 [some (vr 5 0), some (vi (0 : Int32)), some (vi (0 : Int32)), none, none] [] h1 _
  exact hv
theorem v_lk_misses_19 {g : mG} {d : Nat} (x1 : Int32) (x2 : Int32) (o3 : Option mV) (o4 : Option mV) {h : mH} {Q : Option mV → mH → Prop} (hsk : mSK h) (hv : (((hI h 2 2 1) ≤ x2 → Q (some (vi x1)) h) ∧ (¬ (hI h 2 2 1) ≤ x2 → (∃ n1, mGet h 2 x2 (some (8, n1)) ∧ (((hI h 8 n1 4) < 0 → mT g me_lk_misses (d + 6) 0 0 19 [some (vr 5 0), some (vi x1), some (vi (x2 + 1)), some (vr 8 n1), o4] [] h Q) ∧ (¬ (hI h 8 n1 4) < 0 → (∃ n2, hP h 8 n1 2 = some (7, n2) ∧ (∃ n4, hP h 7 n2 1 = some (6, n4) ∧ mT g me_je_riseAmong (d + 5) 0 0 0 [some (vr 8 n1), some (vi (hI h 1 0 3)), some (vi (hI h 6 n4 5))] [] h (fun v h6 => ∃ y7, v = some (vi y7) ∧ mSK h6 ∧ (((y7 - (hI h6 8 n1 4)) ≤ (hI h6 5 0 1) → (((-(hI h6 5 0 1)) ≤ (y7 - (hI h6 8 n1 4)) → mT g me_lk_misses (d + 6) 0 0 19 [some (vr 5 0), some (vi (x1 ||| (0 : Int32))), some (vi (x2 + 1)), some (vr 8 n1), some (vi (y7 - (hI h6 8 n1 4)))] [] h6 Q) ∧ (¬ (-(hI h6 5 0 1)) ≤ (y7 - (hI h6 8 n1 4)) → mT g me_lk_misses (d + 6) 0 0 19 [some (vr 5 0), some (vi (x1 ||| (1 : Int32))), some (vi (x2 + 1)), some (vr 8 n1), some (vi (y7 - (hI h6 8 n1 4)))] [] h6 Q))) ∧ (¬ (y7 - (hI h6 8 n1 4)) ≤ (hI h6 5 0 1) → mT g me_lk_misses (d + 6) 0 0 19 [some (vr 5 0), some (vi (x1 ||| (2 : Int32))), some (vi (x2 + 1)), some (vr 8 n1), some (vi (y7 - (hI h6 8 n1 4)))] [] h6 Q))))))))))) : mT g me_lk_misses (d + 6) 0 0 19 [some (vr 5 0), some (vi x1), some (vi x2), o3, o4] [] h Q := by
  refine tr_iload_n (pc := 19) 2 k_lk_misses_19 rfl rfl ?_
  refine tr_aload_n (pc := 20) 0 k_lk_misses_20 rfl rfl ?_
  refine tr_getP (pc := 21) k_lk_misses_21 fl_lk_9 rfl (Eq.trans rfl (hsk.1 5 0 _ rfl)) ?_
  refine tr_getP (pc := 24) k_lk_misses_24 fl_lk_64 rfl (Eq.trans rfl (hsk.1 1 2 _ rfl)) ?_
  refine tr_callV (pc := 27) (d' := d + 5) (mc' := 0) (ms' := 0) [] k_lk_misses_27 ca_al_size ml_lk_32 ii_al_size ⟨by decide, rfl⟩ pa_al_size (by omega) (by omega) (by omega) rfl (Nat.le_of_ble_eq_true rfl) (Nat.le_of_ble_eq_true rfl) (Qk := fun v h9 => mT g me_lk_misses (d + 6) 0 0 30 [some (vr 5 0), some (vi x1), some (vi x2), o3, o4] (v.toList ++ [vi x2]) h9 _) ?_ (fun _ _ z => z)
  show mT g me_al_size (d + 5) 0 0 0 [some (vr 2 2)] [] h _
  refine tr_aload_n (pc := 0) 0 k_al_size_0 rfl rfl ?_
  refine tr_getIx (pc := 1) k_al_size_1 fl_al_48 rfl rfl ?_
  refine tr_ireturn (pc := 4) k_al_size_4 rfl rfl ?_
  show mT g me_lk_misses (d + 6) 0 0 30 [some (vr 5 0), some (vi x1), some (vi x2), o3, o4] [vi (hI h 2 2 1), vi x2] h _
  refine tr_icmp_ge (pc := 30) 120 k_lk_misses_30 (by decide) (fun q => ?_) (fun q => ?_)
  · replace hv := hv.1 q
    refine tr_iload_n (pc := 120) 1 k_lk_misses_120 rfl rfl ?_
    refine tr_ireturn (pc := 121) k_lk_misses_121 rfl rfl ?_
    exact hv
  · replace hv := hv.2 q
    refine tr_aload_n (pc := 33) 0 k_lk_misses_33 rfl rfl ?_
    refine tr_getP (pc := 34) k_lk_misses_34 fl_lk_9 rfl (Eq.trans rfl (hsk.1 5 0 _ rfl)) ?_
    refine tr_getP (pc := 37) k_lk_misses_37 fl_lk_64 rfl (Eq.trans rfl (hsk.1 1 2 _ rfl)) ?_
    refine tr_iload_n (pc := 40) 2 k_lk_misses_40 rfl rfl ?_
    obtain ⟨n1, hg, hv⟩ := hv
    refine tr_alget (pc := 41) k_lk_misses_41 ml_lk_37 (by omega) (Nat.le_of_ble_eq_true rfl) (mGet.up hg rfl rfl) ?_
    refine tr_cast (pc := 44) k_lk_misses_44 (by decide) cl_lk_67 ?_
    refine tr_astore_n (pc := 47) 3 k_lk_misses_47 rfl (by decide) rfl ?_
    show mT g me_lk_misses (d + 6) 0 0 48 [some (vr 5 0), some (vi x1), some (vi x2), some (vr 8 n1), o4] [] h _
    refine tr_aload_n (pc := 48) 3 k_lk_misses_48 rfl rfl ?_
    refine tr_getIx (pc := 49) k_lk_misses_49 fl_lk_69 rfl rfl ?_
    refine tr_if_lt (pc := 52) 114 k_lk_misses_52 (by decide) (fun q => ?_) (fun q => ?_)
    · replace hv := hv.1 q
      refine tr_iinc (pc := 114) (v := (x2 + 1)) k_lk_misses_114 rfl rfl (by decide) rfl ?_
      show mT g me_lk_misses (d + 6) 0 0 117 [some (vr 5 0), some (vi x1), some (vi (x2 + 1)), some (vr 8 n1), o4] [] h _
      refine tr_goto (pc := 117) 19 k_lk_misses_117 (by decide) ?_
      exact hv
    · replace hv := hv.2 q
      refine tr_aload_n (pc := 55) 3 k_lk_misses_55 rfl rfl ?_
      refine tr_aload_n (pc := 56) 0 k_lk_misses_56 rfl rfl ?_
      refine tr_getP (pc := 57) k_lk_misses_57 fl_lk_9 rfl (Eq.trans rfl (hsk.1 5 0 _ rfl)) ?_
      refine tr_getIx (pc := 60) k_lk_misses_60 fl_lk_82 rfl rfl ?_
      refine tr_aload_n (pc := 63) 3 k_lk_misses_63 rfl rfl ?_
      obtain ⟨n2, e3, hv⟩ := hv
      refine tr_getP (pc := 64) k_lk_misses_64 fl_lk_89 rfl (Eq.trans rfl e3) ?_
      obtain ⟨n4, e5, hv⟩ := hv
      refine tr_getP (pc := 67) k_lk_misses_67 fl_lk_93 rfl (Eq.trans rfl e5) ?_
      refine tr_getIx (pc := 70) k_lk_misses_70 fl_lk_97 rfl rfl ?_
      refine tr_callV (pc := 73) (d' := d + 5) (mc' := 0) (ms' := 0) [vi (hI h 1 0 3), vi (hI h 6 n4 5)] k_lk_misses_73 ca_je_riseAmong ml_lk_102 ii_je_riseAmong ⟨by decide, rfl⟩ pa_je_riseAmong (by omega) (by omega) (by omega) rfl (Nat.le_of_ble_eq_true rfl) (Nat.le_of_ble_eq_true rfl) hv (fun v h9 hv => ?_)
      obtain ⟨y7, rfl, hv⟩ := hv
      obtain ⟨h6, eh⟩ : ∃ z, z = h9 := ⟨_, rfl⟩
      subst eh
      obtain ⟨hskh6, hv⟩ := hv
      show mT g me_lk_misses (d + 6) 0 0 76 [some (vr 5 0), some (vi x1), some (vi x2), some (vr 8 n1), o4] [vi y7] h6 _
      refine tr_aload_n (pc := 76) 3 k_lk_misses_76 rfl rfl ?_
      refine tr_getIx (pc := 77) k_lk_misses_77 fl_lk_69 rfl rfl ?_
      refine tr_isub (pc := 80) k_lk_misses_80 ?_
      refine tr_istore (pc := 81) k_lk_misses_81 (by decide) rfl ?_
      show mT g me_lk_misses (d + 6) 0 0 83 [some (vr 5 0), some (vi x1), some (vi x2), some (vr 8 n1), some (vi (y7 - (hI h6 8 n1 4)))] [] h6 _
      refine tr_iload_n (pc := 83) 1 k_lk_misses_83 rfl rfl ?_
      refine tr_iload (pc := 84) k_lk_misses_84 rfl ?_
      refine tr_aload_n (pc := 86) 0 k_lk_misses_86 rfl rfl ?_
      refine tr_getIx (pc := 87) k_lk_misses_87 fl_lk_106 rfl rfl ?_
      refine tr_icmp_le (pc := 90) 97 k_lk_misses_90 (by decide) (fun q => ?_) (fun q => ?_)
      · replace hv := hv.1 q
        refine tr_iload (pc := 97) k_lk_misses_97 rfl ?_
        refine tr_aload_n (pc := 99) 0 k_lk_misses_99 rfl rfl ?_
        refine tr_getIx (pc := 100) k_lk_misses_100 fl_lk_106 rfl rfl ?_
        refine tr_ineg (pc := 103) k_lk_misses_103 ?_
        refine tr_icmp_ge (pc := 104) 111 k_lk_misses_104 (by decide) (fun q => ?_) (fun q => ?_)
        · replace hv := hv.1 q
          refine tr_iconst (pc := 111) (v := 0) k_lk_misses_111 (by decide) ?_
          refine tr_ior (pc := 112) k_lk_misses_112 ?_
          refine tr_istore_n (pc := 113) 1 k_lk_misses_113 rfl (by decide) rfl ?_
          show mT g me_lk_misses (d + 6) 0 0 114 [some (vr 5 0), some (vi (x1 ||| (0 : Int32))), some (vi x2), some (vr 8 n1), some (vi (y7 - (hI h6 8 n1 4)))] [] h6 _
          refine tr_iinc (pc := 114) (v := (x2 + 1)) k_lk_misses_114 rfl rfl (by decide) rfl ?_
          show mT g me_lk_misses (d + 6) 0 0 117 [some (vr 5 0), some (vi (x1 ||| (0 : Int32))), some (vi (x2 + 1)), some (vr 8 n1), some (vi (y7 - (hI h6 8 n1 4)))] [] h6 _
          refine tr_goto (pc := 117) 19 k_lk_misses_117 (by decide) ?_
          exact hv
        · replace hv := hv.2 q
          refine tr_iconst (pc := 107) (v := 1) k_lk_misses_107 (by decide) ?_
          refine tr_goto (pc := 108) 112 k_lk_misses_108 (by decide) ?_
          refine tr_ior (pc := 112) k_lk_misses_112 ?_
          refine tr_istore_n (pc := 113) 1 k_lk_misses_113 rfl (by decide) rfl ?_
          show mT g me_lk_misses (d + 6) 0 0 114 [some (vr 5 0), some (vi (x1 ||| (1 : Int32))), some (vi x2), some (vr 8 n1), some (vi (y7 - (hI h6 8 n1 4)))] [] h6 _
          refine tr_iinc (pc := 114) (v := (x2 + 1)) k_lk_misses_114 rfl rfl (by decide) rfl ?_
          show mT g me_lk_misses (d + 6) 0 0 117 [some (vr 5 0), some (vi (x1 ||| (1 : Int32))), some (vi (x2 + 1)), some (vr 8 n1), some (vi (y7 - (hI h6 8 n1 4)))] [] h6 _
          refine tr_goto (pc := 117) 19 k_lk_misses_117 (by decide) ?_
          exact hv
      · replace hv := hv.2 q
        refine tr_iconst (pc := 93) (v := 2) k_lk_misses_93 (by decide) ?_
        refine tr_goto (pc := 94) 112 k_lk_misses_94 (by decide) ?_
        refine tr_ior (pc := 112) k_lk_misses_112 ?_
        refine tr_istore_n (pc := 113) 1 k_lk_misses_113 rfl (by decide) rfl ?_
        show mT g me_lk_misses (d + 6) 0 0 114 [some (vr 5 0), some (vi (x1 ||| (2 : Int32))), some (vi x2), some (vr 8 n1), some (vi (y7 - (hI h6 8 n1 4)))] [] h6 _
        refine tr_iinc (pc := 114) (v := (x2 + 1)) k_lk_misses_114 rfl rfl (by decide) rfl ?_
        show mT g me_lk_misses (d + 6) 0 0 117 [some (vr 5 0), some (vi (x1 ||| (2 : Int32))), some (vi (x2 + 1)), some (vr 8 n1), some (vi (y7 - (hI h6 8 n1 4)))] [] h6 _
        refine tr_goto (pc := 117) 19 k_lk_misses_117 (by decide) ?_
        exact hv
theorem v_lk_explainsAlone_0 {g : mG} {d : Nat} (a1 : Nat) {h : mH} {Q : Option mV → mH → Prop} (hsk : mSK h) (hv : mT g me_lk_explainsAlone (d + 7) 0 0 7 [some (vr 5 0), some (vr 7 a1), some (vi (0 : Int32)), some (vi (0 : Int32)), some (vi (1 : Int32)), none] [] h Q) : mT g me_lk_explainsAlone (d + 7) 0 0 0 [some (vr 5 0), some (vr 7 a1), none, none, none, none] [] h Q := by
  refine tr_iconst (pc := 0) (v := 0) k_lk_explainsAlone_0 (by decide) ?_
  refine tr_istore_n (pc := 1) 2 k_lk_explainsAlone_1 rfl (by decide) rfl ?_
  show mT g me_lk_explainsAlone (d + 7) 0 0 2 [some (vr 5 0), some (vr 7 a1), some (vi (0 : Int32)), none, none, none] [] h _
  refine tr_iconst (pc := 2) (v := 0) k_lk_explainsAlone_2 (by decide) ?_
  refine tr_istore_n (pc := 3) 3 k_lk_explainsAlone_3 rfl (by decide) rfl ?_
  show mT g me_lk_explainsAlone (d + 7) 0 0 4 [some (vr 5 0), some (vr 7 a1), some (vi (0 : Int32)), some (vi (0 : Int32)), none, none] [] h _
  refine tr_iconst (pc := 4) (v := 1) k_lk_explainsAlone_4 (by decide) ?_
  refine tr_istore (pc := 5) k_lk_explainsAlone_5 (by decide) rfl ?_
  show mT g me_lk_explainsAlone (d + 7) 0 0 7 [some (vr 5 0), some (vr 7 a1), some (vi (0 : Int32)), some (vi (0 : Int32)), some (vi (1 : Int32)), none] [] h _
  exact hv
theorem v_lk_explainsAlone_7 {g : mG} {d : Nat} (a1 : Nat) (x2 : Int32) (x3 : Int32) (x4 : Int32) (o5 : Option mV) {h : mH} {Q : Option mV → mH → Prop} (hsk : mSK h) (hv : (((60 : Int32) < x4 → ((x2 = 0 → (vp_nar .boolean x2 = x2 ∧ Q (some (vi x2)) (setI h 7 a1 7 (0 : Int32)))) ∧ (¬ x2 = 0 → (vp_nar .boolean x2 = x2 ∧ Q (some (vi x2)) (setI (setI (setI h 5 0 2 (hI h 7 a1 0)) 5 0 3 (hI h 7 a1 7)) 7 a1 7 (0 : Int32)))))) ∧ (¬ (60 : Int32) < x4 → ((¬ x2 = 0 → ((x2 = 0 → (vp_nar .boolean x2 = x2 ∧ Q (some (vi x2)) (setI h 7 a1 7 (0 : Int32)))) ∧ (¬ x2 = 0 → (vp_nar .boolean x2 = x2 ∧ Q (some (vi x2)) (setI (setI (setI h 5 0 2 (hI h 7 a1 0)) 5 0 3 (hI h 7 a1 7)) 7 a1 7 (0 : Int32)))))) ∧ (x2 = 0 → ((¬ x3 = 0 → ((x2 = 0 → (vp_nar .boolean x2 = x2 ∧ Q (some (vi x2)) (setI h 7 a1 7 (0 : Int32)))) ∧ (¬ x2 = 0 → (vp_nar .boolean x2 = x2 ∧ Q (some (vi x2)) (setI (setI (setI h 5 0 2 (hI h 7 a1 0)) 5 0 3 (hI h 7 a1 7)) 7 a1 7 (0 : Int32)))))) ∧ (x3 = 0 → mT g me_lk_misses (d + 6) 0 0 0 [some (vr 5 0), none, none, none, none] [] (setI h 7 a1 7 x4) (fun v h1 => ∃ y2, v = some (vi y2) ∧ mSK h1 ∧ (((y2 &&& (1 : Int32)) = 0 → ((¬ y2 = 0 → mT g me_lk_explainsAlone (d + 7) 0 0 7 [some (vr 5 0), some (vr 7 a1), some (vi (0 : Int32)), some (vi (0 : Int32)), some (vi (x4 + 1)), some (vi y2)] [] h1 Q) ∧ (y2 = 0 → mT g me_lk_explainsAlone (d + 7) 0 0 7 [some (vr 5 0), some (vr 7 a1), some (vi (1 : Int32)), some (vi (0 : Int32)), some (vi (x4 + 1)), some (vi y2)] [] h1 Q))) ∧ (¬ (y2 &&& (1 : Int32)) = 0 → ((¬ y2 = 0 → mT g me_lk_explainsAlone (d + 7) 0 0 7 [some (vr 5 0), some (vr 7 a1), some (vi (0 : Int32)), some (vi (1 : Int32)), some (vi (x4 + 1)), some (vi y2)] [] h1 Q) ∧ (y2 = 0 → mT g me_lk_explainsAlone (d + 7) 0 0 7 [some (vr 5 0), some (vr 7 a1), some (vi (1 : Int32)), some (vi (1 : Int32)), some (vi (x4 + 1)), some (vi y2)] [] h1 Q)))))))))))) : mT g me_lk_explainsAlone (d + 7) 0 0 7 [some (vr 5 0), some (vr 7 a1), some (vi x2), some (vi x3), some (vi x4), o5] [] h Q := by
  refine tr_iload (pc := 7) k_lk_explainsAlone_7 rfl ?_
  refine tr_bipush (pc := 9) (v := 60) k_lk_explainsAlone_9 (by decide) ?_
  refine tr_icmp_gt (pc := 11) 64 k_lk_explainsAlone_11 (by decide) (fun q => ?_) (fun q => ?_)
  · replace hv := hv.1 q
    refine tr_iload_n (pc := 64) 2 k_lk_explainsAlone_64 rfl rfl ?_
    refine tr_if_eq (pc := 65) 84 k_lk_explainsAlone_65 (by decide) (fun q => ?_) (fun q => ?_)
    · replace hv := hv.1 q
      refine tr_aload_n (pc := 84) 1 k_lk_explainsAlone_84 rfl rfl ?_
      refine tr_iconst (pc := 85) (v := 0) k_lk_explainsAlone_85 (by decide) ?_
      refine tr_putI (pc := 86) k_lk_explainsAlone_86 fl_lk_72 (Or.inl rfl) rfl ⟨rfl, rfl⟩ ?_
      refine tr_iload_n (pc := 89) 2 k_lk_explainsAlone_89 rfl rfl ?_
      refine tr_ireturn (pc := 90) k_lk_explainsAlone_90 rfl (mzret hv.1) ?_
      replace hv := hv.2
      exact hv
    · replace hv := hv.2 q
      refine tr_aload_n (pc := 68) 0 k_lk_explainsAlone_68 rfl rfl ?_
      refine tr_aload_n (pc := 69) 1 k_lk_explainsAlone_69 rfl rfl ?_
      refine tr_getIx (pc := 70) k_lk_explainsAlone_70 fl_lk_75 rfl rfl ?_
      refine tr_putI (pc := 73) k_lk_explainsAlone_73 fl_lk_51 (Or.inl rfl) rfl ⟨rfl, rfl⟩ ?_
      refine tr_aload_n (pc := 76) 0 k_lk_explainsAlone_76 rfl rfl ?_
      refine tr_aload_n (pc := 77) 1 k_lk_explainsAlone_77 rfl rfl ?_
      refine tr_getIx (pc := 78) k_lk_explainsAlone_78 fl_lk_72 rfl (hI_nk (by decide)) ?_
      refine tr_putI (pc := 81) k_lk_explainsAlone_81 fl_lk_55 (Or.inl rfl) rfl ⟨rfl, rfl⟩ ?_
      refine tr_aload_n (pc := 84) 1 k_lk_explainsAlone_84 rfl rfl ?_
      refine tr_iconst (pc := 85) (v := 0) k_lk_explainsAlone_85 (by decide) ?_
      refine tr_putI (pc := 86) k_lk_explainsAlone_86 fl_lk_72 (Or.inl rfl) rfl ⟨rfl, rfl⟩ ?_
      refine tr_iload_n (pc := 89) 2 k_lk_explainsAlone_89 rfl rfl ?_
      refine tr_ireturn (pc := 90) k_lk_explainsAlone_90 rfl (mzret hv.1) ?_
      replace hv := hv.2
      exact hv
  · replace hv := hv.2 q
    refine tr_iload_n (pc := 14) 2 k_lk_explainsAlone_14 rfl rfl ?_
    refine tr_if_ne (pc := 15) 64 k_lk_explainsAlone_15 (by decide) (fun q => ?_) (fun q => ?_)
    · replace hv := hv.1 q
      refine tr_iload_n (pc := 64) 2 k_lk_explainsAlone_64 rfl rfl ?_
      refine tr_if_eq (pc := 65) 84 k_lk_explainsAlone_65 (by decide) (fun q => ?_) (fun q => ?_)
      · replace hv := hv.1 q
        refine tr_aload_n (pc := 84) 1 k_lk_explainsAlone_84 rfl rfl ?_
        refine tr_iconst (pc := 85) (v := 0) k_lk_explainsAlone_85 (by decide) ?_
        refine tr_putI (pc := 86) k_lk_explainsAlone_86 fl_lk_72 (Or.inl rfl) rfl ⟨rfl, rfl⟩ ?_
        refine tr_iload_n (pc := 89) 2 k_lk_explainsAlone_89 rfl rfl ?_
        refine tr_ireturn (pc := 90) k_lk_explainsAlone_90 rfl (mzret hv.1) ?_
        replace hv := hv.2
        exact hv
      · replace hv := hv.2 q
        refine tr_aload_n (pc := 68) 0 k_lk_explainsAlone_68 rfl rfl ?_
        refine tr_aload_n (pc := 69) 1 k_lk_explainsAlone_69 rfl rfl ?_
        refine tr_getIx (pc := 70) k_lk_explainsAlone_70 fl_lk_75 rfl rfl ?_
        refine tr_putI (pc := 73) k_lk_explainsAlone_73 fl_lk_51 (Or.inl rfl) rfl ⟨rfl, rfl⟩ ?_
        refine tr_aload_n (pc := 76) 0 k_lk_explainsAlone_76 rfl rfl ?_
        refine tr_aload_n (pc := 77) 1 k_lk_explainsAlone_77 rfl rfl ?_
        refine tr_getIx (pc := 78) k_lk_explainsAlone_78 fl_lk_72 rfl (hI_nk (by decide)) ?_
        refine tr_putI (pc := 81) k_lk_explainsAlone_81 fl_lk_55 (Or.inl rfl) rfl ⟨rfl, rfl⟩ ?_
        refine tr_aload_n (pc := 84) 1 k_lk_explainsAlone_84 rfl rfl ?_
        refine tr_iconst (pc := 85) (v := 0) k_lk_explainsAlone_85 (by decide) ?_
        refine tr_putI (pc := 86) k_lk_explainsAlone_86 fl_lk_72 (Or.inl rfl) rfl ⟨rfl, rfl⟩ ?_
        refine tr_iload_n (pc := 89) 2 k_lk_explainsAlone_89 rfl rfl ?_
        refine tr_ireturn (pc := 90) k_lk_explainsAlone_90 rfl (mzret hv.1) ?_
        replace hv := hv.2
        exact hv
    · replace hv := hv.2 q
      refine tr_iload_n (pc := 18) 3 k_lk_explainsAlone_18 rfl rfl ?_
      refine tr_if_ne (pc := 19) 64 k_lk_explainsAlone_19 (by decide) (fun q => ?_) (fun q => ?_)
      · replace hv := hv.1 q
        refine tr_iload_n (pc := 64) 2 k_lk_explainsAlone_64 rfl rfl ?_
        refine tr_if_eq (pc := 65) 84 k_lk_explainsAlone_65 (by decide) (fun q => ?_) (fun q => ?_)
        · replace hv := hv.1 q
          refine tr_aload_n (pc := 84) 1 k_lk_explainsAlone_84 rfl rfl ?_
          refine tr_iconst (pc := 85) (v := 0) k_lk_explainsAlone_85 (by decide) ?_
          refine tr_putI (pc := 86) k_lk_explainsAlone_86 fl_lk_72 (Or.inl rfl) rfl ⟨rfl, rfl⟩ ?_
          refine tr_iload_n (pc := 89) 2 k_lk_explainsAlone_89 rfl rfl ?_
          refine tr_ireturn (pc := 90) k_lk_explainsAlone_90 rfl (mzret hv.1) ?_
          replace hv := hv.2
          exact hv
        · replace hv := hv.2 q
          refine tr_aload_n (pc := 68) 0 k_lk_explainsAlone_68 rfl rfl ?_
          refine tr_aload_n (pc := 69) 1 k_lk_explainsAlone_69 rfl rfl ?_
          refine tr_getIx (pc := 70) k_lk_explainsAlone_70 fl_lk_75 rfl rfl ?_
          refine tr_putI (pc := 73) k_lk_explainsAlone_73 fl_lk_51 (Or.inl rfl) rfl ⟨rfl, rfl⟩ ?_
          refine tr_aload_n (pc := 76) 0 k_lk_explainsAlone_76 rfl rfl ?_
          refine tr_aload_n (pc := 77) 1 k_lk_explainsAlone_77 rfl rfl ?_
          refine tr_getIx (pc := 78) k_lk_explainsAlone_78 fl_lk_72 rfl (hI_nk (by decide)) ?_
          refine tr_putI (pc := 81) k_lk_explainsAlone_81 fl_lk_55 (Or.inl rfl) rfl ⟨rfl, rfl⟩ ?_
          refine tr_aload_n (pc := 84) 1 k_lk_explainsAlone_84 rfl rfl ?_
          refine tr_iconst (pc := 85) (v := 0) k_lk_explainsAlone_85 (by decide) ?_
          refine tr_putI (pc := 86) k_lk_explainsAlone_86 fl_lk_72 (Or.inl rfl) rfl ⟨rfl, rfl⟩ ?_
          refine tr_iload_n (pc := 89) 2 k_lk_explainsAlone_89 rfl rfl ?_
          refine tr_ireturn (pc := 90) k_lk_explainsAlone_90 rfl (mzret hv.1) ?_
          replace hv := hv.2
          exact hv
      · replace hv := hv.2 q
        refine tr_aload_n (pc := 22) 1 k_lk_explainsAlone_22 rfl rfl ?_
        refine tr_iload (pc := 23) k_lk_explainsAlone_23 rfl ?_
        refine tr_putI (pc := 25) k_lk_explainsAlone_25 fl_lk_72 (Or.inl rfl) rfl ⟨rfl, rfl⟩ ?_
        refine tr_aload_n (pc := 28) 0 k_lk_explainsAlone_28 rfl rfl ?_
        refine tr_callV (pc := 29) (d' := d + 6) (mc' := 0) (ms' := 0) [] k_lk_explainsAlone_29 ca_lk_misses ml_lk_22 ii_lk_misses ⟨by decide, rfl⟩ pa_lk_misses (by omega) (by omega) (by omega) rfl (Nat.le_of_ble_eq_true rfl) (Nat.le_of_ble_eq_true rfl) hv (fun v h9 hv => ?_)
        obtain ⟨y2, rfl, hv⟩ := hv
        obtain ⟨h1, eh⟩ : ∃ z, z = h9 := ⟨_, rfl⟩
        subst eh
        obtain ⟨hskh1, hv⟩ := hv
        show mT g me_lk_explainsAlone (d + 7) 0 0 32 [some (vr 5 0), some (vr 7 a1), some (vi x2), some (vi x3), some (vi x4), o5] [vi y2] h1 _
        refine tr_istore (pc := 32) k_lk_explainsAlone_32 (by decide) rfl ?_
        show mT g me_lk_explainsAlone (d + 7) 0 0 34 [some (vr 5 0), some (vr 7 a1), some (vi x2), some (vi x3), some (vi x4), some (vi y2)] [] h1 _
        refine tr_iload (pc := 34) k_lk_explainsAlone_34 rfl ?_
        refine tr_iconst (pc := 36) (v := 1) k_lk_explainsAlone_36 (by decide) ?_
        refine tr_iand (pc := 37) k_lk_explainsAlone_37 ?_
        refine tr_if_eq (pc := 38) 45 k_lk_explainsAlone_38 (by decide) (fun q => ?_) (fun q => ?_)
        · replace hv := hv.1 q
          refine tr_iconst (pc := 45) (v := 0) k_lk_explainsAlone_45 (by decide) ?_
          refine tr_istore_n (pc := 46) 3 k_lk_explainsAlone_46 rfl (by decide) rfl ?_
          show mT g me_lk_explainsAlone (d + 7) 0 0 47 [some (vr 5 0), some (vr 7 a1), some (vi x2), some (vi (0 : Int32)), some (vi x4), some (vi y2)] [] h1 _
          refine tr_iload (pc := 47) k_lk_explainsAlone_47 rfl ?_
          refine tr_if_ne (pc := 49) 56 k_lk_explainsAlone_49 (by decide) (fun q => ?_) (fun q => ?_)
          · replace hv := hv.1 q
            refine tr_iconst (pc := 56) (v := 0) k_lk_explainsAlone_56 (by decide) ?_
            refine tr_istore_n (pc := 57) 2 k_lk_explainsAlone_57 rfl (by decide) rfl ?_
            show mT g me_lk_explainsAlone (d + 7) 0 0 58 [some (vr 5 0), some (vr 7 a1), some (vi (0 : Int32)), some (vi (0 : Int32)), some (vi x4), some (vi y2)] [] h1 _
            refine tr_iinc (pc := 58) (v := (x4 + 1)) k_lk_explainsAlone_58 rfl rfl (by decide) rfl ?_
            show mT g me_lk_explainsAlone (d + 7) 0 0 61 [some (vr 5 0), some (vr 7 a1), some (vi (0 : Int32)), some (vi (0 : Int32)), some (vi (x4 + 1)), some (vi y2)] [] h1 _
            refine tr_goto (pc := 61) 7 k_lk_explainsAlone_61 (by decide) ?_
            exact hv
          · replace hv := hv.2 q
            refine tr_iconst (pc := 52) (v := 1) k_lk_explainsAlone_52 (by decide) ?_
            refine tr_goto (pc := 53) 57 k_lk_explainsAlone_53 (by decide) ?_
            refine tr_istore_n (pc := 57) 2 k_lk_explainsAlone_57 rfl (by decide) rfl ?_
            show mT g me_lk_explainsAlone (d + 7) 0 0 58 [some (vr 5 0), some (vr 7 a1), some (vi (1 : Int32)), some (vi (0 : Int32)), some (vi x4), some (vi y2)] [] h1 _
            refine tr_iinc (pc := 58) (v := (x4 + 1)) k_lk_explainsAlone_58 rfl rfl (by decide) rfl ?_
            show mT g me_lk_explainsAlone (d + 7) 0 0 61 [some (vr 5 0), some (vr 7 a1), some (vi (1 : Int32)), some (vi (0 : Int32)), some (vi (x4 + 1)), some (vi y2)] [] h1 _
            refine tr_goto (pc := 61) 7 k_lk_explainsAlone_61 (by decide) ?_
            exact hv
        · replace hv := hv.2 q
          refine tr_iconst (pc := 41) (v := 1) k_lk_explainsAlone_41 (by decide) ?_
          refine tr_goto (pc := 42) 46 k_lk_explainsAlone_42 (by decide) ?_
          refine tr_istore_n (pc := 46) 3 k_lk_explainsAlone_46 rfl (by decide) rfl ?_
          show mT g me_lk_explainsAlone (d + 7) 0 0 47 [some (vr 5 0), some (vr 7 a1), some (vi x2), some (vi (1 : Int32)), some (vi x4), some (vi y2)] [] h1 _
          refine tr_iload (pc := 47) k_lk_explainsAlone_47 rfl ?_
          refine tr_if_ne (pc := 49) 56 k_lk_explainsAlone_49 (by decide) (fun q => ?_) (fun q => ?_)
          · replace hv := hv.1 q
            refine tr_iconst (pc := 56) (v := 0) k_lk_explainsAlone_56 (by decide) ?_
            refine tr_istore_n (pc := 57) 2 k_lk_explainsAlone_57 rfl (by decide) rfl ?_
            show mT g me_lk_explainsAlone (d + 7) 0 0 58 [some (vr 5 0), some (vr 7 a1), some (vi (0 : Int32)), some (vi (1 : Int32)), some (vi x4), some (vi y2)] [] h1 _
            refine tr_iinc (pc := 58) (v := (x4 + 1)) k_lk_explainsAlone_58 rfl rfl (by decide) rfl ?_
            show mT g me_lk_explainsAlone (d + 7) 0 0 61 [some (vr 5 0), some (vr 7 a1), some (vi (0 : Int32)), some (vi (1 : Int32)), some (vi (x4 + 1)), some (vi y2)] [] h1 _
            refine tr_goto (pc := 61) 7 k_lk_explainsAlone_61 (by decide) ?_
            exact hv
          · replace hv := hv.2 q
            refine tr_iconst (pc := 52) (v := 1) k_lk_explainsAlone_52 (by decide) ?_
            refine tr_goto (pc := 53) 57 k_lk_explainsAlone_53 (by decide) ?_
            refine tr_istore_n (pc := 57) 2 k_lk_explainsAlone_57 rfl (by decide) rfl ?_
            show mT g me_lk_explainsAlone (d + 7) 0 0 58 [some (vr 5 0), some (vr 7 a1), some (vi (1 : Int32)), some (vi (1 : Int32)), some (vi x4), some (vi y2)] [] h1 _
            refine tr_iinc (pc := 58) (v := (x4 + 1)) k_lk_explainsAlone_58 rfl rfl (by decide) rfl ?_
            show mT g me_lk_explainsAlone (d + 7) 0 0 61 [some (vr 5 0), some (vr 7 a1), some (vi (1 : Int32)), some (vi (1 : Int32)), some (vi (x4 + 1)), some (vi y2)] [] h1 _
            refine tr_goto (pc := 61) 7 k_lk_explainsAlone_61 (by decide) ?_
            exact hv
theorem v_lk_explainTogether_0 {g : mG} {d : Nat} (a1 : Nat) (a2 : Nat) {h : mH} {Q : Option mV → mH → Prop} (hsk : mSK h) (hv : mT g me_lk_misses (d + 6) 0 0 0 [some (vr 5 0), none, none, none, none] [] (setI (setI h 7 a1 7 (12 : Int32)) 7 a2 7 (12 : Int32)) (fun v h1 => ∃ y2, v = some (vi y2) ∧ mSK h1 ∧ (((y2 &&& (2 : Int32)) = 0 → mT g me_lk_explainTogether (d + 7) 0 0 33 [some (vr 5 0), some (vr 7 a1), some (vr 7 a2), some (vi (0 : Int32)), some (vi (0 : Int32)), some (vi (1 : Int32)), none, none, none] [] h1 Q) ∧ (¬ (y2 &&& (2 : Int32)) = 0 → mT g me_lk_explainTogether (d + 7) 0 0 33 [some (vr 5 0), some (vr 7 a1), some (vr 7 a2), some (vi (1 : Int32)), some (vi (0 : Int32)), some (vi (1 : Int32)), none, none, none] [] h1 Q)))) : mT g me_lk_explainTogether (d + 7) 0 0 0 [some (vr 5 0), some (vr 7 a1), some (vr 7 a2), none, none, none, none, none, none] [] h Q := by
  refine tr_aload_n (pc := 0) 1 k_lk_explainTogether_0 rfl rfl ?_
  refine tr_bipush (pc := 1) (v := 12) k_lk_explainTogether_1 (by decide) ?_
  refine tr_putI (pc := 3) k_lk_explainTogether_3 fl_lk_72 (Or.inl rfl) rfl ⟨rfl, rfl⟩ ?_
  refine tr_aload_n (pc := 6) 2 k_lk_explainTogether_6 rfl rfl ?_
  refine tr_bipush (pc := 7) (v := 12) k_lk_explainTogether_7 (by decide) ?_
  refine tr_putI (pc := 9) k_lk_explainTogether_9 fl_lk_72 (Or.inl rfl) rfl ⟨rfl, rfl⟩ ?_
  refine tr_aload_n (pc := 12) 0 k_lk_explainTogether_12 rfl rfl ?_
  refine tr_callV (pc := 13) (d' := d + 6) (mc' := 0) (ms' := 0) [] k_lk_explainTogether_13 ca_lk_misses ml_lk_22 ii_lk_misses ⟨by decide, rfl⟩ pa_lk_misses (by omega) (by omega) (by omega) rfl (Nat.le_of_ble_eq_true rfl) (Nat.le_of_ble_eq_true rfl) hv (fun v h9 hv => ?_)
  obtain ⟨y2, rfl, hv⟩ := hv
  obtain ⟨h1, eh⟩ : ∃ z, z = h9 := ⟨_, rfl⟩
  subst eh
  obtain ⟨hskh1, hv⟩ := hv
  show mT g me_lk_explainTogether (d + 7) 0 0 16 [some (vr 5 0), some (vr 7 a1), some (vr 7 a2), none, none, none, none, none, none] [vi y2] h1 _
  refine tr_iconst (pc := 16) (v := 2) k_lk_explainTogether_16 (by decide) ?_
  refine tr_iand (pc := 17) k_lk_explainTogether_17 ?_
  refine tr_if_eq (pc := 18) 25 k_lk_explainTogether_18 (by decide) (fun q => ?_) (fun q => ?_)
  · replace hv := hv.1 q
    refine tr_iconst (pc := 25) (v := 0) k_lk_explainTogether_25 (by decide) ?_
    refine tr_istore_n (pc := 26) 3 k_lk_explainTogether_26 rfl (by decide) rfl ?_
    show mT g me_lk_explainTogether (d + 7) 0 0 27 [some (vr 5 0), some (vr 7 a1), some (vr 7 a2), some (vi (0 : Int32)), none, none, none, none, none] [] h1 _
    refine tr_iconst (pc := 27) (v := 0) k_lk_explainTogether_27 (by decide) ?_
    refine tr_istore (pc := 28) k_lk_explainTogether_28 (by decide) rfl ?_
    show mT g me_lk_explainTogether (d + 7) 0 0 30 [some (vr 5 0), some (vr 7 a1), some (vr 7 a2), some (vi (0 : Int32)), some (vi (0 : Int32)), none, none, none, none] [] h1 _
    refine tr_iconst (pc := 30) (v := 1) k_lk_explainTogether_30 (by decide) ?_
    refine tr_istore (pc := 31) k_lk_explainTogether_31 (by decide) rfl ?_
    show mT g me_lk_explainTogether (d + 7) 0 0 33 [some (vr 5 0), some (vr 7 a1), some (vr 7 a2), some (vi (0 : Int32)), some (vi (0 : Int32)), some (vi (1 : Int32)), none, none, none] [] h1 _
    exact hv
  · replace hv := hv.2 q
    refine tr_iconst (pc := 21) (v := 1) k_lk_explainTogether_21 (by decide) ?_
    refine tr_goto (pc := 22) 26 k_lk_explainTogether_22 (by decide) ?_
    refine tr_istore_n (pc := 26) 3 k_lk_explainTogether_26 rfl (by decide) rfl ?_
    show mT g me_lk_explainTogether (d + 7) 0 0 27 [some (vr 5 0), some (vr 7 a1), some (vr 7 a2), some (vi (1 : Int32)), none, none, none, none, none] [] h1 _
    refine tr_iconst (pc := 27) (v := 0) k_lk_explainTogether_27 (by decide) ?_
    refine tr_istore (pc := 28) k_lk_explainTogether_28 (by decide) rfl ?_
    show mT g me_lk_explainTogether (d + 7) 0 0 30 [some (vr 5 0), some (vr 7 a1), some (vr 7 a2), some (vi (1 : Int32)), some (vi (0 : Int32)), none, none, none, none] [] h1 _
    refine tr_iconst (pc := 30) (v := 1) k_lk_explainTogether_30 (by decide) ?_
    refine tr_istore (pc := 31) k_lk_explainTogether_31 (by decide) rfl ?_
    show mT g me_lk_explainTogether (d + 7) 0 0 33 [some (vr 5 0), some (vr 7 a1), some (vr 7 a2), some (vi (1 : Int32)), some (vi (0 : Int32)), some (vi (1 : Int32)), none, none, none] [] h1 _
    exact hv
theorem v_lk_explainTogether_33 {g : mG} {d : Nat} (a1 : Nat) (a2 : Nat) (x3 : Int32) (x4 : Int32) (x5 : Int32) (o6 : Option mV) (o7 : Option mV) (o8 : Option mV) {h : mH} {Q : Option mV → mH → Prop} (hsk : mSK h) (hv : (((12 : Int32) < x5 → ((x4 = 0 → (vp_nar .boolean x4 = x4 ∧ Q (some (vi x4)) (setI (setI h 7 a1 7 (0 : Int32)) 7 a2 7 (0 : Int32)))) ∧ (¬ x4 = 0 → (vp_nar .boolean x4 = x4 ∧ Q (some (vi x4)) (setI (setI (setI (setI (setI (setI h 5 0 2 (hI h 7 a1 0)) 5 0 3 (hI h 7 a1 7)) 5 0 4 (hI h 7 a2 0)) 5 0 5 (hI h 7 a2 7)) 7 a1 7 (0 : Int32)) 7 a2 7 (0 : Int32)))))) ∧ (¬ (12 : Int32) < x5 → ((¬ x4 = 0 → ((x4 = 0 → (vp_nar .boolean x4 = x4 ∧ Q (some (vi x4)) (setI (setI h 7 a1 7 (0 : Int32)) 7 a2 7 (0 : Int32)))) ∧ (¬ x4 = 0 → (vp_nar .boolean x4 = x4 ∧ Q (some (vi x4)) (setI (setI (setI (setI (setI (setI h 5 0 2 (hI h 7 a1 0)) 5 0 3 (hI h 7 a1 7)) 5 0 4 (hI h 7 a2 0)) 5 0 5 (hI h 7 a2 7)) 7 a1 7 (0 : Int32)) 7 a2 7 (0 : Int32)))))) ∧ (x4 = 0 → ((¬ x3 = 0 → ((x4 = 0 → (vp_nar .boolean x4 = x4 ∧ Q (some (vi x4)) (setI (setI h 7 a1 7 (0 : Int32)) 7 a2 7 (0 : Int32)))) ∧ (¬ x4 = 0 → (vp_nar .boolean x4 = x4 ∧ Q (some (vi x4)) (setI (setI (setI (setI (setI (setI h 5 0 2 (hI h 7 a1 0)) 5 0 3 (hI h 7 a1 7)) 5 0 4 (hI h 7 a2 0)) 5 0 5 (hI h 7 a2 7)) 7 a1 7 (0 : Int32)) 7 a2 7 (0 : Int32)))))) ∧ (x3 = 0 → mT g me_lk_explainTogether (d + 7) 0 0 61 [some (vr 5 0), some (vr 7 a1), some (vr 7 a2), some (vi x3), some (vi x4), some (vi x5), some (vi (0 : Int32)), some (vi (1 : Int32)), o8] [] (setI h 7 a1 7 x5) Q))))))) : mT g me_lk_explainTogether (d + 7) 0 0 33 [some (vr 5 0), some (vr 7 a1), some (vr 7 a2), some (vi x3), some (vi x4), some (vi x5), o6, o7, o8] [] h Q := by
  refine tr_iload (pc := 33) k_lk_explainTogether_33 rfl ?_
  refine tr_bipush (pc := 35) (v := 12) k_lk_explainTogether_35 (by decide) ?_
  refine tr_icmp_gt (pc := 37) 128 k_lk_explainTogether_37 (by decide) (fun q => ?_) (fun q => ?_)
  · replace hv := hv.1 q
    refine tr_iload (pc := 128) k_lk_explainTogether_128 rfl ?_
    refine tr_if_eq (pc := 130) 139 k_lk_explainTogether_130 (by decide) (fun q => ?_) (fun q => ?_)
    · replace hv := hv.1 q
      refine tr_aload_n (pc := 139) 1 k_lk_explainTogether_139 rfl rfl ?_
      refine tr_iconst (pc := 140) (v := 0) k_lk_explainTogether_140 (by decide) ?_
      refine tr_putI (pc := 141) k_lk_explainTogether_141 fl_lk_72 (Or.inl rfl) rfl ⟨rfl, rfl⟩ ?_
      refine tr_aload_n (pc := 144) 2 k_lk_explainTogether_144 rfl rfl ?_
      refine tr_iconst (pc := 145) (v := 0) k_lk_explainTogether_145 (by decide) ?_
      refine tr_putI (pc := 146) k_lk_explainTogether_146 fl_lk_72 (Or.inl rfl) rfl ⟨rfl, rfl⟩ ?_
      refine tr_iload (pc := 149) k_lk_explainTogether_149 rfl ?_
      refine tr_ireturn (pc := 151) k_lk_explainTogether_151 rfl (mzret hv.1) ?_
      replace hv := hv.2
      exact hv
    · replace hv := hv.2 q
      refine tr_aload_n (pc := 133) 0 k_lk_explainTogether_133 rfl rfl ?_
      refine tr_aload_n (pc := 134) 1 k_lk_explainTogether_134 rfl rfl ?_
      refine tr_aload_n (pc := 135) 2 k_lk_explainTogether_135 rfl rfl ?_
      refine tr_callV (pc := 136) (d' := d + 6) (mc' := 0) (ms' := 0) [vr 7 a1, vr 7 a2] k_lk_explainTogether_136 ca_lk_keepTwo ml_lk_78 ii_lk_keepTwo ⟨by decide, rfl⟩ pa_lk_keepTwo (by omega) (by omega) (by omega) rfl (Nat.le_of_ble_eq_true rfl) (Nat.le_of_ble_eq_true rfl) (Qk := fun v h9 => mT g me_lk_explainTogether (d + 7) 0 0 139 [some (vr 5 0), some (vr 7 a1), some (vr 7 a2), some (vi x3), some (vi x4), some (vi x5), o6, o7, o8] (v.toList ++ []) h9 _) ?_ (fun _ _ z => z)
      show mT g me_lk_keepTwo (d + 6) 0 0 0 [some (vr 5 0), some (vr 7 a1), some (vr 7 a2)] [] h _
      refine tr_aload_n (pc := 0) 0 k_lk_keepTwo_0 rfl rfl ?_
      refine tr_aload_n (pc := 1) 1 k_lk_keepTwo_1 rfl rfl ?_
      refine tr_getIx (pc := 2) k_lk_keepTwo_2 fl_lk_75 rfl rfl ?_
      refine tr_putI (pc := 5) k_lk_keepTwo_5 fl_lk_51 (Or.inl rfl) rfl ⟨rfl, rfl⟩ ?_
      refine tr_aload_n (pc := 8) 0 k_lk_keepTwo_8 rfl rfl ?_
      refine tr_aload_n (pc := 9) 1 k_lk_keepTwo_9 rfl rfl ?_
      refine tr_getIx (pc := 10) k_lk_keepTwo_10 fl_lk_72 rfl (hI_nk (by decide)) ?_
      refine tr_putI (pc := 13) k_lk_keepTwo_13 fl_lk_55 (Or.inl rfl) rfl ⟨rfl, rfl⟩ ?_
      refine tr_aload_n (pc := 16) 0 k_lk_keepTwo_16 rfl rfl ?_
      refine tr_aload_n (pc := 17) 2 k_lk_keepTwo_17 rfl rfl ?_
      refine tr_getIx (pc := 18) k_lk_keepTwo_18 fl_lk_75 rfl (Eq.trans (hI_nk (by decide)) (hI_nk (by decide))) ?_
      refine tr_putI (pc := 21) k_lk_keepTwo_21 fl_lk_58 (Or.inl rfl) rfl ⟨rfl, rfl⟩ ?_
      refine tr_aload_n (pc := 24) 0 k_lk_keepTwo_24 rfl rfl ?_
      refine tr_aload_n (pc := 25) 2 k_lk_keepTwo_25 rfl rfl ?_
      refine tr_getIx (pc := 26) k_lk_keepTwo_26 fl_lk_72 rfl (Eq.trans (hI_nk (by decide)) (Eq.trans (hI_nk (by decide)) (hI_nk (by decide)))) ?_
      refine tr_putI (pc := 29) k_lk_keepTwo_29 fl_lk_61 (Or.inl rfl) rfl ⟨rfl, rfl⟩ ?_
      refine tr_return (pc := 32) k_lk_keepTwo_32 rfl ?_
      show mT g me_lk_explainTogether (d + 7) 0 0 139 [some (vr 5 0), some (vr 7 a1), some (vr 7 a2), some (vi x3), some (vi x4), some (vi x5), o6, o7, o8] [] (setI (setI (setI (setI h 5 0 2 (hI h 7 a1 0)) 5 0 3 (hI h 7 a1 7)) 5 0 4 (hI h 7 a2 0)) 5 0 5 (hI h 7 a2 7)) _
      refine tr_aload_n (pc := 139) 1 k_lk_explainTogether_139 rfl rfl ?_
      refine tr_iconst (pc := 140) (v := 0) k_lk_explainTogether_140 (by decide) ?_
      refine tr_putI (pc := 141) k_lk_explainTogether_141 fl_lk_72 (Or.inl rfl) rfl ⟨rfl, rfl⟩ ?_
      refine tr_aload_n (pc := 144) 2 k_lk_explainTogether_144 rfl rfl ?_
      refine tr_iconst (pc := 145) (v := 0) k_lk_explainTogether_145 (by decide) ?_
      refine tr_putI (pc := 146) k_lk_explainTogether_146 fl_lk_72 (Or.inl rfl) rfl ⟨rfl, rfl⟩ ?_
      refine tr_iload (pc := 149) k_lk_explainTogether_149 rfl ?_
      refine tr_ireturn (pc := 151) k_lk_explainTogether_151 rfl (mzret hv.1) ?_
      replace hv := hv.2
      exact hv
  · replace hv := hv.2 q
    refine tr_iload (pc := 40) k_lk_explainTogether_40 rfl ?_
    refine tr_if_ne (pc := 42) 128 k_lk_explainTogether_42 (by decide) (fun q => ?_) (fun q => ?_)
    · replace hv := hv.1 q
      refine tr_iload (pc := 128) k_lk_explainTogether_128 rfl ?_
      refine tr_if_eq (pc := 130) 139 k_lk_explainTogether_130 (by decide) (fun q => ?_) (fun q => ?_)
      · replace hv := hv.1 q
        refine tr_aload_n (pc := 139) 1 k_lk_explainTogether_139 rfl rfl ?_
        refine tr_iconst (pc := 140) (v := 0) k_lk_explainTogether_140 (by decide) ?_
        refine tr_putI (pc := 141) k_lk_explainTogether_141 fl_lk_72 (Or.inl rfl) rfl ⟨rfl, rfl⟩ ?_
        refine tr_aload_n (pc := 144) 2 k_lk_explainTogether_144 rfl rfl ?_
        refine tr_iconst (pc := 145) (v := 0) k_lk_explainTogether_145 (by decide) ?_
        refine tr_putI (pc := 146) k_lk_explainTogether_146 fl_lk_72 (Or.inl rfl) rfl ⟨rfl, rfl⟩ ?_
        refine tr_iload (pc := 149) k_lk_explainTogether_149 rfl ?_
        refine tr_ireturn (pc := 151) k_lk_explainTogether_151 rfl (mzret hv.1) ?_
        replace hv := hv.2
        exact hv
      · replace hv := hv.2 q
        refine tr_aload_n (pc := 133) 0 k_lk_explainTogether_133 rfl rfl ?_
        refine tr_aload_n (pc := 134) 1 k_lk_explainTogether_134 rfl rfl ?_
        refine tr_aload_n (pc := 135) 2 k_lk_explainTogether_135 rfl rfl ?_
        refine tr_callV (pc := 136) (d' := d + 6) (mc' := 0) (ms' := 0) [vr 7 a1, vr 7 a2] k_lk_explainTogether_136 ca_lk_keepTwo ml_lk_78 ii_lk_keepTwo ⟨by decide, rfl⟩ pa_lk_keepTwo (by omega) (by omega) (by omega) rfl (Nat.le_of_ble_eq_true rfl) (Nat.le_of_ble_eq_true rfl) (Qk := fun v h9 => mT g me_lk_explainTogether (d + 7) 0 0 139 [some (vr 5 0), some (vr 7 a1), some (vr 7 a2), some (vi x3), some (vi x4), some (vi x5), o6, o7, o8] (v.toList ++ []) h9 _) ?_ (fun _ _ z => z)
        show mT g me_lk_keepTwo (d + 6) 0 0 0 [some (vr 5 0), some (vr 7 a1), some (vr 7 a2)] [] h _
        refine tr_aload_n (pc := 0) 0 k_lk_keepTwo_0 rfl rfl ?_
        refine tr_aload_n (pc := 1) 1 k_lk_keepTwo_1 rfl rfl ?_
        refine tr_getIx (pc := 2) k_lk_keepTwo_2 fl_lk_75 rfl rfl ?_
        refine tr_putI (pc := 5) k_lk_keepTwo_5 fl_lk_51 (Or.inl rfl) rfl ⟨rfl, rfl⟩ ?_
        refine tr_aload_n (pc := 8) 0 k_lk_keepTwo_8 rfl rfl ?_
        refine tr_aload_n (pc := 9) 1 k_lk_keepTwo_9 rfl rfl ?_
        refine tr_getIx (pc := 10) k_lk_keepTwo_10 fl_lk_72 rfl (hI_nk (by decide)) ?_
        refine tr_putI (pc := 13) k_lk_keepTwo_13 fl_lk_55 (Or.inl rfl) rfl ⟨rfl, rfl⟩ ?_
        refine tr_aload_n (pc := 16) 0 k_lk_keepTwo_16 rfl rfl ?_
        refine tr_aload_n (pc := 17) 2 k_lk_keepTwo_17 rfl rfl ?_
        refine tr_getIx (pc := 18) k_lk_keepTwo_18 fl_lk_75 rfl (Eq.trans (hI_nk (by decide)) (hI_nk (by decide))) ?_
        refine tr_putI (pc := 21) k_lk_keepTwo_21 fl_lk_58 (Or.inl rfl) rfl ⟨rfl, rfl⟩ ?_
        refine tr_aload_n (pc := 24) 0 k_lk_keepTwo_24 rfl rfl ?_
        refine tr_aload_n (pc := 25) 2 k_lk_keepTwo_25 rfl rfl ?_
        refine tr_getIx (pc := 26) k_lk_keepTwo_26 fl_lk_72 rfl (Eq.trans (hI_nk (by decide)) (Eq.trans (hI_nk (by decide)) (hI_nk (by decide)))) ?_
        refine tr_putI (pc := 29) k_lk_keepTwo_29 fl_lk_61 (Or.inl rfl) rfl ⟨rfl, rfl⟩ ?_
        refine tr_return (pc := 32) k_lk_keepTwo_32 rfl ?_
        show mT g me_lk_explainTogether (d + 7) 0 0 139 [some (vr 5 0), some (vr 7 a1), some (vr 7 a2), some (vi x3), some (vi x4), some (vi x5), o6, o7, o8] [] (setI (setI (setI (setI h 5 0 2 (hI h 7 a1 0)) 5 0 3 (hI h 7 a1 7)) 5 0 4 (hI h 7 a2 0)) 5 0 5 (hI h 7 a2 7)) _
        refine tr_aload_n (pc := 139) 1 k_lk_explainTogether_139 rfl rfl ?_
        refine tr_iconst (pc := 140) (v := 0) k_lk_explainTogether_140 (by decide) ?_
        refine tr_putI (pc := 141) k_lk_explainTogether_141 fl_lk_72 (Or.inl rfl) rfl ⟨rfl, rfl⟩ ?_
        refine tr_aload_n (pc := 144) 2 k_lk_explainTogether_144 rfl rfl ?_
        refine tr_iconst (pc := 145) (v := 0) k_lk_explainTogether_145 (by decide) ?_
        refine tr_putI (pc := 146) k_lk_explainTogether_146 fl_lk_72 (Or.inl rfl) rfl ⟨rfl, rfl⟩ ?_
        refine tr_iload (pc := 149) k_lk_explainTogether_149 rfl ?_
        refine tr_ireturn (pc := 151) k_lk_explainTogether_151 rfl (mzret hv.1) ?_
        replace hv := hv.2
        exact hv
    · replace hv := hv.2 q
      refine tr_iload_n (pc := 45) 3 k_lk_explainTogether_45 rfl rfl ?_
      refine tr_if_ne (pc := 46) 128 k_lk_explainTogether_46 (by decide) (fun q => ?_) (fun q => ?_)
      · replace hv := hv.1 q
        refine tr_iload (pc := 128) k_lk_explainTogether_128 rfl ?_
        refine tr_if_eq (pc := 130) 139 k_lk_explainTogether_130 (by decide) (fun q => ?_) (fun q => ?_)
        · replace hv := hv.1 q
          refine tr_aload_n (pc := 139) 1 k_lk_explainTogether_139 rfl rfl ?_
          refine tr_iconst (pc := 140) (v := 0) k_lk_explainTogether_140 (by decide) ?_
          refine tr_putI (pc := 141) k_lk_explainTogether_141 fl_lk_72 (Or.inl rfl) rfl ⟨rfl, rfl⟩ ?_
          refine tr_aload_n (pc := 144) 2 k_lk_explainTogether_144 rfl rfl ?_
          refine tr_iconst (pc := 145) (v := 0) k_lk_explainTogether_145 (by decide) ?_
          refine tr_putI (pc := 146) k_lk_explainTogether_146 fl_lk_72 (Or.inl rfl) rfl ⟨rfl, rfl⟩ ?_
          refine tr_iload (pc := 149) k_lk_explainTogether_149 rfl ?_
          refine tr_ireturn (pc := 151) k_lk_explainTogether_151 rfl (mzret hv.1) ?_
          replace hv := hv.2
          exact hv
        · replace hv := hv.2 q
          refine tr_aload_n (pc := 133) 0 k_lk_explainTogether_133 rfl rfl ?_
          refine tr_aload_n (pc := 134) 1 k_lk_explainTogether_134 rfl rfl ?_
          refine tr_aload_n (pc := 135) 2 k_lk_explainTogether_135 rfl rfl ?_
          refine tr_callV (pc := 136) (d' := d + 6) (mc' := 0) (ms' := 0) [vr 7 a1, vr 7 a2] k_lk_explainTogether_136 ca_lk_keepTwo ml_lk_78 ii_lk_keepTwo ⟨by decide, rfl⟩ pa_lk_keepTwo (by omega) (by omega) (by omega) rfl (Nat.le_of_ble_eq_true rfl) (Nat.le_of_ble_eq_true rfl) (Qk := fun v h9 => mT g me_lk_explainTogether (d + 7) 0 0 139 [some (vr 5 0), some (vr 7 a1), some (vr 7 a2), some (vi x3), some (vi x4), some (vi x5), o6, o7, o8] (v.toList ++ []) h9 _) ?_ (fun _ _ z => z)
          show mT g me_lk_keepTwo (d + 6) 0 0 0 [some (vr 5 0), some (vr 7 a1), some (vr 7 a2)] [] h _
          refine tr_aload_n (pc := 0) 0 k_lk_keepTwo_0 rfl rfl ?_
          refine tr_aload_n (pc := 1) 1 k_lk_keepTwo_1 rfl rfl ?_
          refine tr_getIx (pc := 2) k_lk_keepTwo_2 fl_lk_75 rfl rfl ?_
          refine tr_putI (pc := 5) k_lk_keepTwo_5 fl_lk_51 (Or.inl rfl) rfl ⟨rfl, rfl⟩ ?_
          refine tr_aload_n (pc := 8) 0 k_lk_keepTwo_8 rfl rfl ?_
          refine tr_aload_n (pc := 9) 1 k_lk_keepTwo_9 rfl rfl ?_
          refine tr_getIx (pc := 10) k_lk_keepTwo_10 fl_lk_72 rfl (hI_nk (by decide)) ?_
          refine tr_putI (pc := 13) k_lk_keepTwo_13 fl_lk_55 (Or.inl rfl) rfl ⟨rfl, rfl⟩ ?_
          refine tr_aload_n (pc := 16) 0 k_lk_keepTwo_16 rfl rfl ?_
          refine tr_aload_n (pc := 17) 2 k_lk_keepTwo_17 rfl rfl ?_
          refine tr_getIx (pc := 18) k_lk_keepTwo_18 fl_lk_75 rfl (Eq.trans (hI_nk (by decide)) (hI_nk (by decide))) ?_
          refine tr_putI (pc := 21) k_lk_keepTwo_21 fl_lk_58 (Or.inl rfl) rfl ⟨rfl, rfl⟩ ?_
          refine tr_aload_n (pc := 24) 0 k_lk_keepTwo_24 rfl rfl ?_
          refine tr_aload_n (pc := 25) 2 k_lk_keepTwo_25 rfl rfl ?_
          refine tr_getIx (pc := 26) k_lk_keepTwo_26 fl_lk_72 rfl (Eq.trans (hI_nk (by decide)) (Eq.trans (hI_nk (by decide)) (hI_nk (by decide)))) ?_
          refine tr_putI (pc := 29) k_lk_keepTwo_29 fl_lk_61 (Or.inl rfl) rfl ⟨rfl, rfl⟩ ?_
          refine tr_return (pc := 32) k_lk_keepTwo_32 rfl ?_
          show mT g me_lk_explainTogether (d + 7) 0 0 139 [some (vr 5 0), some (vr 7 a1), some (vr 7 a2), some (vi x3), some (vi x4), some (vi x5), o6, o7, o8] [] (setI (setI (setI (setI h 5 0 2 (hI h 7 a1 0)) 5 0 3 (hI h 7 a1 7)) 5 0 4 (hI h 7 a2 0)) 5 0 5 (hI h 7 a2 7)) _
          refine tr_aload_n (pc := 139) 1 k_lk_explainTogether_139 rfl rfl ?_
          refine tr_iconst (pc := 140) (v := 0) k_lk_explainTogether_140 (by decide) ?_
          refine tr_putI (pc := 141) k_lk_explainTogether_141 fl_lk_72 (Or.inl rfl) rfl ⟨rfl, rfl⟩ ?_
          refine tr_aload_n (pc := 144) 2 k_lk_explainTogether_144 rfl rfl ?_
          refine tr_iconst (pc := 145) (v := 0) k_lk_explainTogether_145 (by decide) ?_
          refine tr_putI (pc := 146) k_lk_explainTogether_146 fl_lk_72 (Or.inl rfl) rfl ⟨rfl, rfl⟩ ?_
          refine tr_iload (pc := 149) k_lk_explainTogether_149 rfl ?_
          refine tr_ireturn (pc := 151) k_lk_explainTogether_151 rfl (mzret hv.1) ?_
          replace hv := hv.2
          exact hv
      · replace hv := hv.2 q
        refine tr_aload_n (pc := 49) 1 k_lk_explainTogether_49 rfl rfl ?_
        refine tr_iload (pc := 50) k_lk_explainTogether_50 rfl ?_
        refine tr_putI (pc := 52) k_lk_explainTogether_52 fl_lk_72 (Or.inl rfl) rfl ⟨rfl, rfl⟩ ?_
        refine tr_iconst (pc := 55) (v := 0) k_lk_explainTogether_55 (by decide) ?_
        refine tr_istore (pc := 56) k_lk_explainTogether_56 (by decide) rfl ?_
        show mT g me_lk_explainTogether (d + 7) 0 0 58 [some (vr 5 0), some (vr 7 a1), some (vr 7 a2), some (vi x3), some (vi x4), some (vi x5), some (vi (0 : Int32)), o7, o8] [] (setI h 7 a1 7 x5) _
        refine tr_iconst (pc := 58) (v := 1) k_lk_explainTogether_58 (by decide) ?_
        refine tr_istore (pc := 59) k_lk_explainTogether_59 (by decide) rfl ?_
        show mT g me_lk_explainTogether (d + 7) 0 0 61 [some (vr 5 0), some (vr 7 a1), some (vr 7 a2), some (vi x3), some (vi x4), some (vi x5), some (vi (0 : Int32)), some (vi (1 : Int32)), o8] [] (setI h 7 a1 7 x5) _
        exact hv
theorem v_lk_explainTogether_61 {g : mG} {d : Nat} (a1 : Nat) (a2 : Nat) (x3 : Int32) (x4 : Int32) (x5 : Int32) (x6 : Int32) (x7 : Int32) (o8 : Option mV) {h : mH} {Q : Option mV → mH → Prop} (hsk : mSK h) (hv : (((12 : Int32) < x7 → mT g me_lk_explainTogether (d + 7) 0 0 33 [some (vr 5 0), some (vr 7 a1), some (vr 7 a2), some (vi x3), some (vi x4), some (vi (x5 + 1)), some (vi x6), some (vi x7), o8] [] h Q) ∧ (¬ (12 : Int32) < x7 → ((¬ x4 = 0 → mT g me_lk_explainTogether (d + 7) 0 0 33 [some (vr 5 0), some (vr 7 a1), some (vr 7 a2), some (vi x3), some (vi x4), some (vi (x5 + 1)), some (vi x6), some (vi x7), o8] [] h Q) ∧ (x4 = 0 → ((¬ x6 = 0 → mT g me_lk_explainTogether (d + 7) 0 0 33 [some (vr 5 0), some (vr 7 a1), some (vr 7 a2), some (vi x3), some (vi x4), some (vi (x5 + 1)), some (vi x6), some (vi x7), o8] [] h Q) ∧ (x6 = 0 → mT g me_lk_misses (d + 6) 0 0 0 [some (vr 5 0), none, none, none, none] [] (setI h 7 a2 7 x7) (fun v h1 => ∃ y2, v = some (vi y2) ∧ mSK h1 ∧ (((y2 &&& (1 : Int32)) = 0 → ((¬ y2 = 0 → mT g me_lk_explainTogether (d + 7) 0 0 61 [some (vr 5 0), some (vr 7 a1), some (vr 7 a2), some (vi x3), some (vi (0 : Int32)), some (vi x5), some (vi (0 : Int32)), some (vi (x7 + 1)), some (vi y2)] [] h1 Q) ∧ (y2 = 0 → mT g me_lk_explainTogether (d + 7) 0 0 61 [some (vr 5 0), some (vr 7 a1), some (vr 7 a2), some (vi x3), some (vi (1 : Int32)), some (vi x5), some (vi (0 : Int32)), some (vi (x7 + 1)), some (vi y2)] [] h1 Q))) ∧ (¬ (y2 &&& (1 : Int32)) = 0 → ((¬ y2 = 0 → mT g me_lk_explainTogether (d + 7) 0 0 61 [some (vr 5 0), some (vr 7 a1), some (vr 7 a2), some (vi x3), some (vi (0 : Int32)), some (vi x5), some (vi (1 : Int32)), some (vi (x7 + 1)), some (vi y2)] [] h1 Q) ∧ (y2 = 0 → mT g me_lk_explainTogether (d + 7) 0 0 61 [some (vr 5 0), some (vr 7 a1), some (vr 7 a2), some (vi x3), some (vi (1 : Int32)), some (vi x5), some (vi (1 : Int32)), some (vi (x7 + 1)), some (vi y2)] [] h1 Q)))))))))))) : mT g me_lk_explainTogether (d + 7) 0 0 61 [some (vr 5 0), some (vr 7 a1), some (vr 7 a2), some (vi x3), some (vi x4), some (vi x5), some (vi x6), some (vi x7), o8] [] h Q := by
  refine tr_iload (pc := 61) k_lk_explainTogether_61 rfl ?_
  refine tr_bipush (pc := 63) (v := 12) k_lk_explainTogether_63 (by decide) ?_
  refine tr_icmp_gt (pc := 65) 122 k_lk_explainTogether_65 (by decide) (fun q => ?_) (fun q => ?_)
  · replace hv := hv.1 q
    refine tr_iinc (pc := 122) (v := (x5 + 1)) k_lk_explainTogether_122 rfl rfl (by decide) rfl ?_
    show mT g me_lk_explainTogether (d + 7) 0 0 125 [some (vr 5 0), some (vr 7 a1), some (vr 7 a2), some (vi x3), some (vi x4), some (vi (x5 + 1)), some (vi x6), some (vi x7), o8] [] h _
    refine tr_goto (pc := 125) 33 k_lk_explainTogether_125 (by decide) ?_
    exact hv
  · replace hv := hv.2 q
    refine tr_iload (pc := 68) k_lk_explainTogether_68 rfl ?_
    refine tr_if_ne (pc := 70) 122 k_lk_explainTogether_70 (by decide) (fun q => ?_) (fun q => ?_)
    · replace hv := hv.1 q
      refine tr_iinc (pc := 122) (v := (x5 + 1)) k_lk_explainTogether_122 rfl rfl (by decide) rfl ?_
      show mT g me_lk_explainTogether (d + 7) 0 0 125 [some (vr 5 0), some (vr 7 a1), some (vr 7 a2), some (vi x3), some (vi x4), some (vi (x5 + 1)), some (vi x6), some (vi x7), o8] [] h _
      refine tr_goto (pc := 125) 33 k_lk_explainTogether_125 (by decide) ?_
      exact hv
    · replace hv := hv.2 q
      refine tr_iload (pc := 73) k_lk_explainTogether_73 rfl ?_
      refine tr_if_ne (pc := 75) 122 k_lk_explainTogether_75 (by decide) (fun q => ?_) (fun q => ?_)
      · replace hv := hv.1 q
        refine tr_iinc (pc := 122) (v := (x5 + 1)) k_lk_explainTogether_122 rfl rfl (by decide) rfl ?_
        show mT g me_lk_explainTogether (d + 7) 0 0 125 [some (vr 5 0), some (vr 7 a1), some (vr 7 a2), some (vi x3), some (vi x4), some (vi (x5 + 1)), some (vi x6), some (vi x7), o8] [] h _
        refine tr_goto (pc := 125) 33 k_lk_explainTogether_125 (by decide) ?_
        exact hv
      · replace hv := hv.2 q
        refine tr_aload_n (pc := 78) 2 k_lk_explainTogether_78 rfl rfl ?_
        refine tr_iload (pc := 79) k_lk_explainTogether_79 rfl ?_
        refine tr_putI (pc := 81) k_lk_explainTogether_81 fl_lk_72 (Or.inl rfl) rfl ⟨rfl, rfl⟩ ?_
        refine tr_aload_n (pc := 84) 0 k_lk_explainTogether_84 rfl rfl ?_
        refine tr_callV (pc := 85) (d' := d + 6) (mc' := 0) (ms' := 0) [] k_lk_explainTogether_85 ca_lk_misses ml_lk_22 ii_lk_misses ⟨by decide, rfl⟩ pa_lk_misses (by omega) (by omega) (by omega) rfl (Nat.le_of_ble_eq_true rfl) (Nat.le_of_ble_eq_true rfl) hv (fun v h9 hv => ?_)
        obtain ⟨y2, rfl, hv⟩ := hv
        obtain ⟨h1, eh⟩ : ∃ z, z = h9 := ⟨_, rfl⟩
        subst eh
        obtain ⟨hskh1, hv⟩ := hv
        show mT g me_lk_explainTogether (d + 7) 0 0 88 [some (vr 5 0), some (vr 7 a1), some (vr 7 a2), some (vi x3), some (vi x4), some (vi x5), some (vi x6), some (vi x7), o8] [vi y2] h1 _
        refine tr_istore (pc := 88) k_lk_explainTogether_88 (by decide) rfl ?_
        show mT g me_lk_explainTogether (d + 7) 0 0 90 [some (vr 5 0), some (vr 7 a1), some (vr 7 a2), some (vi x3), some (vi x4), some (vi x5), some (vi x6), some (vi x7), some (vi y2)] [] h1 _
        refine tr_iload (pc := 90) k_lk_explainTogether_90 rfl ?_
        refine tr_iconst (pc := 92) (v := 1) k_lk_explainTogether_92 (by decide) ?_
        refine tr_iand (pc := 93) k_lk_explainTogether_93 ?_
        refine tr_if_eq (pc := 94) 101 k_lk_explainTogether_94 (by decide) (fun q => ?_) (fun q => ?_)
        · replace hv := hv.1 q
          refine tr_iconst (pc := 101) (v := 0) k_lk_explainTogether_101 (by decide) ?_
          refine tr_istore (pc := 102) k_lk_explainTogether_102 (by decide) rfl ?_
          show mT g me_lk_explainTogether (d + 7) 0 0 104 [some (vr 5 0), some (vr 7 a1), some (vr 7 a2), some (vi x3), some (vi x4), some (vi x5), some (vi (0 : Int32)), some (vi x7), some (vi y2)] [] h1 _
          refine tr_iload (pc := 104) k_lk_explainTogether_104 rfl ?_
          refine tr_if_ne (pc := 106) 113 k_lk_explainTogether_106 (by decide) (fun q => ?_) (fun q => ?_)
          · replace hv := hv.1 q
            refine tr_iconst (pc := 113) (v := 0) k_lk_explainTogether_113 (by decide) ?_
            refine tr_istore (pc := 114) k_lk_explainTogether_114 (by decide) rfl ?_
            show mT g me_lk_explainTogether (d + 7) 0 0 116 [some (vr 5 0), some (vr 7 a1), some (vr 7 a2), some (vi x3), some (vi (0 : Int32)), some (vi x5), some (vi (0 : Int32)), some (vi x7), some (vi y2)] [] h1 _
            refine tr_iinc (pc := 116) (v := (x7 + 1)) k_lk_explainTogether_116 rfl rfl (by decide) rfl ?_
            show mT g me_lk_explainTogether (d + 7) 0 0 119 [some (vr 5 0), some (vr 7 a1), some (vr 7 a2), some (vi x3), some (vi (0 : Int32)), some (vi x5), some (vi (0 : Int32)), some (vi (x7 + 1)), some (vi y2)] [] h1 _
            refine tr_goto (pc := 119) 61 k_lk_explainTogether_119 (by decide) ?_
            exact hv
          · replace hv := hv.2 q
            refine tr_iconst (pc := 109) (v := 1) k_lk_explainTogether_109 (by decide) ?_
            refine tr_goto (pc := 110) 114 k_lk_explainTogether_110 (by decide) ?_
            refine tr_istore (pc := 114) k_lk_explainTogether_114 (by decide) rfl ?_
            show mT g me_lk_explainTogether (d + 7) 0 0 116 [some (vr 5 0), some (vr 7 a1), some (vr 7 a2), some (vi x3), some (vi (1 : Int32)), some (vi x5), some (vi (0 : Int32)), some (vi x7), some (vi y2)] [] h1 _
            refine tr_iinc (pc := 116) (v := (x7 + 1)) k_lk_explainTogether_116 rfl rfl (by decide) rfl ?_
            show mT g me_lk_explainTogether (d + 7) 0 0 119 [some (vr 5 0), some (vr 7 a1), some (vr 7 a2), some (vi x3), some (vi (1 : Int32)), some (vi x5), some (vi (0 : Int32)), some (vi (x7 + 1)), some (vi y2)] [] h1 _
            refine tr_goto (pc := 119) 61 k_lk_explainTogether_119 (by decide) ?_
            exact hv
        · replace hv := hv.2 q
          refine tr_iconst (pc := 97) (v := 1) k_lk_explainTogether_97 (by decide) ?_
          refine tr_goto (pc := 98) 102 k_lk_explainTogether_98 (by decide) ?_
          refine tr_istore (pc := 102) k_lk_explainTogether_102 (by decide) rfl ?_
          show mT g me_lk_explainTogether (d + 7) 0 0 104 [some (vr 5 0), some (vr 7 a1), some (vr 7 a2), some (vi x3), some (vi x4), some (vi x5), some (vi (1 : Int32)), some (vi x7), some (vi y2)] [] h1 _
          refine tr_iload (pc := 104) k_lk_explainTogether_104 rfl ?_
          refine tr_if_ne (pc := 106) 113 k_lk_explainTogether_106 (by decide) (fun q => ?_) (fun q => ?_)
          · replace hv := hv.1 q
            refine tr_iconst (pc := 113) (v := 0) k_lk_explainTogether_113 (by decide) ?_
            refine tr_istore (pc := 114) k_lk_explainTogether_114 (by decide) rfl ?_
            show mT g me_lk_explainTogether (d + 7) 0 0 116 [some (vr 5 0), some (vr 7 a1), some (vr 7 a2), some (vi x3), some (vi (0 : Int32)), some (vi x5), some (vi (1 : Int32)), some (vi x7), some (vi y2)] [] h1 _
            refine tr_iinc (pc := 116) (v := (x7 + 1)) k_lk_explainTogether_116 rfl rfl (by decide) rfl ?_
            show mT g me_lk_explainTogether (d + 7) 0 0 119 [some (vr 5 0), some (vr 7 a1), some (vr 7 a2), some (vi x3), some (vi (0 : Int32)), some (vi x5), some (vi (1 : Int32)), some (vi (x7 + 1)), some (vi y2)] [] h1 _
            refine tr_goto (pc := 119) 61 k_lk_explainTogether_119 (by decide) ?_
            exact hv
          · replace hv := hv.2 q
            refine tr_iconst (pc := 109) (v := 1) k_lk_explainTogether_109 (by decide) ?_
            refine tr_goto (pc := 110) 114 k_lk_explainTogether_110 (by decide) ?_
            refine tr_istore (pc := 114) k_lk_explainTogether_114 (by decide) rfl ?_
            show mT g me_lk_explainTogether (d + 7) 0 0 116 [some (vr 5 0), some (vr 7 a1), some (vr 7 a2), some (vi x3), some (vi (1 : Int32)), some (vi x5), some (vi (1 : Int32)), some (vi x7), some (vi y2)] [] h1 _
            refine tr_iinc (pc := 116) (v := (x7 + 1)) k_lk_explainTogether_116 rfl rfl (by decide) rfl ?_
            show mT g me_lk_explainTogether (d + 7) 0 0 119 [some (vr 5 0), some (vr 7 a1), some (vr 7 a2), some (vi x3), some (vi (1 : Int32)), some (vi x5), some (vi (1 : Int32)), some (vi (x7 + 1)), some (vi y2)] [] h1 _
            refine tr_goto (pc := 119) 61 k_lk_explainTogether_119 (by decide) ?_
            exact hv
theorem v_fn_explained_0 {g : mG} {d : Nat} (x1 : Int32) {h : mH} {Q : Option mV → mH → Prop} (hsk : mSK h) (hv : ((x1 < 0 → mT g me_fn_refuse (d + 8) 0 0 0 [some (vr 0 0), some (vi (-2 : Int32)), none] [] h (fun v h1 => ∃ y2, v = some (vi y2) ∧ mSK h1 ∧ Q (some (vi y2)) h1)) ∧ (¬ x1 < 0 → ((x1 ≤ (3 : Int32) → mT g me_lk_seek (d + 8) 0 0 0 [some (vr 5 0), none, none, none] [] h (fun v h3 => ∃ y4, v = some (vi y4) ∧ mSK h3 ∧ ((x1 = 0 → Q (some (vi (hI h3 5 0 2))) h3) ∧ (x1 = 1 → Q (some (vi (hI h3 5 0 3))) h3) ∧ (x1 = 2 → Q (some (vi (hI h3 5 0 4))) h3) ∧ (¬ x1 = 0 → ¬ x1 = 1 → ¬ x1 = 2 → Q (some (vi (hI h3 5 0 5))) h3)))) ∧ (¬ x1 ≤ (3 : Int32) → mT g me_fn_refuse (d + 8) 0 0 0 [some (vr 0 0), some (vi (-2 : Int32)), none] [] h (fun v h5 => ∃ y6, v = some (vi y6) ∧ mSK h5 ∧ Q (some (vi y6)) h5)))))) : mT g me_fn_explained (d + 9) 0 0 0 [some (vr 0 0), some (vi x1)] [] h Q := by
  refine tr_iload_n (pc := 0) 1 k_fn_explained_0 rfl rfl ?_
  refine tr_if_lt (pc := 1) 9 k_fn_explained_1 (by decide) (fun q => ?_) (fun q => ?_)
  · replace hv := hv.1 q
    refine tr_aload_n (pc := 9) 0 k_fn_explained_9 rfl rfl ?_
    refine tr_bipush (pc := 10) (v := -2) k_fn_explained_10 (by decide) ?_
    refine tr_callV (pc := 12) (d' := d + 8) (mc' := 0) (ms' := 0) [vi (-2 : Int32)] k_fn_explained_12 ca_fn_refuse ml_fn_56 ii_fn_refuse ⟨by decide, rfl⟩ pa_fn_refuse (by omega) (by omega) (by omega) rfl (Nat.le_of_ble_eq_true rfl) (Nat.le_of_ble_eq_true rfl) hv (fun v h9 hv => ?_)
    obtain ⟨y2, rfl, hv⟩ := hv
    obtain ⟨h1, eh⟩ : ∃ z, z = h9 := ⟨_, rfl⟩
    subst eh
    obtain ⟨hskh1, hv⟩ := hv
    show mT g me_fn_explained (d + 9) 0 0 15 [some (vr 0 0), some (vi x1)] [vi y2] h1 _
    refine tr_ireturn (pc := 15) k_fn_explained_15 rfl rfl ?_
    exact hv
  · replace hv := hv.2 q
    refine tr_iload_n (pc := 4) 1 k_fn_explained_4 rfl rfl ?_
    refine tr_iconst (pc := 5) (v := 3) k_fn_explained_5 (by decide) ?_
    refine tr_icmp_le (pc := 6) 16 k_fn_explained_6 (by decide) (fun q => ?_) (fun q => ?_)
    · replace hv := hv.1 q
      refine tr_aload_n (pc := 16) 0 k_fn_explained_16 rfl rfl ?_
      refine tr_getP (pc := 17) k_fn_explained_17 fl_fn_44 rfl (Eq.trans rfl (hsk.1 0 4 _ rfl)) ?_
      refine tr_callV (pc := 20) (d' := d + 8) (mc' := 0) (ms' := 0) [] k_fn_explained_20 ca_lk_seek ml_fn_241 ii_lk_seek ⟨by decide, rfl⟩ pa_lk_seek (by omega) (by omega) (by omega) rfl (Nat.le_of_ble_eq_true rfl) (Nat.le_of_ble_eq_true rfl) hv (fun v h9 hv => ?_)
      obtain ⟨y4, rfl, hv⟩ := hv
      obtain ⟨h3, eh⟩ : ∃ z, z = h9 := ⟨_, rfl⟩
      subst eh
      obtain ⟨hskh3, hv⟩ := hv
      show mT g me_fn_explained (d + 9) 0 0 23 [some (vr 0 0), some (vi x1)] [vi y4] h3 _
      refine tr_pop (pc := 23) k_fn_explained_23 rfl ?_
      refine tr_iload_n (pc := 24) 1 k_fn_explained_24 rfl rfl ?_
      refine tr_table (pc := 25) [52, 60, 68] 76 k_fn_explained_25 (by decide) (by decide) (by decide) (fun i t hi hx => ?_) (fun hx => ?_)
      · rcases i with _ | _ | _ | i
        · cases hi
          replace hv := hv.1 (mtoI (hx.trans (by decide)))
          refine tr_aload_n (pc := 52) 0 k_fn_explained_52 rfl rfl ?_
          refine tr_getP (pc := 53) k_fn_explained_53 fl_fn_44 rfl (Eq.trans rfl (hskh3.1 0 4 _ rfl)) ?_
          refine tr_getIx (pc := 56) k_fn_explained_56 fl_fn_244 rfl rfl ?_
          refine tr_ireturn (pc := 59) k_fn_explained_59 rfl rfl ?_
          exact hv
        · cases hi
          replace hv := hv.2.1 (mtoI (hx.trans (by decide)))
          refine tr_aload_n (pc := 60) 0 k_fn_explained_60 rfl rfl ?_
          refine tr_getP (pc := 61) k_fn_explained_61 fl_fn_44 rfl (Eq.trans rfl (hskh3.1 0 4 _ rfl)) ?_
          refine tr_getIx (pc := 64) k_fn_explained_64 fl_fn_247 rfl rfl ?_
          refine tr_ireturn (pc := 67) k_fn_explained_67 rfl rfl ?_
          exact hv
        · cases hi
          replace hv := hv.2.2.1 (mtoI (hx.trans (by decide)))
          refine tr_aload_n (pc := 68) 0 k_fn_explained_68 rfl rfl ?_
          refine tr_getP (pc := 69) k_fn_explained_69 fl_fn_44 rfl (Eq.trans rfl (hskh3.1 0 4 _ rfl)) ?_
          refine tr_getIx (pc := 72) k_fn_explained_72 fl_fn_250 rfl rfl ?_
          refine tr_ireturn (pc := 75) k_fn_explained_75 rfl rfl ?_
          exact hv
        · exact absurd hi (by simp)
      · replace hv := hv.2.2.2 (fun e => hx 0 (by decide) (by rw [e]; decide)) (fun e => hx 1 (by decide) (by rw [e]; decide)) (fun e => hx 2 (by decide) (by rw [e]; decide))
        refine tr_aload_n (pc := 76) 0 k_fn_explained_76 rfl rfl ?_
        refine tr_getP (pc := 77) k_fn_explained_77 fl_fn_44 rfl (Eq.trans rfl (hskh3.1 0 4 _ rfl)) ?_
        refine tr_getIx (pc := 80) k_fn_explained_80 fl_fn_253 rfl rfl ?_
        refine tr_ireturn (pc := 83) k_fn_explained_83 rfl rfl ?_
        exact hv
    · replace hv := hv.2 q
      refine tr_aload_n (pc := 9) 0 k_fn_explained_9 rfl rfl ?_
      refine tr_bipush (pc := 10) (v := -2) k_fn_explained_10 (by decide) ?_
      refine tr_callV (pc := 12) (d' := d + 8) (mc' := 0) (ms' := 0) [vi (-2 : Int32)] k_fn_explained_12 ca_fn_refuse ml_fn_56 ii_fn_refuse ⟨by decide, rfl⟩ pa_fn_refuse (by omega) (by omega) (by omega) rfl (Nat.le_of_ble_eq_true rfl) (Nat.le_of_ble_eq_true rfl) hv (fun v h9 hv => ?_)
      obtain ⟨y6, rfl, hv⟩ := hv
      obtain ⟨h5, eh⟩ : ∃ z, z = h9 := ⟨_, rfl⟩
      subst eh
      obtain ⟨hskh5, hv⟩ := hv
      show mT g me_fn_explained (d + 9) 0 0 15 [some (vr 0 0), some (vi x1)] [vi y6] h5 _
      refine tr_ireturn (pc := 15) k_fn_explained_15 rfl rfl ?_
      exact hv
theorem v_fn_rivals_0 {g : mG} {d : Nat}  {h : mH} {Q : Option mV → mH → Prop} (hsk : mSK h) (hv : mT g me_lk_howManyAlone (d + 8) 0 0 0 [some (vr 5 0), none, none] [] h (fun v h1 => ∃ y2, v = some (vi y2) ∧ mSK h1 ∧ Q (some (vi y2)) h1)) : mT g me_fn_rivals (d + 9) 0 0 0 [some (vr 0 0)] [] h Q := by
  refine tr_aload_n (pc := 0) 0 k_fn_rivals_0 rfl rfl ?_
  refine tr_getP (pc := 1) k_fn_rivals_1 fl_fn_44 rfl (Eq.trans rfl (hsk.1 0 4 _ rfl)) ?_
  refine tr_callV (pc := 4) (d' := d + 8) (mc' := 0) (ms' := 0) [] k_fn_rivals_4 ca_lk_howManyAlone ml_fn_256 ii_lk_howManyAlone ⟨by decide, rfl⟩ pa_lk_howManyAlone (by omega) (by omega) (by omega) rfl (Nat.le_of_ble_eq_true rfl) (Nat.le_of_ble_eq_true rfl) hv (fun v h9 hv => ?_)
  obtain ⟨y2, rfl, hv⟩ := hv
  obtain ⟨h1, eh⟩ : ∃ z, z = h9 := ⟨_, rfl⟩
  subst eh
  obtain ⟨hskh1, hv⟩ := hv
  show mT g me_fn_rivals (d + 9) 0 0 7 [some (vr 0 0)] [vi y2] h1 _
  refine tr_ireturn (pc := 7) k_fn_rivals_7 rfl rfl ?_
  exact hv
theorem v_lk_howManyAlone_0 {g : mG} {d : Nat}  {h : mH} {Q : Option mV → mH → Prop} (hsk : mSK h) (hv : mT g me_lk_isAnyRead (d + 7) 0 0 0 [some (vr 5 0), none] [] h (fun v h1 => ∃ y2, v = some (vi y2) ∧ mSK h1 ∧ ((¬ y2 = 0 → mT g me_lk_howManyAlone (d + 8) 0 0 13 [some (vr 5 0), some (vi (0 : Int32)), some (vi (0 : Int32))] [] h1 Q) ∧ (y2 = 0 → Q (some (vi (0 : Int32))) h1)))) : mT g me_lk_howManyAlone (d + 8) 0 0 0 [some (vr 5 0), none, none] [] h Q := by
  refine tr_aload_n (pc := 0) 0 k_lk_howManyAlone_0 rfl rfl ?_
  refine tr_callV (pc := 1) (d' := d + 7) (mc' := 0) (ms' := 0) [] k_lk_howManyAlone_1 ca_lk_isAnyRead ml_lk_18 ii_lk_isAnyRead ⟨by decide, rfl⟩ pa_lk_isAnyRead (by omega) (by omega) (by omega) rfl (Nat.le_of_ble_eq_true rfl) (Nat.le_of_ble_eq_true rfl) hv (fun v h9 hv => ?_)
  obtain ⟨y2, rfl, hv⟩ := hv
  obtain ⟨h1, eh⟩ : ∃ z, z = h9 := ⟨_, rfl⟩
  subst eh
  obtain ⟨hskh1, hv⟩ := hv
  show mT g me_lk_howManyAlone (d + 8) 0 0 4 [some (vr 5 0), none, none] [vi y2] h1 _
  refine tr_if_ne (pc := 4) 9 k_lk_howManyAlone_4 (by decide) (fun q => ?_) (fun q => ?_)
  · replace hv := hv.1 q
    refine tr_iconst (pc := 9) (v := 0) k_lk_howManyAlone_9 (by decide) ?_
    refine tr_istore_n (pc := 10) 1 k_lk_howManyAlone_10 rfl (by decide) rfl ?_
    show mT g me_lk_howManyAlone (d + 8) 0 0 11 [some (vr 5 0), some (vi (0 : Int32)), none] [] h1 _
    refine tr_iconst (pc := 11) (v := 0) k_lk_howManyAlone_11 (by decide) ?_
    refine tr_istore_n (pc := 12) 2 k_lk_howManyAlone_12 rfl (by decide) rfl ?_
    show mT g me_lk_howManyAlone (d + 8) 0 0 13 [some (vr 5 0), some (vi (0 : Int32)), some (vi (0 : Int32))] [] h1 _
    exact hv
  · replace hv := hv.2 q
    refine tr_iconst (pc := 7) (v := 0) k_lk_howManyAlone_7 (by decide) ?_
    refine tr_ireturn (pc := 8) k_lk_howManyAlone_8 rfl rfl ?_
    exact hv
theorem v_lk_howManyAlone_13 {g : mG} {d : Nat} (x1 : Int32) (x2 : Int32) {h : mH} {Q : Option mV → mH → Prop} (hsk : mSK h) (hv : (((hI h 2 1 1) ≤ x2 → Q (some (vi x1)) h) ∧ (¬ (hI h 2 1 1) ≤ x2 → (∃ n1, mGet h 1 x2 (some (7, n1)) ∧ mT g me_lk_explainsAlone (d + 7) 0 0 0 [some (vr 5 0), some (vr 7 n1), none, none, none, none] [] h (fun v h2 => ∃ y3, v = some (vi y3) ∧ mSK h2 ∧ ((y3 = 0 → mT g me_lk_howManyAlone (d + 8) 0 0 13 [some (vr 5 0), some (vi (x1 + (0 : Int32))), some (vi (x2 + 1))] [] h2 Q) ∧ (¬ y3 = 0 → mT g me_lk_howManyAlone (d + 8) 0 0 13 [some (vr 5 0), some (vi (x1 + (1 : Int32))), some (vi (x2 + 1))] [] h2 Q))))))) : mT g me_lk_howManyAlone (d + 8) 0 0 13 [some (vr 5 0), some (vi x1), some (vi x2)] [] h Q := by
  refine tr_iload_n (pc := 13) 2 k_lk_howManyAlone_13 rfl rfl ?_
  refine tr_aload_n (pc := 14) 0 k_lk_howManyAlone_14 rfl rfl ?_
  refine tr_getP (pc := 15) k_lk_howManyAlone_15 fl_lk_9 rfl (Eq.trans rfl (hsk.1 5 0 _ rfl)) ?_
  refine tr_getP (pc := 18) k_lk_howManyAlone_18 fl_lk_26 rfl (Eq.trans rfl (hsk.1 1 1 _ rfl)) ?_
  refine tr_callV (pc := 21) (d' := d + 7) (mc' := 0) (ms' := 0) [] k_lk_howManyAlone_21 ca_al_size ml_lk_32 ii_al_size ⟨by decide, rfl⟩ pa_al_size (by omega) (by omega) (by omega) rfl (Nat.le_of_ble_eq_true rfl) (Nat.le_of_ble_eq_true rfl) (Qk := fun v h9 => mT g me_lk_howManyAlone (d + 8) 0 0 24 [some (vr 5 0), some (vi x1), some (vi x2)] (v.toList ++ [vi x2]) h9 _) ?_ (fun _ _ z => z)
  show mT g me_al_size (d + 7) 0 0 0 [some (vr 2 1)] [] h _
  refine tr_aload_n (pc := 0) 0 k_al_size_0 rfl rfl ?_
  refine tr_getIx (pc := 1) k_al_size_1 fl_al_48 rfl rfl ?_
  refine tr_ireturn (pc := 4) k_al_size_4 rfl rfl ?_
  show mT g me_lk_howManyAlone (d + 8) 0 0 24 [some (vr 5 0), some (vi x1), some (vi x2)] [vi (hI h 2 1 1), vi x2] h _
  refine tr_icmp_ge (pc := 24) 62 k_lk_howManyAlone_24 (by decide) (fun q => ?_) (fun q => ?_)
  · replace hv := hv.1 q
    refine tr_iload_n (pc := 62) 1 k_lk_howManyAlone_62 rfl rfl ?_
    refine tr_ireturn (pc := 63) k_lk_howManyAlone_63 rfl rfl ?_
    exact hv
  · replace hv := hv.2 q
    refine tr_iload_n (pc := 27) 1 k_lk_howManyAlone_27 rfl rfl ?_
    refine tr_aload_n (pc := 28) 0 k_lk_howManyAlone_28 rfl rfl ?_
    refine tr_aload_n (pc := 29) 0 k_lk_howManyAlone_29 rfl rfl ?_
    refine tr_getP (pc := 30) k_lk_howManyAlone_30 fl_lk_9 rfl (Eq.trans rfl (hsk.1 5 0 _ rfl)) ?_
    refine tr_getP (pc := 33) k_lk_howManyAlone_33 fl_lk_26 rfl (Eq.trans rfl (hsk.1 1 1 _ rfl)) ?_
    refine tr_iload_n (pc := 36) 2 k_lk_howManyAlone_36 rfl rfl ?_
    obtain ⟨n1, hg, hv⟩ := hv
    refine tr_alget (pc := 37) k_lk_howManyAlone_37 ml_lk_37 (by omega) (Nat.le_of_ble_eq_true rfl) (mGet.up hg rfl rfl) ?_
    refine tr_cast (pc := 40) k_lk_howManyAlone_40 (by decide) cl_lk_41 ?_
    refine tr_callV (pc := 43) (d' := d + 7) (mc' := 0) (ms' := 0) [vr 7 n1] k_lk_howManyAlone_43 ca_lk_explainsAlone ml_lk_43 ii_lk_explainsAlone ⟨by decide, rfl⟩ pa_lk_explainsAlone (by omega) (by omega) (by omega) rfl (Nat.le_of_ble_eq_true rfl) (Nat.le_of_ble_eq_true rfl) hv (fun v h9 hv => ?_)
    obtain ⟨y3, rfl, hv⟩ := hv
    obtain ⟨h2, eh⟩ : ∃ z, z = h9 := ⟨_, rfl⟩
    subst eh
    obtain ⟨hskh2, hv⟩ := hv
    show mT g me_lk_howManyAlone (d + 8) 0 0 46 [some (vr 5 0), some (vi x1), some (vi x2)] [vi y3, vi x1] h2 _
    refine tr_if_eq (pc := 46) 53 k_lk_howManyAlone_46 (by decide) (fun q => ?_) (fun q => ?_)
    · replace hv := hv.1 q
      refine tr_iconst (pc := 53) (v := 0) k_lk_howManyAlone_53 (by decide) ?_
      refine tr_iadd (pc := 54) k_lk_howManyAlone_54 ?_
      refine tr_istore_n (pc := 55) 1 k_lk_howManyAlone_55 rfl (by decide) rfl ?_
      show mT g me_lk_howManyAlone (d + 8) 0 0 56 [some (vr 5 0), some (vi (x1 + (0 : Int32))), some (vi x2)] [] h2 _
      refine tr_iinc (pc := 56) (v := (x2 + 1)) k_lk_howManyAlone_56 rfl rfl (by decide) rfl ?_
      show mT g me_lk_howManyAlone (d + 8) 0 0 59 [some (vr 5 0), some (vi (x1 + (0 : Int32))), some (vi (x2 + 1))] [] h2 _
      refine tr_goto (pc := 59) 13 k_lk_howManyAlone_59 (by decide) ?_
      exact hv
    · replace hv := hv.2 q
      refine tr_iconst (pc := 49) (v := 1) k_lk_howManyAlone_49 (by decide) ?_
      refine tr_goto (pc := 50) 54 k_lk_howManyAlone_50 (by decide) ?_
      refine tr_iadd (pc := 54) k_lk_howManyAlone_54 ?_
      refine tr_istore_n (pc := 55) 1 k_lk_howManyAlone_55 rfl (by decide) rfl ?_
      show mT g me_lk_howManyAlone (d + 8) 0 0 56 [some (vr 5 0), some (vi (x1 + (1 : Int32))), some (vi x2)] [] h2 _
      refine tr_iinc (pc := 56) (v := (x2 + 1)) k_lk_howManyAlone_56 rfl rfl (by decide) rfl ?_
      show mT g me_lk_howManyAlone (d + 8) 0 0 59 [some (vr 5 0), some (vi (x1 + (1 : Int32))), some (vi (x2 + 1))] [] h2 _
      refine tr_goto (pc := 59) 13 k_lk_howManyAlone_59 (by decide) ?_
      exact hv
theorem v_fn_empty_0 {g : mG} {d : Nat} (x1 : Int32) {h : mH} {Q : Option mV → mH → Prop} (hsk : mSK h) (hv : mT g me_ga_jointAt (d + 4) 0 0 0 [some (vr 1 0), some (vi x1)] [] h (fun v h1 => ∃ p2, v = some (vp p2) ∧ mSK h1 ∧ ((p2 = none → mT g me_fn_refuse (d + 4) 0 0 0 [some (vr 0 0), some (vi (-1 : Int32)), none] [] h1 (fun v h4 => ∃ y5, v = some (vi y5) ∧ mSK h4 ∧ Q (some (vi y5)) h4)) ∧ (∀ kq n3, p2 = some (kq, n3) → kq = 7 ∧ ((¬ (hI h1 7 n3 8) = 0 → mT g me_fn_refuse (d + 4) 0 0 0 [some (vr 0 0), some (vi (-3 : Int32)), none] [] h1 (fun v h6 => ∃ y7, v = some (vi y7) ∧ mSK h6 ∧ Q (some (vi y7)) h6)) ∧ ((hI h1 7 n3 8) = 0 → mT g me_ga_mayBeEmptied (d + 4) 0 0 0 [some (vr 1 0), some (vr 7 n3), none, none] [] h1 (fun v h8 => ∃ y9, v = some (vi y9) ∧ mSK h8 ∧ ((¬ y9 = 0 → Q (some (vi (1 : Int32))) (setI h8 7 n3 8 (1 : Int32))) ∧ (y9 = 0 → mT g me_fn_refuse (d + 4) 0 0 0 [some (vr 0 0), some (vi (-3 : Int32)), none] [] h8 (fun v h10 => ∃ y11, v = some (vi y11) ∧ mSK h10 ∧ Q (some (vi y11)) h10)))))))))) : mT g me_fn_empty (d + 5) 0 0 0 [some (vr 0 0), some (vi x1), none] [] h Q := by
  refine tr_aload_n (pc := 0) 0 k_fn_empty_0 rfl rfl ?_
  refine tr_getP (pc := 1) k_fn_empty_1 fl_fn_12 rfl (Eq.trans rfl (hsk.1 0 0 _ rfl)) ?_
  refine tr_iload_n (pc := 4) 1 k_fn_empty_4 rfl rfl ?_
  refine tr_callV (pc := 5) (d' := d + 4) (mc' := 0) (ms' := 0) [vi x1] k_fn_empty_5 ca_ga_jointAt ml_fn_89 ii_ga_jointAt ⟨by decide, rfl⟩ pa_ga_jointAt (by omega) (by omega) (by omega) rfl (Nat.le_of_ble_eq_true rfl) (Nat.le_of_ble_eq_true rfl) hv (fun v h9 hv => ?_)
  obtain ⟨p2, rfl, hv⟩ := hv
  obtain ⟨h1, eh⟩ : ∃ z, z = h9 := ⟨_, rfl⟩
  subst eh
  obtain ⟨hskh1, hv⟩ := hv
  show mT g me_fn_empty (d + 5) 0 0 8 [some (vr 0 0), some (vi x1), none] [vp p2] h1 _
  refine tr_astore_n (pc := 8) 2 k_fn_empty_8 rfl (by decide) rfl ?_
  show mT g me_fn_empty (d + 5) 0 0 9 [some (vr 0 0), some (vi x1), some (vp p2)] [] h1 _
  refine tr_aload_n (pc := 9) 2 k_fn_empty_9 rfl rfl ?_
  rcases p2 with _ | ⟨kq, n3⟩
  · replace hv := hv.1 rfl
    refine tr_ifnonnull (pc := 10) 19 k_fn_empty_10 (by decide) (fun _ => ?_) (fun _ _ q => by cases q)
    refine tr_aload_n (pc := 13) 0 k_fn_empty_13 rfl rfl ?_
    refine tr_iconst (pc := 14) (v := -1) k_fn_empty_14 (by decide) ?_
    refine tr_callV (pc := 15) (d' := d + 4) (mc' := 0) (ms' := 0) [vi (-1 : Int32)] k_fn_empty_15 ca_fn_refuse ml_fn_56 ii_fn_refuse ⟨by decide, rfl⟩ pa_fn_refuse (by omega) (by omega) (by omega) rfl (Nat.le_of_ble_eq_true rfl) (Nat.le_of_ble_eq_true rfl) hv (fun v h9 hv => ?_)
    obtain ⟨y5, rfl, hv⟩ := hv
    obtain ⟨h4, eh⟩ : ∃ z, z = h9 := ⟨_, rfl⟩
    subst eh
    obtain ⟨hskh4, hv⟩ := hv
    show mT g me_fn_empty (d + 5) 0 0 18 [some (vr 0 0), some (vi x1), some (vn)] [vi y5] h4 _
    refine tr_ireturn (pc := 18) k_fn_empty_18 rfl rfl ?_
    exact hv
  · have hw := hv.2 kq n3 rfl
    clear hv
    obtain ⟨tq, hv⟩ := hw
    subst tq
    refine tr_ifnonnull (pc := 10) 19 k_fn_empty_10 (by decide) (fun q => by cases q) (fun _ _ _ => ?_)
    refine tr_aload_n (pc := 19) 2 k_fn_empty_19 rfl rfl ?_
    refine tr_getIx (pc := 20) k_fn_empty_20 fl_fn_100 rfl rfl ?_
    refine tr_if_ne (pc := 23) 37 k_fn_empty_23 (by decide) (fun q => ?_) (fun q => ?_)
    · replace hv := hv.1 q
      refine tr_aload_n (pc := 37) 0 k_fn_empty_37 rfl rfl ?_
      refine tr_bipush (pc := 38) (v := -3) k_fn_empty_38 (by decide) ?_
      refine tr_callV (pc := 40) (d' := d + 4) (mc' := 0) (ms' := 0) [vi (-3 : Int32)] k_fn_empty_40 ca_fn_refuse ml_fn_56 ii_fn_refuse ⟨by decide, rfl⟩ pa_fn_refuse (by omega) (by omega) (by omega) rfl (Nat.le_of_ble_eq_true rfl) (Nat.le_of_ble_eq_true rfl) hv (fun v h9 hv => ?_)
      obtain ⟨y7, rfl, hv⟩ := hv
      obtain ⟨h6, eh⟩ : ∃ z, z = h9 := ⟨_, rfl⟩
      subst eh
      obtain ⟨hskh6, hv⟩ := hv
      show mT g me_fn_empty (d + 5) 0 0 43 [some (vr 0 0), some (vi x1), some (vr 7 n3)] [vi y7] h6 _
      refine tr_ireturn (pc := 43) k_fn_empty_43 rfl rfl ?_
      exact hv
    · replace hv := hv.2 q
      refine tr_aload_n (pc := 26) 0 k_fn_empty_26 rfl rfl ?_
      refine tr_getP (pc := 27) k_fn_empty_27 fl_fn_12 rfl (Eq.trans rfl (hskh1.1 0 0 _ rfl)) ?_
      refine tr_aload_n (pc := 30) 2 k_fn_empty_30 rfl rfl ?_
      refine tr_callV (pc := 31) (d' := d + 4) (mc' := 0) (ms' := 0) [vr 7 n3] k_fn_empty_31 ca_ga_mayBeEmptied ml_fn_259 ii_ga_mayBeEmptied ⟨by decide, rfl⟩ pa_ga_mayBeEmptied (by omega) (by omega) (by omega) rfl (Nat.le_of_ble_eq_true rfl) (Nat.le_of_ble_eq_true rfl) hv (fun v h9 hv => ?_)
      obtain ⟨y9, rfl, hv⟩ := hv
      obtain ⟨h8, eh⟩ : ∃ z, z = h9 := ⟨_, rfl⟩
      subst eh
      obtain ⟨hskh8, hv⟩ := hv
      show mT g me_fn_empty (d + 5) 0 0 34 [some (vr 0 0), some (vi x1), some (vr 7 n3)] [vi y9] h8 _
      refine tr_if_ne (pc := 34) 44 k_fn_empty_34 (by decide) (fun q => ?_) (fun q => ?_)
      · replace hv := hv.1 q
        refine tr_aload_n (pc := 44) 2 k_fn_empty_44 rfl rfl ?_
        refine tr_iconst (pc := 45) (v := 1) k_fn_empty_45 (by decide) ?_
        refine tr_putI (pc := 46) k_fn_empty_46 fl_fn_100 (Or.inl rfl) rfl ⟨rfl, rfl⟩ ?_
        refine tr_iconst (pc := 49) (v := 1) k_fn_empty_49 (by decide) ?_
        refine tr_ireturn (pc := 50) k_fn_empty_50 rfl rfl ?_
        exact hv
      · replace hv := hv.2 q
        refine tr_aload_n (pc := 37) 0 k_fn_empty_37 rfl rfl ?_
        refine tr_bipush (pc := 38) (v := -3) k_fn_empty_38 (by decide) ?_
        refine tr_callV (pc := 40) (d' := d + 4) (mc' := 0) (ms' := 0) [vi (-3 : Int32)] k_fn_empty_40 ca_fn_refuse ml_fn_56 ii_fn_refuse ⟨by decide, rfl⟩ pa_fn_refuse (by omega) (by omega) (by omega) rfl (Nat.le_of_ble_eq_true rfl) (Nat.le_of_ble_eq_true rfl) hv (fun v h9 hv => ?_)
        obtain ⟨y11, rfl, hv⟩ := hv
        obtain ⟨h10, eh⟩ : ∃ z, z = h9 := ⟨_, rfl⟩
        subst eh
        obtain ⟨hskh10, hv⟩ := hv
        show mT g me_fn_empty (d + 5) 0 0 43 [some (vr 0 0), some (vi x1), some (vr 7 n3)] [vi y11] h10 _
        refine tr_ireturn (pc := 43) k_fn_empty_43 rfl rfl ?_
        exact hv
theorem v_ga_mayBeEmptied_0 {g : mG} {d : Nat} (a1 : Nat) {h : mH} {Q : Option mV → mH → Prop} (hsk : mSK h) (hv : mT g me_ga_mayBeEmptied (d + 4) 0 0 2 [some (vr 1 0), some (vr 7 a1), some (vi (0 : Int32)), none] [] h Q) : mT g me_ga_mayBeEmptied (d + 4) 0 0 0 [some (vr 1 0), some (vr 7 a1), none, none] [] h Q := by
  refine tr_iconst (pc := 0) (v := 0) k_ga_mayBeEmptied_0 (by decide) ?_
  refine tr_istore_n (pc := 1) 2 k_ga_mayBeEmptied_1 rfl (by decide) rfl ?_
  show mT g me_ga_mayBeEmptied (d + 4) 0 0 2 [some (vr 1 0), some (vr 7 a1), some (vi (0 : Int32)), none] [] h _
  exact hv
theorem v_ga_mayBeEmptied_2 {g : mG} {d : Nat} (a1 : Nat) (x2 : Int32) (o3 : Option mV) {h : mH} {Q : Option mV → mH → Prop} (hsk : mSK h) (hv : (((hI h 2 1 1) ≤ x2 → mT g me_jn_drawAmong (d + 3) 0 0 0 [some (vr 7 a1), some (vi (hI h 1 0 3))] [] h (fun v h1 => ∃ y2, v = some (vi y2) ∧ mSK h1 ∧ ((¬ y2 = 0 → Q (some (vi (0 : Int32))) h1) ∧ (y2 = 0 → Q (some (vi (1 : Int32))) h1)))) ∧ (¬ (hI h 2 1 1) ≤ x2 → (∃ n3, mGet h 1 x2 (some (7, n3)) ∧ ((hP h 7 n3 2 = none → ((¬ none = some (7, a1) → mT g me_ga_mayBeEmptied (d + 4) 0 0 2 [some (vr 1 0), some (vr 7 a1), some (vi (x2 + 1)), some (vr 7 n3)] [] h Q) ∧ (none = some (7, a1) → ((¬ (hI h 7 n3 8) = 0 → mT g me_ga_mayBeEmptied (d + 4) 0 0 2 [some (vr 1 0), some (vr 7 a1), some (vi (x2 + 1)), some (vr 7 n3)] [] h Q) ∧ ((hI h 7 n3 8) = 0 → Q (some (vi (0 : Int32))) h))))) ∧ (∀ kq n4, hP h 7 n3 2 = some (kq, n4) → kq = 7 ∧ ((¬ some (7, n4) = some (7, a1) → mT g me_ga_mayBeEmptied (d + 4) 0 0 2 [some (vr 1 0), some (vr 7 a1), some (vi (x2 + 1)), some (vr 7 n3)] [] h Q) ∧ (some (7, n4) = some (7, a1) → ((¬ (hI h 7 n3 8) = 0 → mT g me_ga_mayBeEmptied (d + 4) 0 0 2 [some (vr 1 0), some (vr 7 a1), some (vi (x2 + 1)), some (vr 7 n3)] [] h Q) ∧ ((hI h 7 n3 8) = 0 → Q (some (vi (0 : Int32))) h)))))))))) : mT g me_ga_mayBeEmptied (d + 4) 0 0 2 [some (vr 1 0), some (vr 7 a1), some (vi x2), o3] [] h Q := by
  refine tr_iload_n (pc := 2) 2 k_ga_mayBeEmptied_2 rfl rfl ?_
  refine tr_aload_n (pc := 3) 0 k_ga_mayBeEmptied_3 rfl rfl ?_
  refine tr_getP (pc := 4) k_ga_mayBeEmptied_4 fl_ga_18 rfl (Eq.trans rfl (hsk.1 1 1 _ rfl)) ?_
  refine tr_callV (pc := 7) (d' := d + 3) (mc' := 0) (ms' := 0) [] k_ga_mayBeEmptied_7 ca_al_size ml_ga_24 ii_al_size ⟨by decide, rfl⟩ pa_al_size (by omega) (by omega) (by omega) rfl (Nat.le_of_ble_eq_true rfl) (Nat.le_of_ble_eq_true rfl) (Qk := fun v h9 => mT g me_ga_mayBeEmptied (d + 4) 0 0 10 [some (vr 1 0), some (vr 7 a1), some (vi x2), o3] (v.toList ++ [vi x2]) h9 _) ?_ (fun _ _ z => z)
  show mT g me_al_size (d + 3) 0 0 0 [some (vr 2 1)] [] h _
  refine tr_aload_n (pc := 0) 0 k_al_size_0 rfl rfl ?_
  refine tr_getIx (pc := 1) k_al_size_1 fl_al_48 rfl rfl ?_
  refine tr_ireturn (pc := 4) k_al_size_4 rfl rfl ?_
  show mT g me_ga_mayBeEmptied (d + 4) 0 0 10 [some (vr 1 0), some (vr 7 a1), some (vi x2), o3] [vi (hI h 2 1 1), vi x2] h _
  refine tr_icmp_ge (pc := 10) 48 k_ga_mayBeEmptied_10 (by decide) (fun q => ?_) (fun q => ?_)
  · replace hv := hv.1 q
    refine tr_aload_n (pc := 48) 1 k_ga_mayBeEmptied_48 rfl rfl ?_
    refine tr_aload_n (pc := 49) 0 k_ga_mayBeEmptied_49 rfl rfl ?_
    refine tr_getIx (pc := 50) k_ga_mayBeEmptied_50 fl_ga_38 rfl rfl ?_
    refine tr_callV (pc := 53) (d' := d + 3) (mc' := 0) (ms' := 0) [vi (hI h 1 0 3)] k_ga_mayBeEmptied_53 ca_jn_drawAmong ml_ga_56 ii_jn_drawAmong ⟨by decide, rfl⟩ pa_jn_drawAmong (by omega) (by omega) (by omega) rfl (Nat.le_of_ble_eq_true rfl) (Nat.le_of_ble_eq_true rfl) hv (fun v h9 hv => ?_)
    obtain ⟨y2, rfl, hv⟩ := hv
    obtain ⟨h1, eh⟩ : ∃ z, z = h9 := ⟨_, rfl⟩
    subst eh
    obtain ⟨hskh1, hv⟩ := hv
    show mT g me_ga_mayBeEmptied (d + 4) 0 0 56 [some (vr 1 0), some (vr 7 a1), some (vi x2), o3] [vi y2] h1 _
    refine tr_if_ne (pc := 56) 63 k_ga_mayBeEmptied_56 (by decide) (fun q => ?_) (fun q => ?_)
    · replace hv := hv.1 q
      refine tr_iconst (pc := 63) (v := 0) k_ga_mayBeEmptied_63 (by decide) ?_
      refine tr_ireturn (pc := 64) k_ga_mayBeEmptied_64 rfl rfl ?_
      exact hv
    · replace hv := hv.2 q
      refine tr_iconst (pc := 59) (v := 1) k_ga_mayBeEmptied_59 (by decide) ?_
      refine tr_goto (pc := 60) 64 k_ga_mayBeEmptied_60 (by decide) ?_
      refine tr_ireturn (pc := 64) k_ga_mayBeEmptied_64 rfl rfl ?_
      exact hv
  · replace hv := hv.2 q
    refine tr_aload_n (pc := 13) 0 k_ga_mayBeEmptied_13 rfl rfl ?_
    refine tr_getP (pc := 14) k_ga_mayBeEmptied_14 fl_ga_18 rfl (Eq.trans rfl (hsk.1 1 1 _ rfl)) ?_
    refine tr_iload_n (pc := 17) 2 k_ga_mayBeEmptied_17 rfl rfl ?_
    obtain ⟨n3, hg, hv⟩ := hv
    refine tr_alget (pc := 18) k_ga_mayBeEmptied_18 ml_ga_28 (by omega) (Nat.le_of_ble_eq_true rfl) (mGet.up hg rfl rfl) ?_
    refine tr_cast (pc := 21) k_ga_mayBeEmptied_21 (by decide) cl_ga_34 ?_
    refine tr_astore_n (pc := 24) 3 k_ga_mayBeEmptied_24 rfl (by decide) rfl ?_
    show mT g me_ga_mayBeEmptied (d + 4) 0 0 25 [some (vr 1 0), some (vr 7 a1), some (vi x2), some (vr 7 n3)] [] h _
    refine tr_aload_n (pc := 25) 3 k_ga_mayBeEmptied_25 rfl rfl ?_
    rcases e5 : hP h 7 n3 2 with _ | ⟨kq, n4⟩
    · replace hv := hv.1 e5
      refine tr_getP (pc := 26) k_ga_mayBeEmptied_26 fl_ga_73 rfl (Eq.trans rfl e5) ?_
      refine tr_aload_n (pc := 29) 1 k_ga_mayBeEmptied_29 rfl rfl ?_
      refine tr_acmp_ne (pc := 30) (r := none) (r' := some (7, a1)) 42 k_ga_mayBeEmptied_30 (by decide) (fun a b e1 e2 => by cases e1; cases e2; exact Or.inl ⟨by decide, by decide⟩) (fun q => ?_) (fun q => ?_)
      · replace hv := hv.1 q
        refine tr_iinc (pc := 42) (v := (x2 + 1)) k_ga_mayBeEmptied_42 rfl rfl (by decide) rfl ?_
        show mT g me_ga_mayBeEmptied (d + 4) 0 0 45 [some (vr 1 0), some (vr 7 a1), some (vi (x2 + 1)), some (vr 7 n3)] [] h _
        refine tr_goto (pc := 45) 2 k_ga_mayBeEmptied_45 (by decide) ?_
        exact hv
      · replace hv := hv.2 q
        refine tr_aload_n (pc := 33) 3 k_ga_mayBeEmptied_33 rfl rfl ?_
        refine tr_getIx (pc := 34) k_ga_mayBeEmptied_34 fl_ga_49 rfl rfl ?_
        refine tr_if_ne (pc := 37) 42 k_ga_mayBeEmptied_37 (by decide) (fun q => ?_) (fun q => ?_)
        · replace hv := hv.1 q
          refine tr_iinc (pc := 42) (v := (x2 + 1)) k_ga_mayBeEmptied_42 rfl rfl (by decide) rfl ?_
          show mT g me_ga_mayBeEmptied (d + 4) 0 0 45 [some (vr 1 0), some (vr 7 a1), some (vi (x2 + 1)), some (vr 7 n3)] [] h _
          refine tr_goto (pc := 45) 2 k_ga_mayBeEmptied_45 (by decide) ?_
          exact hv
        · replace hv := hv.2 q
          refine tr_iconst (pc := 40) (v := 0) k_ga_mayBeEmptied_40 (by decide) ?_
          refine tr_ireturn (pc := 41) k_ga_mayBeEmptied_41 rfl rfl ?_
          exact hv
    · have hw := hv.2 kq n4 e5
      clear hv
      obtain ⟨tq, hv⟩ := hw
      subst tq
      refine tr_getP (pc := 26) k_ga_mayBeEmptied_26 fl_ga_73 rfl (Eq.trans rfl e5) ?_
      refine tr_aload_n (pc := 29) 1 k_ga_mayBeEmptied_29 rfl rfl ?_
      refine tr_acmp_ne (pc := 30) (r := some (7, n4)) (r' := some (7, a1)) 42 k_ga_mayBeEmptied_30 (by decide) (fun a b e1 e2 => by cases e1; cases e2; exact Or.inl ⟨by decide, by decide⟩) (fun q => ?_) (fun q => ?_)
      · replace hv := hv.1 q
        refine tr_iinc (pc := 42) (v := (x2 + 1)) k_ga_mayBeEmptied_42 rfl rfl (by decide) rfl ?_
        show mT g me_ga_mayBeEmptied (d + 4) 0 0 45 [some (vr 1 0), some (vr 7 a1), some (vi (x2 + 1)), some (vr 7 n3)] [] h _
        refine tr_goto (pc := 45) 2 k_ga_mayBeEmptied_45 (by decide) ?_
        exact hv
      · replace hv := hv.2 q
        refine tr_aload_n (pc := 33) 3 k_ga_mayBeEmptied_33 rfl rfl ?_
        refine tr_getIx (pc := 34) k_ga_mayBeEmptied_34 fl_ga_49 rfl rfl ?_
        refine tr_if_ne (pc := 37) 42 k_ga_mayBeEmptied_37 (by decide) (fun q => ?_) (fun q => ?_)
        · replace hv := hv.1 q
          refine tr_iinc (pc := 42) (v := (x2 + 1)) k_ga_mayBeEmptied_42 rfl rfl (by decide) rfl ?_
          show mT g me_ga_mayBeEmptied (d + 4) 0 0 45 [some (vr 1 0), some (vr 7 a1), some (vi (x2 + 1)), some (vr 7 n3)] [] h _
          refine tr_goto (pc := 45) 2 k_ga_mayBeEmptied_45 (by decide) ?_
          exact hv
        · replace hv := hv.2 q
          refine tr_iconst (pc := 40) (v := 0) k_ga_mayBeEmptied_40 (by decide) ?_
          refine tr_ireturn (pc := 41) k_ga_mayBeEmptied_41 rfl rfl ?_
          exact hv
theorem v_fn_fill_0 {g : mG} {d : Nat} (x1 : Int32) {h : mH} {Q : Option mV → mH → Prop} (hsk : mSK h) (hv : mT g me_ga_jointAt (d + 4) 0 0 0 [some (vr 1 0), some (vi x1)] [] h (fun v h1 => ∃ p2, v = some (vp p2) ∧ mSK h1 ∧ ((p2 = none → mT g me_fn_refuse (d + 4) 0 0 0 [some (vr 0 0), some (vi (-1 : Int32)), none] [] h1 (fun v h4 => ∃ y5, v = some (vi y5) ∧ mSK h4 ∧ Q (some (vi y5)) h4)) ∧ (∀ kq n3, p2 = some (kq, n3) → kq = 7 ∧ (((hI h1 7 n3 8) = 0 → mT g me_fn_refuse (d + 4) 0 0 0 [some (vr 0 0), some (vi (-3 : Int32)), none] [] h1 (fun v h6 => ∃ y7, v = some (vi y7) ∧ mSK h6 ∧ Q (some (vi y7)) h6)) ∧ (¬ (hI h1 7 n3 8) = 0 → ((hP h1 7 n3 2 = none → Q (some (vi (1 : Int32))) (setI h1 7 n3 8 (0 : Int32))) ∧ (∀ kq n8, hP h1 7 n3 2 = some (kq, n8) → kq = 7 ∧ (((hI h1 7 n8 8) = 0 → Q (some (vi (1 : Int32))) (setI h1 7 n3 8 (0 : Int32))) ∧ (¬ (hI h1 7 n8 8) = 0 → mT g me_fn_refuse (d + 4) 0 0 0 [some (vr 0 0), some (vi (-3 : Int32)), none] [] h1 (fun v h10 => ∃ y11, v = some (vi y11) ∧ mSK h10 ∧ Q (some (vi y11)) h10))))))))))) : mT g me_fn_fill (d + 5) 0 0 0 [some (vr 0 0), some (vi x1), none] [] h Q := by
  refine tr_aload_n (pc := 0) 0 k_fn_fill_0 rfl rfl ?_
  refine tr_getP (pc := 1) k_fn_fill_1 fl_fn_12 rfl (Eq.trans rfl (hsk.1 0 0 _ rfl)) ?_
  refine tr_iload_n (pc := 4) 1 k_fn_fill_4 rfl rfl ?_
  refine tr_callV (pc := 5) (d' := d + 4) (mc' := 0) (ms' := 0) [vi x1] k_fn_fill_5 ca_ga_jointAt ml_fn_89 ii_ga_jointAt ⟨by decide, rfl⟩ pa_ga_jointAt (by omega) (by omega) (by omega) rfl (Nat.le_of_ble_eq_true rfl) (Nat.le_of_ble_eq_true rfl) hv (fun v h9 hv => ?_)
  obtain ⟨p2, rfl, hv⟩ := hv
  obtain ⟨h1, eh⟩ : ∃ z, z = h9 := ⟨_, rfl⟩
  subst eh
  obtain ⟨hskh1, hv⟩ := hv
  show mT g me_fn_fill (d + 5) 0 0 8 [some (vr 0 0), some (vi x1), none] [vp p2] h1 _
  refine tr_astore_n (pc := 8) 2 k_fn_fill_8 rfl (by decide) rfl ?_
  show mT g me_fn_fill (d + 5) 0 0 9 [some (vr 0 0), some (vi x1), some (vp p2)] [] h1 _
  refine tr_aload_n (pc := 9) 2 k_fn_fill_9 rfl rfl ?_
  rcases p2 with _ | ⟨kq, n3⟩
  · replace hv := hv.1 rfl
    refine tr_ifnonnull (pc := 10) 19 k_fn_fill_10 (by decide) (fun _ => ?_) (fun _ _ q => by cases q)
    refine tr_aload_n (pc := 13) 0 k_fn_fill_13 rfl rfl ?_
    refine tr_iconst (pc := 14) (v := -1) k_fn_fill_14 (by decide) ?_
    refine tr_callV (pc := 15) (d' := d + 4) (mc' := 0) (ms' := 0) [vi (-1 : Int32)] k_fn_fill_15 ca_fn_refuse ml_fn_56 ii_fn_refuse ⟨by decide, rfl⟩ pa_fn_refuse (by omega) (by omega) (by omega) rfl (Nat.le_of_ble_eq_true rfl) (Nat.le_of_ble_eq_true rfl) hv (fun v h9 hv => ?_)
    obtain ⟨y5, rfl, hv⟩ := hv
    obtain ⟨h4, eh⟩ : ∃ z, z = h9 := ⟨_, rfl⟩
    subst eh
    obtain ⟨hskh4, hv⟩ := hv
    show mT g me_fn_fill (d + 5) 0 0 18 [some (vr 0 0), some (vi x1), some (vn)] [vi y5] h4 _
    refine tr_ireturn (pc := 18) k_fn_fill_18 rfl rfl ?_
    exact hv
  · have hw := hv.2 kq n3 rfl
    clear hv
    obtain ⟨tq, hv⟩ := hw
    subst tq
    refine tr_ifnonnull (pc := 10) 19 k_fn_fill_10 (by decide) (fun q => by cases q) (fun _ _ _ => ?_)
    refine tr_aload_n (pc := 19) 2 k_fn_fill_19 rfl rfl ?_
    refine tr_getIx (pc := 20) k_fn_fill_20 fl_fn_100 rfl rfl ?_
    refine tr_if_eq (pc := 23) 43 k_fn_fill_23 (by decide) (fun q => ?_) (fun q => ?_)
    · replace hv := hv.1 q
      refine tr_aload_n (pc := 43) 0 k_fn_fill_43 rfl rfl ?_
      refine tr_bipush (pc := 44) (v := -3) k_fn_fill_44 (by decide) ?_
      refine tr_callV (pc := 46) (d' := d + 4) (mc' := 0) (ms' := 0) [vi (-3 : Int32)] k_fn_fill_46 ca_fn_refuse ml_fn_56 ii_fn_refuse ⟨by decide, rfl⟩ pa_fn_refuse (by omega) (by omega) (by omega) rfl (Nat.le_of_ble_eq_true rfl) (Nat.le_of_ble_eq_true rfl) hv (fun v h9 hv => ?_)
      obtain ⟨y7, rfl, hv⟩ := hv
      obtain ⟨h6, eh⟩ : ∃ z, z = h9 := ⟨_, rfl⟩
      subst eh
      obtain ⟨hskh6, hv⟩ := hv
      show mT g me_fn_fill (d + 5) 0 0 49 [some (vr 0 0), some (vi x1), some (vr 7 n3)] [vi y7] h6 _
      refine tr_ireturn (pc := 49) k_fn_fill_49 rfl rfl ?_
      exact hv
    · replace hv := hv.2 q
      refine tr_aload_n (pc := 26) 2 k_fn_fill_26 rfl rfl ?_
      rcases e9 : hP h1 7 n3 2 with _ | ⟨kq, n8⟩
      · replace hv := hv.1 e9
        refine tr_getP (pc := 27) k_fn_fill_27 fl_fn_263 rfl (Eq.trans rfl e9) ?_
        refine tr_ifnull (pc := 30) 50 k_fn_fill_30 (by decide) (fun _ => ?_) (fun _ _ q => by cases q)
        refine tr_aload_n (pc := 50) 2 k_fn_fill_50 rfl rfl ?_
        refine tr_iconst (pc := 51) (v := 0) k_fn_fill_51 (by decide) ?_
        refine tr_putI (pc := 52) k_fn_fill_52 fl_fn_100 (Or.inl rfl) rfl ⟨rfl, rfl⟩ ?_
        refine tr_iconst (pc := 55) (v := 1) k_fn_fill_55 (by decide) ?_
        refine tr_ireturn (pc := 56) k_fn_fill_56 rfl rfl ?_
        exact hv
      · have hw := hv.2 kq n8 e9
        clear hv
        obtain ⟨tq, hv⟩ := hw
        subst tq
        refine tr_getP (pc := 27) k_fn_fill_27 fl_fn_263 rfl (Eq.trans rfl e9) ?_
        refine tr_ifnull (pc := 30) 50 k_fn_fill_30 (by decide) (fun q => by cases q) (fun _ _ _ => ?_)
        refine tr_aload_n (pc := 33) 2 k_fn_fill_33 rfl rfl ?_
        refine tr_getP (pc := 34) k_fn_fill_34 fl_fn_263 rfl (Eq.trans rfl e9) ?_
        refine tr_getIx (pc := 37) k_fn_fill_37 fl_fn_100 rfl rfl ?_
        refine tr_if_eq (pc := 40) 50 k_fn_fill_40 (by decide) (fun q => ?_) (fun q => ?_)
        · replace hv := hv.1 q
          refine tr_aload_n (pc := 50) 2 k_fn_fill_50 rfl rfl ?_
          refine tr_iconst (pc := 51) (v := 0) k_fn_fill_51 (by decide) ?_
          refine tr_putI (pc := 52) k_fn_fill_52 fl_fn_100 (Or.inl rfl) rfl ⟨rfl, rfl⟩ ?_
          refine tr_iconst (pc := 55) (v := 1) k_fn_fill_55 (by decide) ?_
          refine tr_ireturn (pc := 56) k_fn_fill_56 rfl rfl ?_
          exact hv
        · replace hv := hv.2 q
          refine tr_aload_n (pc := 43) 0 k_fn_fill_43 rfl rfl ?_
          refine tr_bipush (pc := 44) (v := -3) k_fn_fill_44 (by decide) ?_
          refine tr_callV (pc := 46) (d' := d + 4) (mc' := 0) (ms' := 0) [vi (-3 : Int32)] k_fn_fill_46 ca_fn_refuse ml_fn_56 ii_fn_refuse ⟨by decide, rfl⟩ pa_fn_refuse (by omega) (by omega) (by omega) rfl (Nat.le_of_ble_eq_true rfl) (Nat.le_of_ble_eq_true rfl) hv (fun v h9 hv => ?_)
          obtain ⟨y11, rfl, hv⟩ := hv
          obtain ⟨h10, eh⟩ : ∃ z, z = h9 := ⟨_, rfl⟩
          subst eh
          obtain ⟨hskh10, hv⟩ := hv
          show mT g me_fn_fill (d + 5) 0 0 49 [some (vr 0 0), some (vi x1), some (vr 7 n3)] [vi y11] h10 _
          refine tr_ireturn (pc := 49) k_fn_fill_49 rfl rfl ?_
          exact hv
theorem v_fn_order_0 {g : mG} {d : Nat} (x1 : Int32) {h : mH} {Q : Option mV → mH → Prop} (hsk : mSK h) (hv : mT g me_ga_jointInOrder (d + 5) 0 0 0 [some (vr 1 0), some (vi x1), none, none] [] h (fun v h1 => ∃ y2, v = some (vi y2) ∧ mSK h1 ∧ Q (some (vi y2)) h1)) : mT g me_fn_order (d + 6) 0 0 0 [some (vr 0 0), some (vi x1)] [] h Q := by
  refine tr_aload_n (pc := 0) 0 k_fn_order_0 rfl rfl ?_
  refine tr_getP (pc := 1) k_fn_order_1 fl_fn_12 rfl (Eq.trans rfl (hsk.1 0 0 _ rfl)) ?_
  refine tr_iload_n (pc := 4) 1 k_fn_order_4 rfl rfl ?_
  refine tr_callV (pc := 5) (d' := d + 5) (mc' := 0) (ms' := 0) [vi x1] k_fn_order_5 ca_ga_jointInOrder ml_fn_266 ii_ga_jointInOrder ⟨by decide, rfl⟩ pa_ga_jointInOrder (by omega) (by omega) (by omega) rfl (Nat.le_of_ble_eq_true rfl) (Nat.le_of_ble_eq_true rfl) hv (fun v h9 hv => ?_)
  obtain ⟨y2, rfl, hv⟩ := hv
  obtain ⟨h1, eh⟩ : ∃ z, z = h9 := ⟨_, rfl⟩
  subst eh
  obtain ⟨hskh1, hv⟩ := hv
  show mT g me_fn_order (d + 6) 0 0 8 [some (vr 0 0), some (vi x1)] [vi y2] h1 _
  refine tr_ireturn (pc := 8) k_fn_order_8 rfl rfl ?_
  exact hv
theorem v_ga_jointInOrder_0 {g : mG} {d : Nat} (x1 : Int32) {h : mH} {Q : Option mV → mH → Prop} (hsk : mSK h) (hv : mT g me_ga_beginOrder (d + 4) 0 0 0 [some (vr 1 0), none, none] [] h (fun v h1 => v = none ∧ mSK h1 ∧ mT g me_ga_jointInOrder (d + 5) 0 0 6 [some (vr 1 0), some (vi x1), some (vi (0 : Int32)), none] [] h1 Q)) : mT g me_ga_jointInOrder (d + 5) 0 0 0 [some (vr 1 0), some (vi x1), none, none] [] h Q := by
  refine tr_aload_n (pc := 0) 0 k_ga_jointInOrder_0 rfl rfl ?_
  refine tr_callV (pc := 1) (d' := d + 4) (mc' := 0) (ms' := 0) [] k_ga_jointInOrder_1 ca_ga_beginOrder ml_ga_85 ii_ga_beginOrder ⟨by decide, rfl⟩ pa_ga_beginOrder (by omega) (by omega) (by omega) rfl (Nat.le_of_ble_eq_true rfl) (Nat.le_of_ble_eq_true rfl) hv (fun v h9 hv => ?_)
  obtain ⟨rfl, hv⟩ := hv
  obtain ⟨h1, eh⟩ : ∃ z, z = h9 := ⟨_, rfl⟩
  subst eh
  obtain ⟨hskh1, hv⟩ := hv
  show mT g me_ga_jointInOrder (d + 5) 0 0 4 [some (vr 1 0), some (vi x1), none, none] [] h1 _
  refine tr_iconst (pc := 4) (v := 0) k_ga_jointInOrder_4 (by decide) ?_
  refine tr_istore_n (pc := 5) 2 k_ga_jointInOrder_5 rfl (by decide) rfl ?_
  show mT g me_ga_jointInOrder (d + 5) 0 0 6 [some (vr 1 0), some (vi x1), some (vi (0 : Int32)), none] [] h1 _
  exact hv
theorem v_ga_jointInOrder_6 {g : mG} {d : Nat} (x1 : Int32) (x2 : Int32) (o3 : Option mV) {h : mH} {Q : Option mV → mH → Prop} (hsk : mSK h) (hv : (((hI h 2 1 1) ≤ x2 → Q (some (vi (-9 : Int32))) h) ∧ (¬ (hI h 2 1 1) ≤ x2 → mT g me_ga_nextInOrder (d + 4) 0 0 0 [some (vr 1 0), none, none, none, none] [] h (fun v h1 => ∃ p2, v = some (vp p2) ∧ mSK h1 ∧ ((p2 = none → Q (some (vi (-9 : Int32))) h1) ∧ (∀ kq n3, p2 = some (kq, n3) → kq = 7 ∧ ((¬ x2 = x1 → ((hP h1 7 n3 2 = none → mT g me_ga_jointInOrder (d + 5) 0 0 6 [some (vr 1 0), some (vi x1), some (vi (x2 + 1)), some (vr 7 n3)] [] (setI h1 7 n3 12 (1 : Int32)) Q) ∧ (∀ kq n4, hP h1 7 n3 2 = some (kq, n4) → kq = 7 ∧ mT g me_ga_jointInOrder (d + 5) 0 0 6 [some (vr 1 0), some (vi x1), some (vi (x2 + 1)), some (vr 7 n3)] [] (setI (setI h1 7 n3 12 (1 : Int32)) 7 n4 13 ((hI h1 7 n4 13) - (1 : Int32))) Q))) ∧ (x2 = x1 → Q (some (vi (hI h1 7 n3 0))) h1)))))))) : mT g me_ga_jointInOrder (d + 5) 0 0 6 [some (vr 1 0), some (vi x1), some (vi x2), o3] [] h Q := by
  refine tr_iload_n (pc := 6) 2 k_ga_jointInOrder_6 rfl rfl ?_
  refine tr_aload_n (pc := 7) 0 k_ga_jointInOrder_7 rfl rfl ?_
  refine tr_getP (pc := 8) k_ga_jointInOrder_8 fl_ga_18 rfl (Eq.trans rfl (hsk.1 1 1 _ rfl)) ?_
  refine tr_callV (pc := 11) (d' := d + 4) (mc' := 0) (ms' := 0) [] k_ga_jointInOrder_11 ca_al_size ml_ga_24 ii_al_size ⟨by decide, rfl⟩ pa_al_size (by omega) (by omega) (by omega) rfl (Nat.le_of_ble_eq_true rfl) (Nat.le_of_ble_eq_true rfl) (Qk := fun v h9 => mT g me_ga_jointInOrder (d + 5) 0 0 14 [some (vr 1 0), some (vi x1), some (vi x2), o3] (v.toList ++ [vi x2]) h9 _) ?_ (fun _ _ z => z)
  show mT g me_al_size (d + 4) 0 0 0 [some (vr 2 1)] [] h _
  refine tr_aload_n (pc := 0) 0 k_al_size_0 rfl rfl ?_
  refine tr_getIx (pc := 1) k_al_size_1 fl_al_48 rfl rfl ?_
  refine tr_ireturn (pc := 4) k_al_size_4 rfl rfl ?_
  show mT g me_ga_jointInOrder (d + 5) 0 0 14 [some (vr 1 0), some (vi x1), some (vi x2), o3] [vi (hI h 2 1 1), vi x2] h _
  refine tr_icmp_ge (pc := 14) 70 k_ga_jointInOrder_14 (by decide) (fun q => ?_) (fun q => ?_)
  · replace hv := hv.1 q
    refine tr_bipush (pc := 70) (v := -9) k_ga_jointInOrder_70 (by decide) ?_
    refine tr_ireturn (pc := 72) k_ga_jointInOrder_72 rfl rfl ?_
    exact hv
  · replace hv := hv.2 q
    refine tr_aload_n (pc := 17) 0 k_ga_jointInOrder_17 rfl rfl ?_
    refine tr_callV (pc := 18) (d' := d + 4) (mc' := 0) (ms' := 0) [] k_ga_jointInOrder_18 ca_ga_nextInOrder ml_ga_88 ii_ga_nextInOrder ⟨by decide, rfl⟩ pa_ga_nextInOrder (by omega) (by omega) (by omega) rfl (Nat.le_of_ble_eq_true rfl) (Nat.le_of_ble_eq_true rfl) hv (fun v h9 hv => ?_)
    obtain ⟨p2, rfl, hv⟩ := hv
    obtain ⟨h1, eh⟩ : ∃ z, z = h9 := ⟨_, rfl⟩
    subst eh
    obtain ⟨hskh1, hv⟩ := hv
    show mT g me_ga_jointInOrder (d + 5) 0 0 21 [some (vr 1 0), some (vi x1), some (vi x2), o3] [vp p2] h1 _
    refine tr_astore_n (pc := 21) 3 k_ga_jointInOrder_21 rfl (by decide) rfl ?_
    show mT g me_ga_jointInOrder (d + 5) 0 0 22 [some (vr 1 0), some (vi x1), some (vi x2), some (vp p2)] [] h1 _
    refine tr_aload_n (pc := 22) 3 k_ga_jointInOrder_22 rfl rfl ?_
    rcases p2 with _ | ⟨kq, n3⟩
    · replace hv := hv.1 rfl
      refine tr_ifnonnull (pc := 23) 29 k_ga_jointInOrder_23 (by decide) (fun _ => ?_) (fun _ _ q => by cases q)
      refine tr_bipush (pc := 26) (v := -9) k_ga_jointInOrder_26 (by decide) ?_
      refine tr_ireturn (pc := 28) k_ga_jointInOrder_28 rfl rfl ?_
      exact hv
    · have hw := hv.2 kq n3 rfl
      clear hv
      obtain ⟨tq, hv⟩ := hw
      subst tq
      refine tr_ifnonnull (pc := 23) 29 k_ga_jointInOrder_23 (by decide) (fun q => by cases q) (fun _ _ _ => ?_)
      refine tr_iload_n (pc := 29) 2 k_ga_jointInOrder_29 rfl rfl ?_
      refine tr_iload_n (pc := 30) 1 k_ga_jointInOrder_30 rfl rfl ?_
      refine tr_icmp_ne (pc := 31) 39 k_ga_jointInOrder_31 (by decide) (fun q => ?_) (fun q => ?_)
      · replace hv := hv.1 q
        refine tr_aload_n (pc := 39) 3 k_ga_jointInOrder_39 rfl rfl ?_
        refine tr_iconst (pc := 40) (v := 1) k_ga_jointInOrder_40 (by decide) ?_
        refine tr_putI (pc := 41) k_ga_jointInOrder_41 fl_ga_95 (Or.inl rfl) rfl ⟨rfl, rfl⟩ ?_
        refine tr_aload_n (pc := 44) 3 k_ga_jointInOrder_44 rfl rfl ?_
        rcases e5 : hP h1 7 n3 2 with _ | ⟨kq, n4⟩
        · replace hv := hv.1 e5
          refine tr_getP (pc := 45) k_ga_jointInOrder_45 fl_ga_73 rfl (Eq.trans (hP_setI) e5) ?_
          refine tr_ifnull (pc := 48) 64 k_ga_jointInOrder_48 (by decide) (fun _ => ?_) (fun _ _ q => by cases q)
          refine tr_iinc (pc := 64) (v := (x2 + 1)) k_ga_jointInOrder_64 rfl rfl (by decide) rfl ?_
          show mT g me_ga_jointInOrder (d + 5) 0 0 67 [some (vr 1 0), some (vi x1), some (vi (x2 + 1)), some (vr 7 n3)] [] (setI h1 7 n3 12 (1 : Int32)) _
          refine tr_goto (pc := 67) 6 k_ga_jointInOrder_67 (by decide) ?_
          exact hv
        · have hw := hv.2 kq n4 e5
          clear hv
          obtain ⟨tq, hv⟩ := hw
          subst tq
          refine tr_getP (pc := 45) k_ga_jointInOrder_45 fl_ga_73 rfl (Eq.trans (hP_setI) e5) ?_
          refine tr_ifnull (pc := 48) 64 k_ga_jointInOrder_48 (by decide) (fun q => by cases q) (fun _ _ _ => ?_)
          refine tr_aload_n (pc := 51) 3 k_ga_jointInOrder_51 rfl rfl ?_
          refine tr_getP (pc := 52) k_ga_jointInOrder_52 fl_ga_73 rfl (Eq.trans (hP_setI) e5) ?_
          refine tr_dup (pc := 55) k_ga_jointInOrder_55 rfl ?_
          refine tr_getIx (pc := 56) k_ga_jointInOrder_56 fl_ga_98 rfl (hI_nf (by decide)) ?_
          refine tr_iconst (pc := 59) (v := 1) k_ga_jointInOrder_59 (by decide) ?_
          refine tr_isub (pc := 60) k_ga_jointInOrder_60 ?_
          refine tr_putI (pc := 61) k_ga_jointInOrder_61 fl_ga_98 (Or.inl rfl) rfl ⟨rfl, rfl⟩ ?_
          refine tr_iinc (pc := 64) (v := (x2 + 1)) k_ga_jointInOrder_64 rfl rfl (by decide) rfl ?_
          show mT g me_ga_jointInOrder (d + 5) 0 0 67 [some (vr 1 0), some (vi x1), some (vi (x2 + 1)), some (vr 7 n3)] [] (setI (setI h1 7 n3 12 (1 : Int32)) 7 n4 13 ((hI h1 7 n4 13) - (1 : Int32))) _
          refine tr_goto (pc := 67) 6 k_ga_jointInOrder_67 (by decide) ?_
          exact hv
      · replace hv := hv.2 q
        refine tr_aload_n (pc := 34) 3 k_ga_jointInOrder_34 rfl rfl ?_
        refine tr_getIx (pc := 35) k_ga_jointInOrder_35 fl_ga_92 rfl rfl ?_
        refine tr_ireturn (pc := 38) k_ga_jointInOrder_38 rfl rfl ?_
        exact hv
theorem v_ga_beginOrder_0 {g : mG} {d : Nat}  {h : mH} {Q : Option mV → mH → Prop} (hsk : mSK h) (hv : mT g me_ga_beginOrder (d + 4) 0 0 10 [some (vr 1 0), some (vi ((hI h 2 1 1) - (1 : Int32))), none] [] h Q) : mT g me_ga_beginOrder (d + 4) 0 0 0 [some (vr 1 0), none, none] [] h Q := by
  refine tr_aload_n (pc := 0) 0 k_ga_beginOrder_0 rfl rfl ?_
  refine tr_getP (pc := 1) k_ga_beginOrder_1 fl_ga_18 rfl (Eq.trans rfl (hsk.1 1 1 _ rfl)) ?_
  refine tr_callV (pc := 4) (d' := d + 3) (mc' := 0) (ms' := 0) [] k_ga_beginOrder_4 ca_al_size ml_ga_24 ii_al_size ⟨by decide, rfl⟩ pa_al_size (by omega) (by omega) (by omega) rfl (Nat.le_of_ble_eq_true rfl) (Nat.le_of_ble_eq_true rfl) (Qk := fun v h9 => mT g me_ga_beginOrder (d + 4) 0 0 7 [some (vr 1 0), none, none] (v.toList ++ []) h9 _) ?_ (fun _ _ z => z)
  show mT g me_al_size (d + 3) 0 0 0 [some (vr 2 1)] [] h _
  refine tr_aload_n (pc := 0) 0 k_al_size_0 rfl rfl ?_
  refine tr_getIx (pc := 1) k_al_size_1 fl_al_48 rfl rfl ?_
  refine tr_ireturn (pc := 4) k_al_size_4 rfl rfl ?_
  show mT g me_ga_beginOrder (d + 4) 0 0 7 [some (vr 1 0), none, none] [vi (hI h 2 1 1)] h _
  refine tr_iconst (pc := 7) (v := 1) k_ga_beginOrder_7 (by decide) ?_
  refine tr_isub (pc := 8) k_ga_beginOrder_8 ?_
  refine tr_istore_n (pc := 9) 1 k_ga_beginOrder_9 rfl (by decide) rfl ?_
  show mT g me_ga_beginOrder (d + 4) 0 0 10 [some (vr 1 0), some (vi ((hI h 2 1 1) - (1 : Int32))), none] [] h _
  exact hv
theorem v_ga_beginOrder_10 {g : mG} {d : Nat} (x1 : Int32) (o2 : Option mV) {h : mH} {Q : Option mV → mH → Prop} (hsk : mSK h) (hv : ((x1 < 0 → mT g me_ga_beginOrder (d + 4) 0 0 73 [some (vr 1 0), some (vi ((hI h 2 1 1) - (1 : Int32))), o2] [] h Q) ∧ (¬ x1 < 0 → (∃ n1, mGet h 1 x1 (some (7, n1)) ∧ (∃ n2, mGet h 1 x1 (some (7, n2)) ∧ (vp_nar .boolean (hI h 7 n2 8) = (hI h 7 n2 8) ∧ (∃ n3, mGet h 1 x1 (some (7, n3)) ∧ mT g me_ga_beginOrder (d + 4) 0 0 10 [some (vr 1 0), some (vi (x1 + (-1))), o2] [] (setI (setI h 7 n1 12 (hI h 7 n2 8)) 7 n3 13 (0 : Int32)) Q))))))) : mT g me_ga_beginOrder (d + 4) 0 0 10 [some (vr 1 0), some (vi x1), o2] [] h Q := by
  refine tr_iload_n (pc := 10) 1 k_ga_beginOrder_10 rfl rfl ?_
  refine tr_if_lt (pc := 11) 63 k_ga_beginOrder_11 (by decide) (fun q => ?_) (fun q => ?_)
  · replace hv := hv.1 q
    refine tr_aload_n (pc := 63) 0 k_ga_beginOrder_63 rfl rfl ?_
    refine tr_getP (pc := 64) k_ga_beginOrder_64 fl_ga_18 rfl (Eq.trans rfl (hsk.1 1 1 _ rfl)) ?_
    refine tr_callV (pc := 67) (d' := d + 3) (mc' := 0) (ms' := 0) [] k_ga_beginOrder_67 ca_al_size ml_ga_24 ii_al_size ⟨by decide, rfl⟩ pa_al_size (by omega) (by omega) (by omega) rfl (Nat.le_of_ble_eq_true rfl) (Nat.le_of_ble_eq_true rfl) (Qk := fun v h9 => mT g me_ga_beginOrder (d + 4) 0 0 70 [some (vr 1 0), some (vi x1), o2] (v.toList ++ []) h9 _) ?_ (fun _ _ z => z)
    show mT g me_al_size (d + 3) 0 0 0 [some (vr 2 1)] [] h _
    refine tr_aload_n (pc := 0) 0 k_al_size_0 rfl rfl ?_
    refine tr_getIx (pc := 1) k_al_size_1 fl_al_48 rfl rfl ?_
    refine tr_ireturn (pc := 4) k_al_size_4 rfl rfl ?_
    show mT g me_ga_beginOrder (d + 4) 0 0 70 [some (vr 1 0), some (vi x1), o2] [vi (hI h 2 1 1)] h _
    refine tr_iconst (pc := 70) (v := 1) k_ga_beginOrder_70 (by decide) ?_
    refine tr_isub (pc := 71) k_ga_beginOrder_71 ?_
    refine tr_istore_n (pc := 72) 1 k_ga_beginOrder_72 rfl (by decide) rfl ?_
    show mT g me_ga_beginOrder (d + 4) 0 0 73 [some (vr 1 0), some (vi ((hI h 2 1 1) - (1 : Int32))), o2] [] h _
    exact hv
  · replace hv := hv.2 q
    refine tr_aload_n (pc := 14) 0 k_ga_beginOrder_14 rfl rfl ?_
    refine tr_getP (pc := 15) k_ga_beginOrder_15 fl_ga_18 rfl (Eq.trans rfl (hsk.1 1 1 _ rfl)) ?_
    refine tr_iload_n (pc := 18) 1 k_ga_beginOrder_18 rfl rfl ?_
    obtain ⟨n1, hg, hv⟩ := hv
    refine tr_alget (pc := 19) k_ga_beginOrder_19 ml_ga_28 (by omega) (Nat.le_of_ble_eq_true rfl) (mGet.up hg rfl rfl) ?_
    refine tr_cast (pc := 22) k_ga_beginOrder_22 (by decide) cl_ga_34 ?_
    refine tr_aload_n (pc := 25) 0 k_ga_beginOrder_25 rfl rfl ?_
    refine tr_getP (pc := 26) k_ga_beginOrder_26 fl_ga_18 rfl (Eq.trans rfl (hsk.1 1 1 _ rfl)) ?_
    refine tr_iload_n (pc := 29) 1 k_ga_beginOrder_29 rfl rfl ?_
    obtain ⟨n2, hg, hv⟩ := hv
    refine tr_alget (pc := 30) k_ga_beginOrder_30 ml_ga_28 (by omega) (Nat.le_of_ble_eq_true rfl) (mGet.up hg rfl rfl) ?_
    refine tr_cast (pc := 33) k_ga_beginOrder_33 (by decide) cl_ga_34 ?_
    refine tr_getIx (pc := 36) k_ga_beginOrder_36 fl_ga_49 rfl rfl ?_
    refine tr_putI (pc := 39) k_ga_beginOrder_39 fl_ga_95 (Or.inl rfl) rfl (mzput hv.1) ?_
    replace hv := hv.2
    refine tr_aload_n (pc := 42) 0 k_ga_beginOrder_42 rfl rfl ?_
    refine tr_getP (pc := 43) k_ga_beginOrder_43 fl_ga_18 rfl (Eq.trans (hP_setI) (hsk.1 1 1 _ rfl)) ?_
    refine tr_iload_n (pc := 46) 1 k_ga_beginOrder_46 rfl rfl ?_
    obtain ⟨n3, hg, hv⟩ := hv
    refine tr_alget (pc := 47) k_ga_beginOrder_47 ml_ga_28 (by omega) (Nat.le_of_ble_eq_true rfl) (mGet.up hg rfl rfl) ?_
    refine tr_cast (pc := 50) k_ga_beginOrder_50 (by decide) cl_ga_34 ?_
    refine tr_iconst (pc := 53) (v := 0) k_ga_beginOrder_53 (by decide) ?_
    refine tr_putI (pc := 54) k_ga_beginOrder_54 fl_ga_98 (Or.inl rfl) rfl ⟨rfl, rfl⟩ ?_
    refine tr_iinc (pc := 57) (v := (x1 + (-1))) k_ga_beginOrder_57 rfl rfl (by decide) rfl ?_
    show mT g me_ga_beginOrder (d + 4) 0 0 60 [some (vr 1 0), some (vi (x1 + (-1))), o2] [] (setI (setI h 7 n1 12 (hI h 7 n2 8)) 7 n3 13 (0 : Int32)) _
    refine tr_goto (pc := 60) 10 k_ga_beginOrder_60 (by decide) ?_
    exact hv
theorem v_ga_beginOrder_73 {g : mG} {d : Nat} (x1 : Int32) (o2 : Option mV) {h : mH} {Q : Option mV → mH → Prop} (hsk : mSK h) (hv : ((x1 < 0 → Q none h) ∧ (¬ x1 < 0 → (∃ n1, mGet h 1 x1 (some (7, n1)) ∧ ((¬ (hI h 7 n1 12) = 0 → mT g me_ga_beginOrder (d + 4) 0 0 73 [some (vr 1 0), some (vi (x1 + (-1))), some (vr 7 n1)] [] h Q) ∧ ((hI h 7 n1 12) = 0 → ((hP h 7 n1 2 = none → mT g me_ga_beginOrder (d + 4) 0 0 73 [some (vr 1 0), some (vi (x1 + (-1))), some (vr 7 n1)] [] h Q) ∧ (∀ kq n2, hP h 7 n1 2 = some (kq, n2) → kq = 7 ∧ mT g me_ga_beginOrder (d + 4) 0 0 73 [some (vr 1 0), some (vi (x1 + (-1))), some (vr 7 n1)] [] (setI h 7 n2 13 ((hI h 7 n2 13) + (1 : Int32))) Q)))))))) : mT g me_ga_beginOrder (d + 4) 0 0 73 [some (vr 1 0), some (vi x1), o2] [] h Q := by
  refine tr_iload_n (pc := 73) 1 k_ga_beginOrder_73 rfl rfl ?_
  refine tr_if_lt (pc := 74) 122 k_ga_beginOrder_74 (by decide) (fun q => ?_) (fun q => ?_)
  · replace hv := hv.1 q
    refine tr_return (pc := 122) k_ga_beginOrder_122 rfl ?_
    exact hv
  · replace hv := hv.2 q
    refine tr_aload_n (pc := 77) 0 k_ga_beginOrder_77 rfl rfl ?_
    refine tr_getP (pc := 78) k_ga_beginOrder_78 fl_ga_18 rfl (Eq.trans rfl (hsk.1 1 1 _ rfl)) ?_
    refine tr_iload_n (pc := 81) 1 k_ga_beginOrder_81 rfl rfl ?_
    obtain ⟨n1, hg, hv⟩ := hv
    refine tr_alget (pc := 82) k_ga_beginOrder_82 ml_ga_28 (by omega) (Nat.le_of_ble_eq_true rfl) (mGet.up hg rfl rfl) ?_
    refine tr_cast (pc := 85) k_ga_beginOrder_85 (by decide) cl_ga_34 ?_
    refine tr_astore_n (pc := 88) 2 k_ga_beginOrder_88 rfl (by decide) rfl ?_
    show mT g me_ga_beginOrder (d + 4) 0 0 89 [some (vr 1 0), some (vi x1), some (vr 7 n1)] [] h _
    refine tr_aload_n (pc := 89) 2 k_ga_beginOrder_89 rfl rfl ?_
    refine tr_getIx (pc := 90) k_ga_beginOrder_90 fl_ga_95 rfl rfl ?_
    refine tr_if_ne (pc := 93) 116 k_ga_beginOrder_93 (by decide) (fun q => ?_) (fun q => ?_)
    · replace hv := hv.1 q
      refine tr_iinc (pc := 116) (v := (x1 + (-1))) k_ga_beginOrder_116 rfl rfl (by decide) rfl ?_
      show mT g me_ga_beginOrder (d + 4) 0 0 119 [some (vr 1 0), some (vi (x1 + (-1))), some (vr 7 n1)] [] h _
      refine tr_goto (pc := 119) 73 k_ga_beginOrder_119 (by decide) ?_
      exact hv
    · replace hv := hv.2 q
      refine tr_aload_n (pc := 96) 2 k_ga_beginOrder_96 rfl rfl ?_
      rcases e3 : hP h 7 n1 2 with _ | ⟨kq, n2⟩
      · replace hv := hv.1 e3
        refine tr_getP (pc := 97) k_ga_beginOrder_97 fl_ga_73 rfl (Eq.trans rfl e3) ?_
        refine tr_ifnull (pc := 100) 116 k_ga_beginOrder_100 (by decide) (fun _ => ?_) (fun _ _ q => by cases q)
        refine tr_iinc (pc := 116) (v := (x1 + (-1))) k_ga_beginOrder_116 rfl rfl (by decide) rfl ?_
        show mT g me_ga_beginOrder (d + 4) 0 0 119 [some (vr 1 0), some (vi (x1 + (-1))), some (vr 7 n1)] [] h _
        refine tr_goto (pc := 119) 73 k_ga_beginOrder_119 (by decide) ?_
        exact hv
      · have hw := hv.2 kq n2 e3
        clear hv
        obtain ⟨tq, hv⟩ := hw
        subst tq
        refine tr_getP (pc := 97) k_ga_beginOrder_97 fl_ga_73 rfl (Eq.trans rfl e3) ?_
        refine tr_ifnull (pc := 100) 116 k_ga_beginOrder_100 (by decide) (fun q => by cases q) (fun _ _ _ => ?_)
        refine tr_aload_n (pc := 103) 2 k_ga_beginOrder_103 rfl rfl ?_
        refine tr_getP (pc := 104) k_ga_beginOrder_104 fl_ga_73 rfl (Eq.trans rfl e3) ?_
        refine tr_dup (pc := 107) k_ga_beginOrder_107 rfl ?_
        refine tr_getIx (pc := 108) k_ga_beginOrder_108 fl_ga_98 rfl rfl ?_
        refine tr_iconst (pc := 111) (v := 1) k_ga_beginOrder_111 (by decide) ?_
        refine tr_iadd (pc := 112) k_ga_beginOrder_112 ?_
        refine tr_putI (pc := 113) k_ga_beginOrder_113 fl_ga_98 (Or.inl rfl) rfl ⟨rfl, rfl⟩ ?_
        refine tr_iinc (pc := 116) (v := (x1 + (-1))) k_ga_beginOrder_116 rfl rfl (by decide) rfl ?_
        show mT g me_ga_beginOrder (d + 4) 0 0 119 [some (vr 1 0), some (vi (x1 + (-1))), some (vr 7 n1)] [] (setI h 7 n2 13 ((hI h 7 n2 13) + (1 : Int32))) _
        refine tr_goto (pc := 119) 73 k_ga_beginOrder_119 (by decide) ?_
        exact hv
theorem v_ga_nextInOrder_0 {g : mG} {d : Nat}  {h : mH} {Q : Option mV → mH → Prop} (hsk : mSK h) (hv : mT g me_ga_nextInOrder (d + 4) 0 0 4 [some (vr 1 0), some (vn), some (vi (0 : Int32)), none, none] [] h Q) : mT g me_ga_nextInOrder (d + 4) 0 0 0 [some (vr 1 0), none, none, none, none] [] h Q := by
  refine tr_null (pc := 0) k_ga_nextInOrder_0 ?_
  refine tr_astore_n (pc := 1) 1 k_ga_nextInOrder_1 rfl (by decide) rfl ?_
  show mT g me_ga_nextInOrder (d + 4) 0 0 2 [some (vr 1 0), some (vn), none, none, none] [] h _
  refine tr_iconst (pc := 2) (v := 0) k_ga_nextInOrder_2 (by decide) ?_
  refine tr_istore_n (pc := 3) 2 k_ga_nextInOrder_3 rfl (by decide) rfl ?_
  show mT g me_ga_nextInOrder (d + 4) 0 0 4 [some (vr 1 0), some (vn), some (vi (0 : Int32)), none, none] [] h _
  exact hv
theorem v_ga_nextInOrder_4 {g : mG} {d : Nat} (r1 : Option (Nat × Nat)) (x2 : Int32) (o3 : Option mV) (o4 : Option mV) {h : mH} {Q : Option mV → mH → Prop} (hsk : mSK h) (hv : (((hI h 2 1 1) ≤ x2 → Q (some (vp r1)) h) ∧ (¬ (hI h 2 1 1) ≤ x2 → (∃ n1, mGet h 1 x2 (some (7, n1)) ∧ ((¬ (hI h 7 n1 12) = 0 → mT g me_ga_nextInOrder (d + 4) 0 0 4 [some (vr 1 0), some (vp r1), some (vi (x2 + 1)), some (vr 7 n1), some (vi (0 : Int32))] [] h Q) ∧ ((hI h 7 n1 12) = 0 → ((¬ (hI h 7 n1 13) = 0 → mT g me_ga_nextInOrder (d + 4) 0 0 4 [some (vr 1 0), some (vp r1), some (vi (x2 + 1)), some (vr 7 n1), some (vi (0 : Int32))] [] h Q) ∧ ((hI h 7 n1 13) = 0 → ((r1 = none → mT g me_ga_nextInOrder (d + 4) 0 0 4 [some (vr 1 0), some (vr 7 n1), some (vi (x2 + 1)), some (vr 7 n1), some (vi (1 : Int32))] [] h Q) ∧ (∀ kq n2, r1 = some (kq, n2) → kq = 7 ∧ (((hI h 7 n1 3) ≤ (hI h 7 n2 3) → mT g me_ga_nextInOrder (d + 4) 0 0 4 [some (vr 1 0), some (vr 7 n2), some (vi (x2 + 1)), some (vr 7 n1), some (vi (1 : Int32))] [] h Q) ∧ (¬ (hI h 7 n1 3) ≤ (hI h 7 n2 3) → mT g me_ga_nextInOrder (d + 4) 0 0 4 [some (vr 1 0), some (vr 7 n1), some (vi (x2 + 1)), some (vr 7 n1), some (vi (1 : Int32))] [] h Q)))))))))))) : mT g me_ga_nextInOrder (d + 4) 0 0 4 [some (vr 1 0), some (vp r1), some (vi x2), o3, o4] [] h Q := by
  refine tr_iload_n (pc := 4) 2 k_ga_nextInOrder_4 rfl rfl ?_
  refine tr_aload_n (pc := 5) 0 k_ga_nextInOrder_5 rfl rfl ?_
  refine tr_getP (pc := 6) k_ga_nextInOrder_6 fl_ga_18 rfl (Eq.trans rfl (hsk.1 1 1 _ rfl)) ?_
  refine tr_callV (pc := 9) (d' := d + 3) (mc' := 0) (ms' := 0) [] k_ga_nextInOrder_9 ca_al_size ml_ga_24 ii_al_size ⟨by decide, rfl⟩ pa_al_size (by omega) (by omega) (by omega) rfl (Nat.le_of_ble_eq_true rfl) (Nat.le_of_ble_eq_true rfl) (Qk := fun v h9 => mT g me_ga_nextInOrder (d + 4) 0 0 12 [some (vr 1 0), some (vp r1), some (vi x2), o3, o4] (v.toList ++ [vi x2]) h9 _) ?_ (fun _ _ z => z)
  show mT g me_al_size (d + 3) 0 0 0 [some (vr 2 1)] [] h _
  refine tr_aload_n (pc := 0) 0 k_al_size_0 rfl rfl ?_
  refine tr_getIx (pc := 1) k_al_size_1 fl_al_48 rfl rfl ?_
  refine tr_ireturn (pc := 4) k_al_size_4 rfl rfl ?_
  show mT g me_ga_nextInOrder (d + 4) 0 0 12 [some (vr 1 0), some (vp r1), some (vi x2), o3, o4] [vi (hI h 2 1 1), vi x2] h _
  refine tr_icmp_ge (pc := 12) 76 k_ga_nextInOrder_12 (by decide) (fun q => ?_) (fun q => ?_)
  · replace hv := hv.1 q
    refine tr_aload_n (pc := 76) 1 k_ga_nextInOrder_76 rfl rfl ?_
    refine tr_areturn (pc := 77) k_ga_nextInOrder_77 rfl rfl ?_
    exact hv
  · replace hv := hv.2 q
    refine tr_aload_n (pc := 15) 0 k_ga_nextInOrder_15 rfl rfl ?_
    refine tr_getP (pc := 16) k_ga_nextInOrder_16 fl_ga_18 rfl (Eq.trans rfl (hsk.1 1 1 _ rfl)) ?_
    refine tr_iload_n (pc := 19) 2 k_ga_nextInOrder_19 rfl rfl ?_
    obtain ⟨n1, hg, hv⟩ := hv
    refine tr_alget (pc := 20) k_ga_nextInOrder_20 ml_ga_28 (by omega) (Nat.le_of_ble_eq_true rfl) (mGet.up hg rfl rfl) ?_
    refine tr_cast (pc := 23) k_ga_nextInOrder_23 (by decide) cl_ga_34 ?_
    refine tr_astore_n (pc := 26) 3 k_ga_nextInOrder_26 rfl (by decide) rfl ?_
    show mT g me_ga_nextInOrder (d + 4) 0 0 27 [some (vr 1 0), some (vp r1), some (vi x2), some (vr 7 n1), o4] [] h _
    refine tr_aload_n (pc := 27) 3 k_ga_nextInOrder_27 rfl rfl ?_
    refine tr_getIx (pc := 28) k_ga_nextInOrder_28 fl_ga_95 rfl rfl ?_
    refine tr_if_ne (pc := 31) 45 k_ga_nextInOrder_31 (by decide) (fun q => ?_) (fun q => ?_)
    · replace hv := hv.1 q
      refine tr_iconst (pc := 45) (v := 0) k_ga_nextInOrder_45 (by decide) ?_
      refine tr_istore (pc := 46) k_ga_nextInOrder_46 (by decide) rfl ?_
      show mT g me_ga_nextInOrder (d + 4) 0 0 48 [some (vr 1 0), some (vp r1), some (vi x2), some (vr 7 n1), some (vi (0 : Int32))] [] h _
      refine tr_iload (pc := 48) k_ga_nextInOrder_48 rfl ?_
      refine tr_if_eq (pc := 50) 70 k_ga_nextInOrder_50 (by decide) (fun _ => ?_) (fun q => absurd q (by decide))
      refine tr_iinc (pc := 70) (v := (x2 + 1)) k_ga_nextInOrder_70 rfl rfl (by decide) rfl ?_
      show mT g me_ga_nextInOrder (d + 4) 0 0 73 [some (vr 1 0), some (vp r1), some (vi (x2 + 1)), some (vr 7 n1), some (vi (0 : Int32))] [] h _
      refine tr_goto (pc := 73) 4 k_ga_nextInOrder_73 (by decide) ?_
      exact hv
    · replace hv := hv.2 q
      refine tr_aload_n (pc := 34) 3 k_ga_nextInOrder_34 rfl rfl ?_
      refine tr_getIx (pc := 35) k_ga_nextInOrder_35 fl_ga_98 rfl rfl ?_
      refine tr_if_ne (pc := 38) 45 k_ga_nextInOrder_38 (by decide) (fun q => ?_) (fun q => ?_)
      · replace hv := hv.1 q
        refine tr_iconst (pc := 45) (v := 0) k_ga_nextInOrder_45 (by decide) ?_
        refine tr_istore (pc := 46) k_ga_nextInOrder_46 (by decide) rfl ?_
        show mT g me_ga_nextInOrder (d + 4) 0 0 48 [some (vr 1 0), some (vp r1), some (vi x2), some (vr 7 n1), some (vi (0 : Int32))] [] h _
        refine tr_iload (pc := 48) k_ga_nextInOrder_48 rfl ?_
        refine tr_if_eq (pc := 50) 70 k_ga_nextInOrder_50 (by decide) (fun _ => ?_) (fun q => absurd q (by decide))
        refine tr_iinc (pc := 70) (v := (x2 + 1)) k_ga_nextInOrder_70 rfl rfl (by decide) rfl ?_
        show mT g me_ga_nextInOrder (d + 4) 0 0 73 [some (vr 1 0), some (vp r1), some (vi (x2 + 1)), some (vr 7 n1), some (vi (0 : Int32))] [] h _
        refine tr_goto (pc := 73) 4 k_ga_nextInOrder_73 (by decide) ?_
        exact hv
      · replace hv := hv.2 q
        refine tr_iconst (pc := 41) (v := 1) k_ga_nextInOrder_41 (by decide) ?_
        refine tr_goto (pc := 42) 46 k_ga_nextInOrder_42 (by decide) ?_
        refine tr_istore (pc := 46) k_ga_nextInOrder_46 (by decide) rfl ?_
        show mT g me_ga_nextInOrder (d + 4) 0 0 48 [some (vr 1 0), some (vp r1), some (vi x2), some (vr 7 n1), some (vi (1 : Int32))] [] h _
        refine tr_iload (pc := 48) k_ga_nextInOrder_48 rfl ?_
        refine tr_if_eq (pc := 50) 70 k_ga_nextInOrder_50 (by decide) (fun q => absurd q (by decide)) (fun _ => ?_)
        refine tr_aload_n (pc := 53) 1 k_ga_nextInOrder_53 rfl rfl ?_
        rcases r1 with _ | ⟨kq, n2⟩
        · replace hv := hv.1 rfl
          refine tr_ifnull (pc := 54) 68 k_ga_nextInOrder_54 (by decide) (fun _ => ?_) (fun _ _ q => by cases q)
          refine tr_aload_n (pc := 68) 3 k_ga_nextInOrder_68 rfl rfl ?_
          refine tr_astore_n (pc := 69) 1 k_ga_nextInOrder_69 rfl (by decide) rfl ?_
          show mT g me_ga_nextInOrder (d + 4) 0 0 70 [some (vr 1 0), some (vr 7 n1), some (vi x2), some (vr 7 n1), some (vi (1 : Int32))] [] h _
          refine tr_iinc (pc := 70) (v := (x2 + 1)) k_ga_nextInOrder_70 rfl rfl (by decide) rfl ?_
          show mT g me_ga_nextInOrder (d + 4) 0 0 73 [some (vr 1 0), some (vr 7 n1), some (vi (x2 + 1)), some (vr 7 n1), some (vi (1 : Int32))] [] h _
          refine tr_goto (pc := 73) 4 k_ga_nextInOrder_73 (by decide) ?_
          exact hv
        · have hw := hv.2 kq n2 rfl
          clear hv
          obtain ⟨tq, hv⟩ := hw
          subst tq
          refine tr_ifnull (pc := 54) 68 k_ga_nextInOrder_54 (by decide) (fun q => by cases q) (fun _ _ _ => ?_)
          refine tr_aload_n (pc := 57) 3 k_ga_nextInOrder_57 rfl rfl ?_
          refine tr_getIx (pc := 58) k_ga_nextInOrder_58 fl_ga_101 rfl rfl ?_
          refine tr_aload_n (pc := 61) 1 k_ga_nextInOrder_61 rfl rfl ?_
          refine tr_getIx (pc := 62) k_ga_nextInOrder_62 fl_ga_101 rfl rfl ?_
          refine tr_icmp_le (pc := 65) 70 k_ga_nextInOrder_65 (by decide) (fun q => ?_) (fun q => ?_)
          · replace hv := hv.1 q
            refine tr_iinc (pc := 70) (v := (x2 + 1)) k_ga_nextInOrder_70 rfl rfl (by decide) rfl ?_
            show mT g me_ga_nextInOrder (d + 4) 0 0 73 [some (vr 1 0), some (vr 7 n2), some (vi (x2 + 1)), some (vr 7 n1), some (vi (1 : Int32))] [] h _
            refine tr_goto (pc := 73) 4 k_ga_nextInOrder_73 (by decide) ?_
            exact hv
          · replace hv := hv.2 q
            refine tr_aload_n (pc := 68) 3 k_ga_nextInOrder_68 rfl rfl ?_
            refine tr_astore_n (pc := 69) 1 k_ga_nextInOrder_69 rfl (by decide) rfl ?_
            show mT g me_ga_nextInOrder (d + 4) 0 0 70 [some (vr 1 0), some (vr 7 n1), some (vi x2), some (vr 7 n1), some (vi (1 : Int32))] [] h _
            refine tr_iinc (pc := 70) (v := (x2 + 1)) k_ga_nextInOrder_70 rfl rfl (by decide) rfl ?_
            show mT g me_ga_nextInOrder (d + 4) 0 0 73 [some (vr 1 0), some (vr 7 n1), some (vi (x2 + 1)), some (vr 7 n1), some (vi (1 : Int32))] [] h _
            refine tr_goto (pc := 73) 4 k_ga_nextInOrder_73 (by decide) ?_
            exact hv
theorem v_fn_tankOf_0 {g : mG} {d : Nat} (x1 : Int32) (x2 : Int32) {h : mH} {Q : Option mV → mH → Prop} (hsk : mSK h) (hv : mT g me_ga_tankAt (d + 6) 0 0 0 [some (vr 1 0), some (vi x1)] [] h (fun v h1 => ∃ p2, v = some (vp p2) ∧ mSK h1 ∧ ((p2 = none → mT g me_fn_refuse (d + 6) 0 0 0 [some (vr 0 0), some (vi (-1 : Int32)), none] [] h1 (fun v h4 => ∃ y5, v = some (vi y5) ∧ mSK h4 ∧ Q (some (vi y5)) h4)) ∧ (∀ kq n3, p2 = some (kq, n3) → kq = 6 ∧ ((x2 = 0 → (((1 : Int32) ≤ (hI h1 6 n3 2) → (¬ (hI h1 6 n3 2) = 0 ∧ Q (some (vi ((hI h1 6 n3 1) + ((hI h1 6 n3 5) / (hI h1 6 n3 2))))) h1)) ∧ (¬ (1 : Int32) ≤ (hI h1 6 n3 2) → Q (some (vi (hI h1 6 n3 1))) h1))) ∧ (x2 = 1 → Q (some (vi (hI h1 6 n3 5))) h1) ∧ (x2 = 2 → Q (some (vi (hI h1 6 n3 4))) h1) ∧ (x2 = 3 → Q (some (vi (hI h1 6 n3 6))) h1) ∧ (x2 = 4 → Q (some (vi (hI h1 6 n3 7))) h1) ∧ (x2 = 5 → mT g me_ga_reckonAsItIs (d + 6) 0 0 0 [some (vr 1 0)] [] h1 (fun v h6 => v = none ∧ mSK h6 ∧ Q (some (vi (hI h6 6 n3 8))) h6)) ∧ (¬ x2 = 0 → ¬ x2 = 1 → ¬ x2 = 2 → ¬ x2 = 3 → ¬ x2 = 4 → ¬ x2 = 5 → mT g me_fn_refuse (d + 6) 0 0 0 [some (vr 0 0), some (vi (-2 : Int32)), none] [] h1 (fun v h7 => ∃ y8, v = some (vi y8) ∧ mSK h7 ∧ Q (some (vi y8)) h7))))))) : mT g me_fn_tankOf (d + 7) 0 0 0 [some (vr 0 0), some (vi x1), some (vi x2), none] [] h Q := by
  refine tr_aload_n (pc := 0) 0 k_fn_tankOf_0 rfl rfl ?_
  refine tr_getP (pc := 1) k_fn_tankOf_1 fl_fn_12 rfl (Eq.trans rfl (hsk.1 0 0 _ rfl)) ?_
  refine tr_iload_n (pc := 4) 1 k_fn_tankOf_4 rfl rfl ?_
  refine tr_callV (pc := 5) (d' := d + 6) (mc' := 0) (ms' := 0) [vi x1] k_fn_tankOf_5 ca_ga_tankAt ml_fn_76 ii_ga_tankAt ⟨by decide, rfl⟩ pa_ga_tankAt (by omega) (by omega) (by omega) rfl (Nat.le_of_ble_eq_true rfl) (Nat.le_of_ble_eq_true rfl) hv (fun v h9 hv => ?_)
  obtain ⟨p2, rfl, hv⟩ := hv
  obtain ⟨h1, eh⟩ : ∃ z, z = h9 := ⟨_, rfl⟩
  subst eh
  obtain ⟨hskh1, hv⟩ := hv
  show mT g me_fn_tankOf (d + 7) 0 0 8 [some (vr 0 0), some (vi x1), some (vi x2), none] [vp p2] h1 _
  refine tr_astore_n (pc := 8) 3 k_fn_tankOf_8 rfl (by decide) rfl ?_
  show mT g me_fn_tankOf (d + 7) 0 0 9 [some (vr 0 0), some (vi x1), some (vi x2), some (vp p2)] [] h1 _
  refine tr_aload_n (pc := 9) 3 k_fn_tankOf_9 rfl rfl ?_
  rcases p2 with _ | ⟨kq, n3⟩
  · replace hv := hv.1 rfl
    refine tr_ifnonnull (pc := 10) 19 k_fn_tankOf_10 (by decide) (fun _ => ?_) (fun _ _ q => by cases q)
    refine tr_aload_n (pc := 13) 0 k_fn_tankOf_13 rfl rfl ?_
    refine tr_iconst (pc := 14) (v := -1) k_fn_tankOf_14 (by decide) ?_
    refine tr_callV (pc := 15) (d' := d + 6) (mc' := 0) (ms' := 0) [vi (-1 : Int32)] k_fn_tankOf_15 ca_fn_refuse ml_fn_56 ii_fn_refuse ⟨by decide, rfl⟩ pa_fn_refuse (by omega) (by omega) (by omega) rfl (Nat.le_of_ble_eq_true rfl) (Nat.le_of_ble_eq_true rfl) hv (fun v h9 hv => ?_)
    obtain ⟨y5, rfl, hv⟩ := hv
    obtain ⟨h4, eh⟩ : ∃ z, z = h9 := ⟨_, rfl⟩
    subst eh
    obtain ⟨hskh4, hv⟩ := hv
    show mT g me_fn_tankOf (d + 7) 0 0 18 [some (vr 0 0), some (vi x1), some (vi x2), some (vn)] [vi y5] h4 _
    refine tr_ireturn (pc := 18) k_fn_tankOf_18 rfl rfl ?_
    exact hv
  · have hw := hv.2 kq n3 rfl
    clear hv
    obtain ⟨tq, hv⟩ := hw
    subst tq
    refine tr_ifnonnull (pc := 10) 19 k_fn_tankOf_10 (by decide) (fun q => by cases q) (fun _ _ _ => ?_)
    refine tr_iload_n (pc := 19) 2 k_fn_tankOf_19 rfl rfl ?_
    refine tr_table (pc := 20) [60, 69, 74, 79, 84, 89] 101 k_fn_tankOf_20 (by decide) (by decide) (by decide) (fun i t hi hx => ?_) (fun hx => ?_)
    · rcases i with _ | _ | _ | _ | _ | _ | i
      · cases hi
        replace hv := hv.1 (mtoI (hx.trans (by decide)))
        refine tr_aload_n (pc := 60) 3 k_fn_tankOf_60 rfl rfl ?_
        refine tr_aload_n (pc := 61) 3 k_fn_tankOf_61 rfl rfl ?_
        refine tr_getIx (pc := 62) k_fn_tankOf_62 fl_fn_157 rfl rfl ?_
        refine tr_callV (pc := 65) (d' := d + 6) (mc' := 0) (ms' := 0) [vi (hI h1 6 n3 5)] k_fn_tankOf_65 ca_tk_levelWith ml_fn_269 ii_tk_levelWith ⟨by decide, rfl⟩ pa_tk_levelWith (by omega) (by omega) (by omega) rfl (Nat.le_of_ble_eq_true rfl) (Nat.le_of_ble_eq_true rfl) (Qk := fun v h9 => mT g me_fn_tankOf (d + 7) 0 0 68 [some (vr 0 0), some (vi x1), some (vi x2), some (vr 6 n3)] (v.toList ++ []) h9 _) ?_ (fun _ _ z => z)
        show mT g me_tk_levelWith (d + 6) 0 0 0 [some (vr 6 n3), some (vi (hI h1 6 n3 5))] [] h1 _
        refine tr_aload_n (pc := 0) 0 k_tk_levelWith_0 rfl rfl ?_
        refine tr_getIx (pc := 1) k_tk_levelWith_1 fl_tk_16 rfl rfl ?_
        refine tr_iconst (pc := 4) (v := 1) k_tk_levelWith_4 (by decide) ?_
        refine tr_icmp_ge (pc := 5) 15 k_tk_levelWith_5 (by decide) (fun q => ?_) (fun q => ?_)
        · replace hv := hv.1 q
          refine tr_aload_n (pc := 15) 0 k_tk_levelWith_15 rfl rfl ?_
          refine tr_getIx (pc := 16) k_tk_levelWith_16 fl_tk_13 rfl rfl ?_
          refine tr_iload_n (pc := 19) 1 k_tk_levelWith_19 rfl rfl ?_
          refine tr_aload_n (pc := 20) 0 k_tk_levelWith_20 rfl rfl ?_
          refine tr_getIx (pc := 21) k_tk_levelWith_21 fl_tk_16 rfl rfl ?_
          refine tr_idiv (pc := 24) k_tk_levelWith_24 hv.1 ?_
          replace hv := hv.2
          refine tr_iadd (pc := 25) k_tk_levelWith_25 ?_
          refine tr_ireturn (pc := 26) k_tk_levelWith_26 rfl rfl ?_
          show mT g me_fn_tankOf (d + 7) 0 0 68 [some (vr 0 0), some (vi x1), some (vi x2), some (vr 6 n3)] [vi ((hI h1 6 n3 1) + ((hI h1 6 n3 5) / (hI h1 6 n3 2)))] h1 _
          refine tr_ireturn (pc := 68) k_fn_tankOf_68 rfl rfl ?_
          exact hv
        · replace hv := hv.2 q
          refine tr_aload_n (pc := 8) 0 k_tk_levelWith_8 rfl rfl ?_
          refine tr_getIx (pc := 9) k_tk_levelWith_9 fl_tk_13 rfl rfl ?_
          refine tr_goto (pc := 12) 26 k_tk_levelWith_12 (by decide) ?_
          refine tr_ireturn (pc := 26) k_tk_levelWith_26 rfl rfl ?_
          show mT g me_fn_tankOf (d + 7) 0 0 68 [some (vr 0 0), some (vi x1), some (vi x2), some (vr 6 n3)] [vi (hI h1 6 n3 1)] h1 _
          refine tr_ireturn (pc := 68) k_fn_tankOf_68 rfl rfl ?_
          exact hv
      · cases hi
        replace hv := hv.2.1 (mtoI (hx.trans (by decide)))
        refine tr_aload_n (pc := 69) 3 k_fn_tankOf_69 rfl rfl ?_
        refine tr_getIx (pc := 70) k_fn_tankOf_70 fl_fn_157 rfl rfl ?_
        refine tr_ireturn (pc := 73) k_fn_tankOf_73 rfl rfl ?_
        exact hv
      · cases hi
        replace hv := hv.2.2.1 (mtoI (hx.trans (by decide)))
        refine tr_aload_n (pc := 74) 3 k_fn_tankOf_74 rfl rfl ?_
        refine tr_getIx (pc := 75) k_fn_tankOf_75 fl_fn_272 rfl rfl ?_
        refine tr_ireturn (pc := 78) k_fn_tankOf_78 rfl rfl ?_
        exact hv
      · cases hi
        replace hv := hv.2.2.2.1 (mtoI (hx.trans (by decide)))
        refine tr_aload_n (pc := 79) 3 k_fn_tankOf_79 rfl rfl ?_
        refine tr_getIx (pc := 80) k_fn_tankOf_80 fl_fn_275 rfl rfl ?_
        refine tr_ireturn (pc := 83) k_fn_tankOf_83 rfl rfl ?_
        exact hv
      · cases hi
        replace hv := hv.2.2.2.2.1 (mtoI (hx.trans (by decide)))
        refine tr_aload_n (pc := 84) 3 k_fn_tankOf_84 rfl rfl ?_
        refine tr_getIx (pc := 85) k_fn_tankOf_85 fl_fn_278 rfl rfl ?_
        refine tr_ireturn (pc := 88) k_fn_tankOf_88 rfl rfl ?_
        exact hv
      · cases hi
        replace hv := hv.2.2.2.2.2.1 (mtoI (hx.trans (by decide)))
        refine tr_aload_n (pc := 89) 0 k_fn_tankOf_89 rfl rfl ?_
        refine tr_getP (pc := 90) k_fn_tankOf_90 fl_fn_12 rfl (Eq.trans rfl (hskh1.1 0 0 _ rfl)) ?_
        refine tr_callV (pc := 93) (d' := d + 6) (mc' := 0) (ms' := 0) [] k_fn_tankOf_93 ca_ga_reckonAsItIs ml_fn_144 ii_ga_reckonAsItIs ⟨by decide, rfl⟩ pa_ga_reckonAsItIs (by omega) (by omega) (by omega) rfl (Nat.le_of_ble_eq_true rfl) (Nat.le_of_ble_eq_true rfl) hv (fun v h9 hv => ?_)
        obtain ⟨rfl, hv⟩ := hv
        obtain ⟨h6, eh⟩ : ∃ z, z = h9 := ⟨_, rfl⟩
        subst eh
        obtain ⟨hskh6, hv⟩ := hv
        show mT g me_fn_tankOf (d + 7) 0 0 96 [some (vr 0 0), some (vi x1), some (vi x2), some (vr 6 n3)] [] h6 _
        refine tr_aload_n (pc := 96) 3 k_fn_tankOf_96 rfl rfl ?_
        refine tr_getIx (pc := 97) k_fn_tankOf_97 fl_fn_281 rfl rfl ?_
        refine tr_ireturn (pc := 100) k_fn_tankOf_100 rfl rfl ?_
        exact hv
      · exact absurd hi (by simp)
    · replace hv := hv.2.2.2.2.2.2 (fun e => hx 0 (by decide) (by rw [e]; decide)) (fun e => hx 1 (by decide) (by rw [e]; decide)) (fun e => hx 2 (by decide) (by rw [e]; decide)) (fun e => hx 3 (by decide) (by rw [e]; decide)) (fun e => hx 4 (by decide) (by rw [e]; decide)) (fun e => hx 5 (by decide) (by rw [e]; decide))
      refine tr_aload_n (pc := 101) 0 k_fn_tankOf_101 rfl rfl ?_
      refine tr_bipush (pc := 102) (v := -2) k_fn_tankOf_102 (by decide) ?_
      refine tr_callV (pc := 104) (d' := d + 6) (mc' := 0) (ms' := 0) [vi (-2 : Int32)] k_fn_tankOf_104 ca_fn_refuse ml_fn_56 ii_fn_refuse ⟨by decide, rfl⟩ pa_fn_refuse (by omega) (by omega) (by omega) rfl (Nat.le_of_ble_eq_true rfl) (Nat.le_of_ble_eq_true rfl) hv (fun v h9 hv => ?_)
      obtain ⟨y8, rfl, hv⟩ := hv
      obtain ⟨h7, eh⟩ : ∃ z, z = h9 := ⟨_, rfl⟩
      subst eh
      obtain ⟨hskh7, hv⟩ := hv
      show mT g me_fn_tankOf (d + 7) 0 0 107 [some (vr 0 0), some (vi x1), some (vi x2), some (vr 6 n3)] [vi y8] h7 _
      refine tr_ireturn (pc := 107) k_fn_tankOf_107 rfl rfl ?_
      exact hv
theorem v_fn_jointOf_0 {g : mG} {d : Nat} (x1 : Int32) (x2 : Int32) {h : mH} {Q : Option mV → mH → Prop} (hsk : mSK h) (hv : mT g me_ga_jointAt (d + 6) 0 0 0 [some (vr 1 0), some (vi x1)] [] h (fun v h1 => ∃ p2, v = some (vp p2) ∧ mSK h1 ∧ ((p2 = none → mT g me_fn_refuse (d + 6) 0 0 0 [some (vr 0 0), some (vi (-1 : Int32)), none] [] h1 (fun v h4 => ∃ y5, v = some (vi y5) ∧ mSK h4 ∧ Q (some (vi y5)) h4)) ∧ (∀ kq n3, p2 = some (kq, n3) → kq = 7 ∧ ((x2 = 0 → Q (some (vi (hI h1 7 n3 3))) h1) ∧ (x2 = 1 → Q (some (vi (hI h1 7 n3 5))) h1) ∧ (x2 = 2 → Q (some (vi (hI h1 7 n3 4))) h1) ∧ (x2 = 3 → (∃ n6, hP h1 7 n3 1 = some (6, n6) ∧ Q (some (vi (hI h1 6 n6 0))) h1)) ∧ (x2 = 4 → ((hP h1 7 n3 2 = none → Q (some (vi (-9 : Int32))) h1) ∧ (∀ kq n8, hP h1 7 n3 2 = some (kq, n8) → kq = 7 ∧ Q (some (vi (hI h1 7 n8 0))) h1))) ∧ (x2 = 5 → ((hP h1 7 n3 9 = none → Q (some (vi (-9 : Int32))) h1) ∧ (∀ kq n10, hP h1 7 n3 9 = some (kq, n10) → kq = 8 ∧ Q (some (vi (hI h1 8 n10 0))) h1))) ∧ (x2 = 6 → (((hI h1 7 n3 8) = 0 → Q (some (vi (0 : Int32))) h1) ∧ (¬ (hI h1 7 n3 8) = 0 → Q (some (vi (1 : Int32))) h1))) ∧ (x2 = 7 → Q (some (vi (hI h1 7 n3 6))) h1) ∧ (x2 = 8 → mT g me_ga_reckonAsItIs (d + 6) 0 0 0 [some (vr 1 0)] [] h1 (fun v h12 => v = none ∧ mSK h12 ∧ mT g me_jn_lossNow (d + 6) 0 0 0 [some (vr 7 n3), none, none] [] h12 (fun v h13 => ∃ y14, v = some (vi y14) ∧ mSK h13 ∧ Q (some (vi y14)) h13))) ∧ (¬ x2 = 0 → ¬ x2 = 1 → ¬ x2 = 2 → ¬ x2 = 3 → ¬ x2 = 4 → ¬ x2 = 5 → ¬ x2 = 6 → ¬ x2 = 7 → ¬ x2 = 8 → mT g me_fn_refuse (d + 6) 0 0 0 [some (vr 0 0), some (vi (-2 : Int32)), none] [] h1 (fun v h15 => ∃ y16, v = some (vi y16) ∧ mSK h15 ∧ Q (some (vi y16)) h15))))))) : mT g me_fn_jointOf (d + 7) 0 0 0 [some (vr 0 0), some (vi x1), some (vi x2), none] [] h Q := by
  refine tr_aload_n (pc := 0) 0 k_fn_jointOf_0 rfl rfl ?_
  refine tr_getP (pc := 1) k_fn_jointOf_1 fl_fn_12 rfl (Eq.trans rfl (hsk.1 0 0 _ rfl)) ?_
  refine tr_iload_n (pc := 4) 1 k_fn_jointOf_4 rfl rfl ?_
  refine tr_callV (pc := 5) (d' := d + 6) (mc' := 0) (ms' := 0) [vi x1] k_fn_jointOf_5 ca_ga_jointAt ml_fn_89 ii_ga_jointAt ⟨by decide, rfl⟩ pa_ga_jointAt (by omega) (by omega) (by omega) rfl (Nat.le_of_ble_eq_true rfl) (Nat.le_of_ble_eq_true rfl) hv (fun v h9 hv => ?_)
  obtain ⟨p2, rfl, hv⟩ := hv
  obtain ⟨h1, eh⟩ : ∃ z, z = h9 := ⟨_, rfl⟩
  subst eh
  obtain ⟨hskh1, hv⟩ := hv
  show mT g me_fn_jointOf (d + 7) 0 0 8 [some (vr 0 0), some (vi x1), some (vi x2), none] [vp p2] h1 _
  refine tr_astore_n (pc := 8) 3 k_fn_jointOf_8 rfl (by decide) rfl ?_
  show mT g me_fn_jointOf (d + 7) 0 0 9 [some (vr 0 0), some (vi x1), some (vi x2), some (vp p2)] [] h1 _
  refine tr_aload_n (pc := 9) 3 k_fn_jointOf_9 rfl rfl ?_
  rcases p2 with _ | ⟨kq, n3⟩
  · replace hv := hv.1 rfl
    refine tr_ifnonnull (pc := 10) 19 k_fn_jointOf_10 (by decide) (fun _ => ?_) (fun _ _ q => by cases q)
    refine tr_aload_n (pc := 13) 0 k_fn_jointOf_13 rfl rfl ?_
    refine tr_iconst (pc := 14) (v := -1) k_fn_jointOf_14 (by decide) ?_
    refine tr_callV (pc := 15) (d' := d + 6) (mc' := 0) (ms' := 0) [vi (-1 : Int32)] k_fn_jointOf_15 ca_fn_refuse ml_fn_56 ii_fn_refuse ⟨by decide, rfl⟩ pa_fn_refuse (by omega) (by omega) (by omega) rfl (Nat.le_of_ble_eq_true rfl) (Nat.le_of_ble_eq_true rfl) hv (fun v h9 hv => ?_)
    obtain ⟨y5, rfl, hv⟩ := hv
    obtain ⟨h4, eh⟩ : ∃ z, z = h9 := ⟨_, rfl⟩
    subst eh
    obtain ⟨hskh4, hv⟩ := hv
    show mT g me_fn_jointOf (d + 7) 0 0 18 [some (vr 0 0), some (vi x1), some (vi x2), some (vn)] [vi y5] h4 _
    refine tr_ireturn (pc := 18) k_fn_jointOf_18 rfl rfl ?_
    exact hv
  · have hw := hv.2 kq n3 rfl
    clear hv
    obtain ⟨tq, hv⟩ := hw
    subst tq
    refine tr_ifnonnull (pc := 10) 19 k_fn_jointOf_10 (by decide) (fun q => by cases q) (fun _ _ _ => ?_)
    refine tr_iload_n (pc := 19) 2 k_fn_jointOf_19 rfl rfl ?_
    refine tr_table (pc := 20) [72, 77, 82, 87, 95, 115, 135, 148, 153] 165 k_fn_jointOf_20 (by decide) (by decide) (by decide) (fun i t hi hx => ?_) (fun hx => ?_)
    · rcases i with _ | _ | _ | _ | _ | _ | _ | _ | _ | i
      · cases hi
        replace hv := hv.1 (mtoI (hx.trans (by decide)))
        refine tr_aload_n (pc := 72) 3 k_fn_jointOf_72 rfl rfl ?_
        refine tr_getIx (pc := 73) k_fn_jointOf_73 fl_fn_282 rfl rfl ?_
        refine tr_ireturn (pc := 76) k_fn_jointOf_76 rfl rfl ?_
        exact hv
      · cases hi
        replace hv := hv.2.1 (mtoI (hx.trans (by decide)))
        refine tr_aload_n (pc := 77) 3 k_fn_jointOf_77 rfl rfl ?_
        refine tr_getIx (pc := 78) k_fn_jointOf_78 fl_fn_139 rfl rfl ?_
        refine tr_ireturn (pc := 81) k_fn_jointOf_81 rfl rfl ?_
        exact hv
      · cases hi
        replace hv := hv.2.2.1 (mtoI (hx.trans (by decide)))
        refine tr_aload_n (pc := 82) 3 k_fn_jointOf_82 rfl rfl ?_
        refine tr_getIx (pc := 83) k_fn_jointOf_83 fl_fn_285 rfl rfl ?_
        refine tr_ireturn (pc := 86) k_fn_jointOf_86 rfl rfl ?_
        exact hv
      · cases hi
        replace hv := hv.2.2.2.1 (mtoI (hx.trans (by decide)))
        refine tr_aload_n (pc := 87) 3 k_fn_jointOf_87 rfl rfl ?_
        obtain ⟨n6, e7, hv⟩ := hv
        refine tr_getP (pc := 88) k_fn_jointOf_88 fl_fn_153 rfl (Eq.trans rfl e7) ?_
        refine tr_getIx (pc := 91) k_fn_jointOf_91 fl_fn_288 rfl rfl ?_
        refine tr_ireturn (pc := 94) k_fn_jointOf_94 rfl rfl ?_
        exact hv
      · cases hi
        replace hv := hv.2.2.2.2.1 (mtoI (hx.trans (by decide)))
        refine tr_aload_n (pc := 95) 3 k_fn_jointOf_95 rfl rfl ?_
        rcases e9 : hP h1 7 n3 2 with _ | ⟨kq, n8⟩
        · replace hv := hv.1 e9
          refine tr_getP (pc := 96) k_fn_jointOf_96 fl_fn_263 rfl (Eq.trans rfl e9) ?_
          refine tr_ifnonnull (pc := 99) 107 k_fn_jointOf_99 (by decide) (fun _ => ?_) (fun _ _ q => by cases q)
          refine tr_bipush (pc := 102) (v := -9) k_fn_jointOf_102 (by decide) ?_
          refine tr_goto (pc := 104) 114 k_fn_jointOf_104 (by decide) ?_
          refine tr_ireturn (pc := 114) k_fn_jointOf_114 rfl rfl ?_
          exact hv
        · have hw := hv.2 kq n8 e9
          clear hv
          obtain ⟨tq, hv⟩ := hw
          subst tq
          refine tr_getP (pc := 96) k_fn_jointOf_96 fl_fn_263 rfl (Eq.trans rfl e9) ?_
          refine tr_ifnonnull (pc := 99) 107 k_fn_jointOf_99 (by decide) (fun q => by cases q) (fun _ _ _ => ?_)
          refine tr_aload_n (pc := 107) 3 k_fn_jointOf_107 rfl rfl ?_
          refine tr_getP (pc := 108) k_fn_jointOf_108 fl_fn_263 rfl (Eq.trans rfl e9) ?_
          refine tr_getIx (pc := 111) k_fn_jointOf_111 fl_fn_291 rfl rfl ?_
          refine tr_ireturn (pc := 114) k_fn_jointOf_114 rfl rfl ?_
          exact hv
      · cases hi
        replace hv := hv.2.2.2.2.2.1 (mtoI (hx.trans (by decide)))
        refine tr_aload_n (pc := 115) 3 k_fn_jointOf_115 rfl rfl ?_
        rcases e11 : hP h1 7 n3 9 with _ | ⟨kq, n10⟩
        · replace hv := hv.1 e11
          refine tr_getP (pc := 116) k_fn_jointOf_116 fl_fn_109 rfl (Eq.trans rfl e11) ?_
          refine tr_ifnonnull (pc := 119) 127 k_fn_jointOf_119 (by decide) (fun _ => ?_) (fun _ _ q => by cases q)
          refine tr_bipush (pc := 122) (v := -9) k_fn_jointOf_122 (by decide) ?_
          refine tr_goto (pc := 124) 134 k_fn_jointOf_124 (by decide) ?_
          refine tr_ireturn (pc := 134) k_fn_jointOf_134 rfl rfl ?_
          exact hv
        · have hw := hv.2 kq n10 e11
          clear hv
          obtain ⟨tq, hv⟩ := hw
          subst tq
          refine tr_getP (pc := 116) k_fn_jointOf_116 fl_fn_109 rfl (Eq.trans rfl e11) ?_
          refine tr_ifnonnull (pc := 119) 127 k_fn_jointOf_119 (by decide) (fun q => by cases q) (fun _ _ _ => ?_)
          refine tr_aload_n (pc := 127) 3 k_fn_jointOf_127 rfl rfl ?_
          refine tr_getP (pc := 128) k_fn_jointOf_128 fl_fn_109 rfl (Eq.trans rfl e11) ?_
          refine tr_getIx (pc := 131) k_fn_jointOf_131 fl_fn_292 rfl rfl ?_
          refine tr_ireturn (pc := 134) k_fn_jointOf_134 rfl rfl ?_
          exact hv
      · cases hi
        replace hv := hv.2.2.2.2.2.2.1 (mtoI (hx.trans (by decide)))
        refine tr_aload_n (pc := 135) 3 k_fn_jointOf_135 rfl rfl ?_
        refine tr_getIx (pc := 136) k_fn_jointOf_136 fl_fn_100 rfl rfl ?_
        refine tr_if_eq (pc := 139) 146 k_fn_jointOf_139 (by decide) (fun q => ?_) (fun q => ?_)
        · replace hv := hv.1 q
          refine tr_iconst (pc := 146) (v := 0) k_fn_jointOf_146 (by decide) ?_
          refine tr_ireturn (pc := 147) k_fn_jointOf_147 rfl rfl ?_
          exact hv
        · replace hv := hv.2 q
          refine tr_iconst (pc := 142) (v := 1) k_fn_jointOf_142 (by decide) ?_
          refine tr_goto (pc := 143) 147 k_fn_jointOf_143 (by decide) ?_
          refine tr_ireturn (pc := 147) k_fn_jointOf_147 rfl rfl ?_
          exact hv
      · cases hi
        replace hv := hv.2.2.2.2.2.2.2.1 (mtoI (hx.trans (by decide)))
        refine tr_aload_n (pc := 148) 3 k_fn_jointOf_148 rfl rfl ?_
        refine tr_getIx (pc := 149) k_fn_jointOf_149 fl_fn_141 rfl rfl ?_
        refine tr_ireturn (pc := 152) k_fn_jointOf_152 rfl rfl ?_
        exact hv
      · cases hi
        replace hv := hv.2.2.2.2.2.2.2.2.1 (mtoI (hx.trans (by decide)))
        refine tr_aload_n (pc := 153) 0 k_fn_jointOf_153 rfl rfl ?_
        refine tr_getP (pc := 154) k_fn_jointOf_154 fl_fn_12 rfl (Eq.trans rfl (hskh1.1 0 0 _ rfl)) ?_
        refine tr_callV (pc := 157) (d' := d + 6) (mc' := 0) (ms' := 0) [] k_fn_jointOf_157 ca_ga_reckonAsItIs ml_fn_144 ii_ga_reckonAsItIs ⟨by decide, rfl⟩ pa_ga_reckonAsItIs (by omega) (by omega) (by omega) rfl (Nat.le_of_ble_eq_true rfl) (Nat.le_of_ble_eq_true rfl) hv (fun v h9 hv => ?_)
        obtain ⟨rfl, hv⟩ := hv
        obtain ⟨h12, eh⟩ : ∃ z, z = h9 := ⟨_, rfl⟩
        subst eh
        obtain ⟨hskh12, hv⟩ := hv
        show mT g me_fn_jointOf (d + 7) 0 0 160 [some (vr 0 0), some (vi x1), some (vi x2), some (vr 7 n3)] [] h12 _
        refine tr_aload_n (pc := 160) 3 k_fn_jointOf_160 rfl rfl ?_
        refine tr_callV (pc := 161) (d' := d + 6) (mc' := 0) (ms' := 0) [] k_fn_jointOf_161 ca_jn_lossNow ml_fn_293 ii_jn_lossNow ⟨by decide, rfl⟩ pa_jn_lossNow (by omega) (by omega) (by omega) rfl (Nat.le_of_ble_eq_true rfl) (Nat.le_of_ble_eq_true rfl) hv (fun v h9 hv => ?_)
        obtain ⟨y14, rfl, hv⟩ := hv
        obtain ⟨h13, eh⟩ : ∃ z, z = h9 := ⟨_, rfl⟩
        subst eh
        obtain ⟨hskh13, hv⟩ := hv
        show mT g me_fn_jointOf (d + 7) 0 0 164 [some (vr 0 0), some (vi x1), some (vi x2), some (vr 7 n3)] [vi y14] h13 _
        refine tr_ireturn (pc := 164) k_fn_jointOf_164 rfl rfl ?_
        exact hv
      · exact absurd hi (by simp)
    · replace hv := hv.2.2.2.2.2.2.2.2.2 (fun e => hx 0 (by decide) (by rw [e]; decide)) (fun e => hx 1 (by decide) (by rw [e]; decide)) (fun e => hx 2 (by decide) (by rw [e]; decide)) (fun e => hx 3 (by decide) (by rw [e]; decide)) (fun e => hx 4 (by decide) (by rw [e]; decide)) (fun e => hx 5 (by decide) (by rw [e]; decide)) (fun e => hx 6 (by decide) (by rw [e]; decide)) (fun e => hx 7 (by decide) (by rw [e]; decide)) (fun e => hx 8 (by decide) (by rw [e]; decide))
      refine tr_aload_n (pc := 165) 0 k_fn_jointOf_165 rfl rfl ?_
      refine tr_bipush (pc := 166) (v := -2) k_fn_jointOf_166 (by decide) ?_
      refine tr_callV (pc := 168) (d' := d + 6) (mc' := 0) (ms' := 0) [vi (-2 : Int32)] k_fn_jointOf_168 ca_fn_refuse ml_fn_56 ii_fn_refuse ⟨by decide, rfl⟩ pa_fn_refuse (by omega) (by omega) (by omega) rfl (Nat.le_of_ble_eq_true rfl) (Nat.le_of_ble_eq_true rfl) hv (fun v h9 hv => ?_)
      obtain ⟨y16, rfl, hv⟩ := hv
      obtain ⟨h15, eh⟩ : ∃ z, z = h9 := ⟨_, rfl⟩
      subst eh
      obtain ⟨hskh15, hv⟩ := hv
      show mT g me_fn_jointOf (d + 7) 0 0 171 [some (vr 0 0), some (vi x1), some (vi x2), some (vr 7 n3)] [vi y16] h15 _
      refine tr_ireturn (pc := 171) k_fn_jointOf_171 rfl rfl ?_
      exact hv
theorem v_fn_count_0 {g : mG} {d : Nat} (x1 : Int32) {h : mH} {Q : Option mV → mH → Prop} (hsk : mSK h) (hv : ((x1 = 0 → Q (some (vi (hI h 1 0 4))) h) ∧ (x1 = 1 → Q (some (vi (hI h 2 0 1))) h) ∧ (x1 = 2 → Q (some (vi (hI h 2 1 1))) h) ∧ (x1 = 3 → Q (some (vi (hI h 2 2 1))) h) ∧ (x1 = 4 → mT g me_it_bitCount (d + 4) 0 0 0 [some (vi (hI h 1 0 3))] [] h (fun v h1 => ∃ y2, v = some (vi y2) ∧ mSK h1 ∧ Q (some (vi y2)) h1)) ∧ (x1 = 5 → Q (some (vi (hI h 2 3 1))) h) ∧ (x1 = 6 → mT g me_ga_emptyPipes (d + 4) 0 0 0 [some (vr 1 0), none, none] [] h (fun v h3 => ∃ y4, v = some (vi y4) ∧ mSK h3 ∧ Q (some (vi y4)) h3)) ∧ (¬ x1 = 0 → ¬ x1 = 1 → ¬ x1 = 2 → ¬ x1 = 3 → ¬ x1 = 4 → ¬ x1 = 5 → ¬ x1 = 6 → (((x1 - (10 : Int32)) < (1 : Int32) → Q (some (vi (-9 : Int32))) h) ∧ (¬ (x1 - (10 : Int32)) < (1 : Int32) → (((6 : Int32) < (x1 - (10 : Int32)) → Q (some (vi (-9 : Int32))) h) ∧ (¬ (6 : Int32) < (x1 - (10 : Int32)) → (((7 : Int32) ≤ (x1 - (10 : Int32)) → Q (some (vi (-9 : Int32))) h) ∧ (¬ (7 : Int32) ≤ (x1 - (10 : Int32)) → (vp_in (x1 - (10 : Int32)) 7 ∧ Q (some (vi (hI h 11 5 ((x1 - (10 : Int32)).toNatClampNeg)))) h)))))))))) : mT g me_fn_count (d + 5) 0 0 0 [some (vr 0 0), some (vi x1)] [] h Q := by
  refine tr_iload_n (pc := 0) 1 k_fn_count_0 rfl rfl ?_
  refine tr_table (pc := 1) [44, 52, 63, 74, 85, 96, 104] 112 k_fn_count_1 (by decide) (by decide) (by decide) (fun i t hi hx => ?_) (fun hx => ?_)
  · rcases i with _ | _ | _ | _ | _ | _ | _ | i
    · cases hi
      replace hv := hv.1 (mtoI (hx.trans (by decide)))
      refine tr_aload_n (pc := 44) 0 k_fn_count_44 rfl rfl ?_
      refine tr_getP (pc := 45) k_fn_count_45 fl_fn_12 rfl (Eq.trans rfl (hsk.1 0 0 _ rfl)) ?_
      refine tr_getIx (pc := 48) k_fn_count_48 fl_fn_171 rfl rfl ?_
      refine tr_ireturn (pc := 51) k_fn_count_51 rfl rfl ?_
      exact hv
    · cases hi
      replace hv := hv.2.1 (mtoI (hx.trans (by decide)))
      refine tr_aload_n (pc := 52) 0 k_fn_count_52 rfl rfl ?_
      refine tr_getP (pc := 53) k_fn_count_53 fl_fn_12 rfl (Eq.trans rfl (hsk.1 0 0 _ rfl)) ?_
      refine tr_getP (pc := 56) k_fn_count_56 fl_fn_60 rfl (Eq.trans rfl (hsk.1 1 0 _ rfl)) ?_
      refine tr_callV (pc := 59) (d' := d + 4) (mc' := 0) (ms' := 0) [] k_fn_count_59 ca_al_size ml_fn_63 ii_al_size ⟨by decide, rfl⟩ pa_al_size (by omega) (by omega) (by omega) rfl (Nat.le_of_ble_eq_true rfl) (Nat.le_of_ble_eq_true rfl) (Qk := fun v h9 => mT g me_fn_count (d + 5) 0 0 62 [some (vr 0 0), some (vi x1)] (v.toList ++ []) h9 _) ?_ (fun _ _ z => z)
      show mT g me_al_size (d + 4) 0 0 0 [some (vr 2 0)] [] h _
      refine tr_aload_n (pc := 0) 0 k_al_size_0 rfl rfl ?_
      refine tr_getIx (pc := 1) k_al_size_1 fl_al_48 rfl rfl ?_
      refine tr_ireturn (pc := 4) k_al_size_4 rfl rfl ?_
      show mT g me_fn_count (d + 5) 0 0 62 [some (vr 0 0), some (vi x1)] [vi (hI h 2 0 1)] h _
      refine tr_ireturn (pc := 62) k_fn_count_62 rfl rfl ?_
      exact hv
    · cases hi
      replace hv := hv.2.2.1 (mtoI (hx.trans (by decide)))
      refine tr_aload_n (pc := 63) 0 k_fn_count_63 rfl rfl ?_
      refine tr_getP (pc := 64) k_fn_count_64 fl_fn_12 rfl (Eq.trans rfl (hsk.1 0 0 _ rfl)) ?_
      refine tr_getP (pc := 67) k_fn_count_67 fl_fn_97 rfl (Eq.trans rfl (hsk.1 1 1 _ rfl)) ?_
      refine tr_callV (pc := 70) (d' := d + 4) (mc' := 0) (ms' := 0) [] k_fn_count_70 ca_al_size ml_fn_63 ii_al_size ⟨by decide, rfl⟩ pa_al_size (by omega) (by omega) (by omega) rfl (Nat.le_of_ble_eq_true rfl) (Nat.le_of_ble_eq_true rfl) (Qk := fun v h9 => mT g me_fn_count (d + 5) 0 0 73 [some (vr 0 0), some (vi x1)] (v.toList ++ []) h9 _) ?_ (fun _ _ z => z)
      show mT g me_al_size (d + 4) 0 0 0 [some (vr 2 1)] [] h _
      refine tr_aload_n (pc := 0) 0 k_al_size_0 rfl rfl ?_
      refine tr_getIx (pc := 1) k_al_size_1 fl_al_48 rfl rfl ?_
      refine tr_ireturn (pc := 4) k_al_size_4 rfl rfl ?_
      show mT g me_fn_count (d + 5) 0 0 73 [some (vr 0 0), some (vi x1)] [vi (hI h 2 1 1)] h _
      refine tr_ireturn (pc := 73) k_fn_count_73 rfl rfl ?_
      exact hv
    · cases hi
      replace hv := hv.2.2.2.1 (mtoI (hx.trans (by decide)))
      refine tr_aload_n (pc := 74) 0 k_fn_count_74 rfl rfl ?_
      refine tr_getP (pc := 75) k_fn_count_75 fl_fn_12 rfl (Eq.trans rfl (hsk.1 0 0 _ rfl)) ?_
      refine tr_getP (pc := 78) k_fn_count_78 fl_fn_113 rfl (Eq.trans rfl (hsk.1 1 2 _ rfl)) ?_
      refine tr_callV (pc := 81) (d' := d + 4) (mc' := 0) (ms' := 0) [] k_fn_count_81 ca_al_size ml_fn_63 ii_al_size ⟨by decide, rfl⟩ pa_al_size (by omega) (by omega) (by omega) rfl (Nat.le_of_ble_eq_true rfl) (Nat.le_of_ble_eq_true rfl) (Qk := fun v h9 => mT g me_fn_count (d + 5) 0 0 84 [some (vr 0 0), some (vi x1)] (v.toList ++ []) h9 _) ?_ (fun _ _ z => z)
      show mT g me_al_size (d + 4) 0 0 0 [some (vr 2 2)] [] h _
      refine tr_aload_n (pc := 0) 0 k_al_size_0 rfl rfl ?_
      refine tr_getIx (pc := 1) k_al_size_1 fl_al_48 rfl rfl ?_
      refine tr_ireturn (pc := 4) k_al_size_4 rfl rfl ?_
      show mT g me_fn_count (d + 5) 0 0 84 [some (vr 0 0), some (vi x1)] [vi (hI h 2 2 1)] h _
      refine tr_ireturn (pc := 84) k_fn_count_84 rfl rfl ?_
      exact hv
    · cases hi
      replace hv := hv.2.2.2.2.1 (mtoI (hx.trans (by decide)))
      refine tr_aload_n (pc := 85) 0 k_fn_count_85 rfl rfl ?_
      refine tr_getP (pc := 86) k_fn_count_86 fl_fn_12 rfl (Eq.trans rfl (hsk.1 0 0 _ rfl)) ?_
      refine tr_getIx (pc := 89) k_fn_count_89 fl_fn_129 rfl rfl ?_
      refine tr_callS (pc := 92) (d' := d + 4) (mc' := 0) (ms' := 0) [vi (hI h 1 0 3)] k_fn_count_92 ca_it_bitCount ml_fn_296 is_it_bitCount pa_it_bitCount (by omega) (by omega) (by omega) rfl (Nat.le_of_ble_eq_true rfl) (Nat.le_of_ble_eq_true rfl) hv (fun v h9 hv => ?_)
      obtain ⟨y2, rfl, hv⟩ := hv
      obtain ⟨h1, eh⟩ : ∃ z, z = h9 := ⟨_, rfl⟩
      subst eh
      obtain ⟨hskh1, hv⟩ := hv
      show mT g me_fn_count (d + 5) 0 0 95 [some (vr 0 0), some (vi x1)] [vi y2] h1 _
      refine tr_ireturn (pc := 95) k_fn_count_95 rfl rfl ?_
      exact hv
    · cases hi
      replace hv := hv.2.2.2.2.2.1 (mtoI (hx.trans (by decide)))
      refine tr_aload_n (pc := 96) 0 k_fn_count_96 rfl rfl ?_
      refine tr_getP (pc := 97) k_fn_count_97 fl_fn_19 rfl (Eq.trans rfl (hsk.1 0 1 _ rfl)) ?_
      refine tr_callV (pc := 100) (d' := d + 4) (mc' := 0) (ms' := 0) [] k_fn_count_100 ca_al_size ml_fn_63 ii_al_size ⟨by decide, rfl⟩ pa_al_size (by omega) (by omega) (by omega) rfl (Nat.le_of_ble_eq_true rfl) (Nat.le_of_ble_eq_true rfl) (Qk := fun v h9 => mT g me_fn_count (d + 5) 0 0 103 [some (vr 0 0), some (vi x1)] (v.toList ++ []) h9 _) ?_ (fun _ _ z => z)
      show mT g me_al_size (d + 4) 0 0 0 [some (vr 2 3)] [] h _
      refine tr_aload_n (pc := 0) 0 k_al_size_0 rfl rfl ?_
      refine tr_getIx (pc := 1) k_al_size_1 fl_al_48 rfl rfl ?_
      refine tr_ireturn (pc := 4) k_al_size_4 rfl rfl ?_
      show mT g me_fn_count (d + 5) 0 0 103 [some (vr 0 0), some (vi x1)] [vi (hI h 2 3 1)] h _
      refine tr_ireturn (pc := 103) k_fn_count_103 rfl rfl ?_
      exact hv
    · cases hi
      replace hv := hv.2.2.2.2.2.2.1 (mtoI (hx.trans (by decide)))
      refine tr_aload_n (pc := 104) 0 k_fn_count_104 rfl rfl ?_
      refine tr_getP (pc := 105) k_fn_count_105 fl_fn_12 rfl (Eq.trans rfl (hsk.1 0 0 _ rfl)) ?_
      refine tr_callV (pc := 108) (d' := d + 4) (mc' := 0) (ms' := 0) [] k_fn_count_108 ca_ga_emptyPipes ml_fn_301 ii_ga_emptyPipes ⟨by decide, rfl⟩ pa_ga_emptyPipes (by omega) (by omega) (by omega) rfl (Nat.le_of_ble_eq_true rfl) (Nat.le_of_ble_eq_true rfl) hv (fun v h9 hv => ?_)
      obtain ⟨y4, rfl, hv⟩ := hv
      obtain ⟨h3, eh⟩ : ∃ z, z = h9 := ⟨_, rfl⟩
      subst eh
      obtain ⟨hskh3, hv⟩ := hv
      show mT g me_fn_count (d + 5) 0 0 111 [some (vr 0 0), some (vi x1)] [vi y4] h3 _
      refine tr_ireturn (pc := 111) k_fn_count_111 rfl rfl ?_
      exact hv
    · exact absurd hi (by simp)
  · replace hv := hv.2.2.2.2.2.2.2 (fun e => hx 0 (by decide) (by rw [e]; decide)) (fun e => hx 1 (by decide) (by rw [e]; decide)) (fun e => hx 2 (by decide) (by rw [e]; decide)) (fun e => hx 3 (by decide) (by rw [e]; decide)) (fun e => hx 4 (by decide) (by rw [e]; decide)) (fun e => hx 5 (by decide) (by rw [e]; decide)) (fun e => hx 6 (by decide) (by rw [e]; decide))
    refine tr_aload_n (pc := 112) 0 k_fn_count_112 rfl rfl ?_
    refine tr_iload_n (pc := 113) 1 k_fn_count_113 rfl rfl ?_
    refine tr_bipush (pc := 114) (v := 10) k_fn_count_114 (by decide) ?_
    refine tr_isub (pc := 116) k_fn_count_116 ?_
    refine tr_callV (pc := 117) (d' := d + 4) (mc' := 0) (ms' := 0) [vi (x1 - (10 : Int32))] k_fn_count_117 ca_fn_refusalsOf ml_fn_304 ii_fn_refusalsOf ⟨by decide, rfl⟩ pa_fn_refusalsOf (by omega) (by omega) (by omega) rfl (Nat.le_of_ble_eq_true rfl) (Nat.le_of_ble_eq_true rfl) (Qk := fun v h9 => mT g me_fn_count (d + 5) 0 0 120 [some (vr 0 0), some (vi x1)] (v.toList ++ []) h9 _) ?_ (fun _ _ z => z)
    show mT g me_fn_refusalsOf (d + 4) 0 0 0 [some (vr 0 0), some (vi (x1 - (10 : Int32)))] [] h _
    refine tr_iload_n (pc := 0) 1 k_fn_refusalsOf_0 rfl rfl ?_
    refine tr_iconst (pc := 1) (v := 1) k_fn_refusalsOf_1 (by decide) ?_
    refine tr_icmp_lt (pc := 2) 29 k_fn_refusalsOf_2 (by decide) (fun q => ?_) (fun q => ?_)
    · replace hv := hv.1 q
      refine tr_bipush (pc := 29) (v := -9) k_fn_refusalsOf_29 (by decide) ?_
      refine tr_ireturn (pc := 31) k_fn_refusalsOf_31 rfl rfl ?_
      show mT g me_fn_count (d + 5) 0 0 120 [some (vr 0 0), some (vi x1)] [vi (-9 : Int32)] h _
      refine tr_ireturn (pc := 120) k_fn_count_120 rfl rfl ?_
      exact hv
    · replace hv := hv.2 q
      refine tr_iload_n (pc := 5) 1 k_fn_refusalsOf_5 rfl rfl ?_
      refine tr_bipush (pc := 6) (v := 6) k_fn_refusalsOf_6 (by decide) ?_
      refine tr_icmp_gt (pc := 8) 29 k_fn_refusalsOf_8 (by decide) (fun q => ?_) (fun q => ?_)
      · replace hv := hv.1 q
        refine tr_bipush (pc := 29) (v := -9) k_fn_refusalsOf_29 (by decide) ?_
        refine tr_ireturn (pc := 31) k_fn_refusalsOf_31 rfl rfl ?_
        show mT g me_fn_count (d + 5) 0 0 120 [some (vr 0 0), some (vi x1)] [vi (-9 : Int32)] h _
        refine tr_ireturn (pc := 120) k_fn_count_120 rfl rfl ?_
        exact hv
      · replace hv := hv.2 q
        refine tr_iload_n (pc := 11) 1 k_fn_refusalsOf_11 rfl rfl ?_
        refine tr_aload_n (pc := 12) 0 k_fn_refusalsOf_12 rfl rfl ?_
        refine tr_getP (pc := 13) k_fn_refusalsOf_13 fl_fn_48 rfl (Eq.trans rfl (hsk.1 0 5 _ rfl)) ?_
        refine tr_alen (pc := 16) (v := 7) (by decide) k_fn_refusalsOf_16 (by rw [show hL _ 11 5 = 7 from hsk.2.1 11 5 _ rfl]; rfl) ?_
        refine tr_icmp_ge (pc := 17) 29 k_fn_refusalsOf_17 (by decide) (fun q => ?_) (fun q => ?_)
        · replace hv := hv.1 q
          refine tr_bipush (pc := 29) (v := -9) k_fn_refusalsOf_29 (by decide) ?_
          refine tr_ireturn (pc := 31) k_fn_refusalsOf_31 rfl rfl ?_
          show mT g me_fn_count (d + 5) 0 0 120 [some (vr 0 0), some (vi x1)] [vi (-9 : Int32)] h _
          refine tr_ireturn (pc := 120) k_fn_count_120 rfl rfl ?_
          exact hv
        · replace hv := hv.2 q
          refine tr_aload_n (pc := 20) 0 k_fn_refusalsOf_20 rfl rfl ?_
          refine tr_getP (pc := 21) k_fn_refusalsOf_21 fl_fn_48 rfl (Eq.trans rfl (hsk.1 0 5 _ rfl)) ?_
          refine tr_iload_n (pc := 24) 1 k_fn_refusalsOf_24 rfl rfl ?_
          refine tr_ialdx (pc := 25) k_fn_refusalsOf_25 (mvin (hsk.2.1 11 5 _ rfl) hv.1) rfl ?_
          replace hv := hv.2
          refine tr_goto (pc := 26) 31 k_fn_refusalsOf_26 (by decide) ?_
          refine tr_ireturn (pc := 31) k_fn_refusalsOf_31 rfl rfl ?_
          show mT g me_fn_count (d + 5) 0 0 120 [some (vr 0 0), some (vi x1)] [vi (hI h 11 5 ((x1 - (10 : Int32)).toNatClampNeg))] h _
          refine tr_ireturn (pc := 120) k_fn_count_120 rfl rfl ?_
          exact hv
theorem v_it_bitCount_0 {g : mG} {d : Nat} (x0 : Int32) {h : mH} {Q : Option mV → mH → Prop} (hsk : mSK h) (hv : Q (some (vi ((((((((x0 - (((x0.toUInt32 >>> (((1 : Int32)).toUInt32 &&& Int32.toUInt32 31)).toInt32) &&& (1431655765 : Int32))) &&& (858993459 : Int32)) + ((((x0 - (((x0.toUInt32 >>> (((1 : Int32)).toUInt32 &&& Int32.toUInt32 31)).toInt32) &&& (1431655765 : Int32))).toUInt32 >>> (((2 : Int32)).toUInt32 &&& Int32.toUInt32 31)).toInt32) &&& (858993459 : Int32))) + (((((x0 - (((x0.toUInt32 >>> (((1 : Int32)).toUInt32 &&& Int32.toUInt32 31)).toInt32) &&& (1431655765 : Int32))) &&& (858993459 : Int32)) + ((((x0 - (((x0.toUInt32 >>> (((1 : Int32)).toUInt32 &&& Int32.toUInt32 31)).toInt32) &&& (1431655765 : Int32))).toUInt32 >>> (((2 : Int32)).toUInt32 &&& Int32.toUInt32 31)).toInt32) &&& (858993459 : Int32))).toUInt32 >>> (((4 : Int32)).toUInt32 &&& Int32.toUInt32 31)).toInt32)) &&& (252645135 : Int32)) + (((((((x0 - (((x0.toUInt32 >>> (((1 : Int32)).toUInt32 &&& Int32.toUInt32 31)).toInt32) &&& (1431655765 : Int32))) &&& (858993459 : Int32)) + ((((x0 - (((x0.toUInt32 >>> (((1 : Int32)).toUInt32 &&& Int32.toUInt32 31)).toInt32) &&& (1431655765 : Int32))).toUInt32 >>> (((2 : Int32)).toUInt32 &&& Int32.toUInt32 31)).toInt32) &&& (858993459 : Int32))) + (((((x0 - (((x0.toUInt32 >>> (((1 : Int32)).toUInt32 &&& Int32.toUInt32 31)).toInt32) &&& (1431655765 : Int32))) &&& (858993459 : Int32)) + ((((x0 - (((x0.toUInt32 >>> (((1 : Int32)).toUInt32 &&& Int32.toUInt32 31)).toInt32) &&& (1431655765 : Int32))).toUInt32 >>> (((2 : Int32)).toUInt32 &&& Int32.toUInt32 31)).toInt32) &&& (858993459 : Int32))).toUInt32 >>> (((4 : Int32)).toUInt32 &&& Int32.toUInt32 31)).toInt32)) &&& (252645135 : Int32)).toUInt32 >>> (((8 : Int32)).toUInt32 &&& Int32.toUInt32 31)).toInt32)) + ((((((((x0 - (((x0.toUInt32 >>> (((1 : Int32)).toUInt32 &&& Int32.toUInt32 31)).toInt32) &&& (1431655765 : Int32))) &&& (858993459 : Int32)) + ((((x0 - (((x0.toUInt32 >>> (((1 : Int32)).toUInt32 &&& Int32.toUInt32 31)).toInt32) &&& (1431655765 : Int32))).toUInt32 >>> (((2 : Int32)).toUInt32 &&& Int32.toUInt32 31)).toInt32) &&& (858993459 : Int32))) + (((((x0 - (((x0.toUInt32 >>> (((1 : Int32)).toUInt32 &&& Int32.toUInt32 31)).toInt32) &&& (1431655765 : Int32))) &&& (858993459 : Int32)) + ((((x0 - (((x0.toUInt32 >>> (((1 : Int32)).toUInt32 &&& Int32.toUInt32 31)).toInt32) &&& (1431655765 : Int32))).toUInt32 >>> (((2 : Int32)).toUInt32 &&& Int32.toUInt32 31)).toInt32) &&& (858993459 : Int32))).toUInt32 >>> (((4 : Int32)).toUInt32 &&& Int32.toUInt32 31)).toInt32)) &&& (252645135 : Int32)) + (((((((x0 - (((x0.toUInt32 >>> (((1 : Int32)).toUInt32 &&& Int32.toUInt32 31)).toInt32) &&& (1431655765 : Int32))) &&& (858993459 : Int32)) + ((((x0 - (((x0.toUInt32 >>> (((1 : Int32)).toUInt32 &&& Int32.toUInt32 31)).toInt32) &&& (1431655765 : Int32))).toUInt32 >>> (((2 : Int32)).toUInt32 &&& Int32.toUInt32 31)).toInt32) &&& (858993459 : Int32))) + (((((x0 - (((x0.toUInt32 >>> (((1 : Int32)).toUInt32 &&& Int32.toUInt32 31)).toInt32) &&& (1431655765 : Int32))) &&& (858993459 : Int32)) + ((((x0 - (((x0.toUInt32 >>> (((1 : Int32)).toUInt32 &&& Int32.toUInt32 31)).toInt32) &&& (1431655765 : Int32))).toUInt32 >>> (((2 : Int32)).toUInt32 &&& Int32.toUInt32 31)).toInt32) &&& (858993459 : Int32))).toUInt32 >>> (((4 : Int32)).toUInt32 &&& Int32.toUInt32 31)).toInt32)) &&& (252645135 : Int32)).toUInt32 >>> (((8 : Int32)).toUInt32 &&& Int32.toUInt32 31)).toInt32)).toUInt32 >>> (((16 : Int32)).toUInt32 &&& Int32.toUInt32 31)).toInt32)) &&& (63 : Int32)))) h) : mT g me_it_bitCount (d + 1) 0 0 0 [some (vi x0)] [] h Q := by
  refine tr_iload_n (pc := 0) 0 k_it_bitCount_0 rfl rfl ?_
  refine tr_iload_n (pc := 1) 0 k_it_bitCount_1 rfl rfl ?_
  refine tr_iconst (pc := 2) (v := 1) k_it_bitCount_2 (by decide) ?_
  refine tr_iushr (pc := 3) (v := ((x0.toUInt32 >>> (((1 : Int32)).toUInt32 &&& Int32.toUInt32 31)).toInt32)) k_it_bitCount_3 rfl ?_
  refine tr_ldcw (pc := 4) (v := 1431655765) k_it_bitCount_4 co_it_265 ?_
  refine tr_iand (pc := 7) k_it_bitCount_7 ?_
  refine tr_isub (pc := 8) k_it_bitCount_8 ?_
  refine tr_istore_n (pc := 9) 0 k_it_bitCount_9 rfl (by decide) rfl ?_
  show mT g me_it_bitCount (d + 1) 0 0 10 [some (vi (x0 - (((x0.toUInt32 >>> (((1 : Int32)).toUInt32 &&& Int32.toUInt32 31)).toInt32) &&& (1431655765 : Int32))))] [] h _
  refine tr_iload_n (pc := 10) 0 k_it_bitCount_10 rfl rfl ?_
  refine tr_ldcw (pc := 11) (v := 858993459) k_it_bitCount_11 co_it_266 ?_
  refine tr_iand (pc := 14) k_it_bitCount_14 ?_
  refine tr_iload_n (pc := 15) 0 k_it_bitCount_15 rfl rfl ?_
  refine tr_iconst (pc := 16) (v := 2) k_it_bitCount_16 (by decide) ?_
  refine tr_iushr (pc := 17) (v := (((x0 - (((x0.toUInt32 >>> (((1 : Int32)).toUInt32 &&& Int32.toUInt32 31)).toInt32) &&& (1431655765 : Int32))).toUInt32 >>> (((2 : Int32)).toUInt32 &&& Int32.toUInt32 31)).toInt32)) k_it_bitCount_17 rfl ?_
  refine tr_ldcw (pc := 18) (v := 858993459) k_it_bitCount_18 co_it_266 ?_
  refine tr_iand (pc := 21) k_it_bitCount_21 ?_
  refine tr_iadd (pc := 22) k_it_bitCount_22 ?_
  refine tr_istore_n (pc := 23) 0 k_it_bitCount_23 rfl (by decide) rfl ?_
  show mT g me_it_bitCount (d + 1) 0 0 24 [some (vi (((x0 - (((x0.toUInt32 >>> (((1 : Int32)).toUInt32 &&& Int32.toUInt32 31)).toInt32) &&& (1431655765 : Int32))) &&& (858993459 : Int32)) + ((((x0 - (((x0.toUInt32 >>> (((1 : Int32)).toUInt32 &&& Int32.toUInt32 31)).toInt32) &&& (1431655765 : Int32))).toUInt32 >>> (((2 : Int32)).toUInt32 &&& Int32.toUInt32 31)).toInt32) &&& (858993459 : Int32))))] [] h _
  refine tr_iload_n (pc := 24) 0 k_it_bitCount_24 rfl rfl ?_
  refine tr_iload_n (pc := 25) 0 k_it_bitCount_25 rfl rfl ?_
  refine tr_iconst (pc := 26) (v := 4) k_it_bitCount_26 (by decide) ?_
  refine tr_iushr (pc := 27) (v := (((((x0 - (((x0.toUInt32 >>> (((1 : Int32)).toUInt32 &&& Int32.toUInt32 31)).toInt32) &&& (1431655765 : Int32))) &&& (858993459 : Int32)) + ((((x0 - (((x0.toUInt32 >>> (((1 : Int32)).toUInt32 &&& Int32.toUInt32 31)).toInt32) &&& (1431655765 : Int32))).toUInt32 >>> (((2 : Int32)).toUInt32 &&& Int32.toUInt32 31)).toInt32) &&& (858993459 : Int32))).toUInt32 >>> (((4 : Int32)).toUInt32 &&& Int32.toUInt32 31)).toInt32)) k_it_bitCount_27 rfl ?_
  refine tr_iadd (pc := 28) k_it_bitCount_28 ?_
  refine tr_ldcw (pc := 29) (v := 252645135) k_it_bitCount_29 co_it_267 ?_
  refine tr_iand (pc := 32) k_it_bitCount_32 ?_
  refine tr_istore_n (pc := 33) 0 k_it_bitCount_33 rfl (by decide) rfl ?_
  show mT g me_it_bitCount (d + 1) 0 0 34 [some (vi (((((x0 - (((x0.toUInt32 >>> (((1 : Int32)).toUInt32 &&& Int32.toUInt32 31)).toInt32) &&& (1431655765 : Int32))) &&& (858993459 : Int32)) + ((((x0 - (((x0.toUInt32 >>> (((1 : Int32)).toUInt32 &&& Int32.toUInt32 31)).toInt32) &&& (1431655765 : Int32))).toUInt32 >>> (((2 : Int32)).toUInt32 &&& Int32.toUInt32 31)).toInt32) &&& (858993459 : Int32))) + (((((x0 - (((x0.toUInt32 >>> (((1 : Int32)).toUInt32 &&& Int32.toUInt32 31)).toInt32) &&& (1431655765 : Int32))) &&& (858993459 : Int32)) + ((((x0 - (((x0.toUInt32 >>> (((1 : Int32)).toUInt32 &&& Int32.toUInt32 31)).toInt32) &&& (1431655765 : Int32))).toUInt32 >>> (((2 : Int32)).toUInt32 &&& Int32.toUInt32 31)).toInt32) &&& (858993459 : Int32))).toUInt32 >>> (((4 : Int32)).toUInt32 &&& Int32.toUInt32 31)).toInt32)) &&& (252645135 : Int32)))] [] h _
  refine tr_iload_n (pc := 34) 0 k_it_bitCount_34 rfl rfl ?_
  refine tr_iload_n (pc := 35) 0 k_it_bitCount_35 rfl rfl ?_
  refine tr_bipush (pc := 36) (v := 8) k_it_bitCount_36 (by decide) ?_
  refine tr_iushr (pc := 38) (v := (((((((x0 - (((x0.toUInt32 >>> (((1 : Int32)).toUInt32 &&& Int32.toUInt32 31)).toInt32) &&& (1431655765 : Int32))) &&& (858993459 : Int32)) + ((((x0 - (((x0.toUInt32 >>> (((1 : Int32)).toUInt32 &&& Int32.toUInt32 31)).toInt32) &&& (1431655765 : Int32))).toUInt32 >>> (((2 : Int32)).toUInt32 &&& Int32.toUInt32 31)).toInt32) &&& (858993459 : Int32))) + (((((x0 - (((x0.toUInt32 >>> (((1 : Int32)).toUInt32 &&& Int32.toUInt32 31)).toInt32) &&& (1431655765 : Int32))) &&& (858993459 : Int32)) + ((((x0 - (((x0.toUInt32 >>> (((1 : Int32)).toUInt32 &&& Int32.toUInt32 31)).toInt32) &&& (1431655765 : Int32))).toUInt32 >>> (((2 : Int32)).toUInt32 &&& Int32.toUInt32 31)).toInt32) &&& (858993459 : Int32))).toUInt32 >>> (((4 : Int32)).toUInt32 &&& Int32.toUInt32 31)).toInt32)) &&& (252645135 : Int32)).toUInt32 >>> (((8 : Int32)).toUInt32 &&& Int32.toUInt32 31)).toInt32)) k_it_bitCount_38 rfl ?_
  refine tr_iadd (pc := 39) k_it_bitCount_39 ?_
  refine tr_istore_n (pc := 40) 0 k_it_bitCount_40 rfl (by decide) rfl ?_
  show mT g me_it_bitCount (d + 1) 0 0 41 [some (vi ((((((x0 - (((x0.toUInt32 >>> (((1 : Int32)).toUInt32 &&& Int32.toUInt32 31)).toInt32) &&& (1431655765 : Int32))) &&& (858993459 : Int32)) + ((((x0 - (((x0.toUInt32 >>> (((1 : Int32)).toUInt32 &&& Int32.toUInt32 31)).toInt32) &&& (1431655765 : Int32))).toUInt32 >>> (((2 : Int32)).toUInt32 &&& Int32.toUInt32 31)).toInt32) &&& (858993459 : Int32))) + (((((x0 - (((x0.toUInt32 >>> (((1 : Int32)).toUInt32 &&& Int32.toUInt32 31)).toInt32) &&& (1431655765 : Int32))) &&& (858993459 : Int32)) + ((((x0 - (((x0.toUInt32 >>> (((1 : Int32)).toUInt32 &&& Int32.toUInt32 31)).toInt32) &&& (1431655765 : Int32))).toUInt32 >>> (((2 : Int32)).toUInt32 &&& Int32.toUInt32 31)).toInt32) &&& (858993459 : Int32))).toUInt32 >>> (((4 : Int32)).toUInt32 &&& Int32.toUInt32 31)).toInt32)) &&& (252645135 : Int32)) + (((((((x0 - (((x0.toUInt32 >>> (((1 : Int32)).toUInt32 &&& Int32.toUInt32 31)).toInt32) &&& (1431655765 : Int32))) &&& (858993459 : Int32)) + ((((x0 - (((x0.toUInt32 >>> (((1 : Int32)).toUInt32 &&& Int32.toUInt32 31)).toInt32) &&& (1431655765 : Int32))).toUInt32 >>> (((2 : Int32)).toUInt32 &&& Int32.toUInt32 31)).toInt32) &&& (858993459 : Int32))) + (((((x0 - (((x0.toUInt32 >>> (((1 : Int32)).toUInt32 &&& Int32.toUInt32 31)).toInt32) &&& (1431655765 : Int32))) &&& (858993459 : Int32)) + ((((x0 - (((x0.toUInt32 >>> (((1 : Int32)).toUInt32 &&& Int32.toUInt32 31)).toInt32) &&& (1431655765 : Int32))).toUInt32 >>> (((2 : Int32)).toUInt32 &&& Int32.toUInt32 31)).toInt32) &&& (858993459 : Int32))).toUInt32 >>> (((4 : Int32)).toUInt32 &&& Int32.toUInt32 31)).toInt32)) &&& (252645135 : Int32)).toUInt32 >>> (((8 : Int32)).toUInt32 &&& Int32.toUInt32 31)).toInt32)))] [] h _
  refine tr_iload_n (pc := 41) 0 k_it_bitCount_41 rfl rfl ?_
  refine tr_iload_n (pc := 42) 0 k_it_bitCount_42 rfl rfl ?_
  refine tr_bipush (pc := 43) (v := 16) k_it_bitCount_43 (by decide) ?_
  refine tr_iushr (pc := 45) (v := ((((((((x0 - (((x0.toUInt32 >>> (((1 : Int32)).toUInt32 &&& Int32.toUInt32 31)).toInt32) &&& (1431655765 : Int32))) &&& (858993459 : Int32)) + ((((x0 - (((x0.toUInt32 >>> (((1 : Int32)).toUInt32 &&& Int32.toUInt32 31)).toInt32) &&& (1431655765 : Int32))).toUInt32 >>> (((2 : Int32)).toUInt32 &&& Int32.toUInt32 31)).toInt32) &&& (858993459 : Int32))) + (((((x0 - (((x0.toUInt32 >>> (((1 : Int32)).toUInt32 &&& Int32.toUInt32 31)).toInt32) &&& (1431655765 : Int32))) &&& (858993459 : Int32)) + ((((x0 - (((x0.toUInt32 >>> (((1 : Int32)).toUInt32 &&& Int32.toUInt32 31)).toInt32) &&& (1431655765 : Int32))).toUInt32 >>> (((2 : Int32)).toUInt32 &&& Int32.toUInt32 31)).toInt32) &&& (858993459 : Int32))).toUInt32 >>> (((4 : Int32)).toUInt32 &&& Int32.toUInt32 31)).toInt32)) &&& (252645135 : Int32)) + (((((((x0 - (((x0.toUInt32 >>> (((1 : Int32)).toUInt32 &&& Int32.toUInt32 31)).toInt32) &&& (1431655765 : Int32))) &&& (858993459 : Int32)) + ((((x0 - (((x0.toUInt32 >>> (((1 : Int32)).toUInt32 &&& Int32.toUInt32 31)).toInt32) &&& (1431655765 : Int32))).toUInt32 >>> (((2 : Int32)).toUInt32 &&& Int32.toUInt32 31)).toInt32) &&& (858993459 : Int32))) + (((((x0 - (((x0.toUInt32 >>> (((1 : Int32)).toUInt32 &&& Int32.toUInt32 31)).toInt32) &&& (1431655765 : Int32))) &&& (858993459 : Int32)) + ((((x0 - (((x0.toUInt32 >>> (((1 : Int32)).toUInt32 &&& Int32.toUInt32 31)).toInt32) &&& (1431655765 : Int32))).toUInt32 >>> (((2 : Int32)).toUInt32 &&& Int32.toUInt32 31)).toInt32) &&& (858993459 : Int32))).toUInt32 >>> (((4 : Int32)).toUInt32 &&& Int32.toUInt32 31)).toInt32)) &&& (252645135 : Int32)).toUInt32 >>> (((8 : Int32)).toUInt32 &&& Int32.toUInt32 31)).toInt32)).toUInt32 >>> (((16 : Int32)).toUInt32 &&& Int32.toUInt32 31)).toInt32)) k_it_bitCount_45 rfl ?_
  refine tr_iadd (pc := 46) k_it_bitCount_46 ?_
  refine tr_istore_n (pc := 47) 0 k_it_bitCount_47 rfl (by decide) rfl ?_
  show mT g me_it_bitCount (d + 1) 0 0 48 [some (vi (((((((x0 - (((x0.toUInt32 >>> (((1 : Int32)).toUInt32 &&& Int32.toUInt32 31)).toInt32) &&& (1431655765 : Int32))) &&& (858993459 : Int32)) + ((((x0 - (((x0.toUInt32 >>> (((1 : Int32)).toUInt32 &&& Int32.toUInt32 31)).toInt32) &&& (1431655765 : Int32))).toUInt32 >>> (((2 : Int32)).toUInt32 &&& Int32.toUInt32 31)).toInt32) &&& (858993459 : Int32))) + (((((x0 - (((x0.toUInt32 >>> (((1 : Int32)).toUInt32 &&& Int32.toUInt32 31)).toInt32) &&& (1431655765 : Int32))) &&& (858993459 : Int32)) + ((((x0 - (((x0.toUInt32 >>> (((1 : Int32)).toUInt32 &&& Int32.toUInt32 31)).toInt32) &&& (1431655765 : Int32))).toUInt32 >>> (((2 : Int32)).toUInt32 &&& Int32.toUInt32 31)).toInt32) &&& (858993459 : Int32))).toUInt32 >>> (((4 : Int32)).toUInt32 &&& Int32.toUInt32 31)).toInt32)) &&& (252645135 : Int32)) + (((((((x0 - (((x0.toUInt32 >>> (((1 : Int32)).toUInt32 &&& Int32.toUInt32 31)).toInt32) &&& (1431655765 : Int32))) &&& (858993459 : Int32)) + ((((x0 - (((x0.toUInt32 >>> (((1 : Int32)).toUInt32 &&& Int32.toUInt32 31)).toInt32) &&& (1431655765 : Int32))).toUInt32 >>> (((2 : Int32)).toUInt32 &&& Int32.toUInt32 31)).toInt32) &&& (858993459 : Int32))) + (((((x0 - (((x0.toUInt32 >>> (((1 : Int32)).toUInt32 &&& Int32.toUInt32 31)).toInt32) &&& (1431655765 : Int32))) &&& (858993459 : Int32)) + ((((x0 - (((x0.toUInt32 >>> (((1 : Int32)).toUInt32 &&& Int32.toUInt32 31)).toInt32) &&& (1431655765 : Int32))).toUInt32 >>> (((2 : Int32)).toUInt32 &&& Int32.toUInt32 31)).toInt32) &&& (858993459 : Int32))).toUInt32 >>> (((4 : Int32)).toUInt32 &&& Int32.toUInt32 31)).toInt32)) &&& (252645135 : Int32)).toUInt32 >>> (((8 : Int32)).toUInt32 &&& Int32.toUInt32 31)).toInt32)) + ((((((((x0 - (((x0.toUInt32 >>> (((1 : Int32)).toUInt32 &&& Int32.toUInt32 31)).toInt32) &&& (1431655765 : Int32))) &&& (858993459 : Int32)) + ((((x0 - (((x0.toUInt32 >>> (((1 : Int32)).toUInt32 &&& Int32.toUInt32 31)).toInt32) &&& (1431655765 : Int32))).toUInt32 >>> (((2 : Int32)).toUInt32 &&& Int32.toUInt32 31)).toInt32) &&& (858993459 : Int32))) + (((((x0 - (((x0.toUInt32 >>> (((1 : Int32)).toUInt32 &&& Int32.toUInt32 31)).toInt32) &&& (1431655765 : Int32))) &&& (858993459 : Int32)) + ((((x0 - (((x0.toUInt32 >>> (((1 : Int32)).toUInt32 &&& Int32.toUInt32 31)).toInt32) &&& (1431655765 : Int32))).toUInt32 >>> (((2 : Int32)).toUInt32 &&& Int32.toUInt32 31)).toInt32) &&& (858993459 : Int32))).toUInt32 >>> (((4 : Int32)).toUInt32 &&& Int32.toUInt32 31)).toInt32)) &&& (252645135 : Int32)) + (((((((x0 - (((x0.toUInt32 >>> (((1 : Int32)).toUInt32 &&& Int32.toUInt32 31)).toInt32) &&& (1431655765 : Int32))) &&& (858993459 : Int32)) + ((((x0 - (((x0.toUInt32 >>> (((1 : Int32)).toUInt32 &&& Int32.toUInt32 31)).toInt32) &&& (1431655765 : Int32))).toUInt32 >>> (((2 : Int32)).toUInt32 &&& Int32.toUInt32 31)).toInt32) &&& (858993459 : Int32))) + (((((x0 - (((x0.toUInt32 >>> (((1 : Int32)).toUInt32 &&& Int32.toUInt32 31)).toInt32) &&& (1431655765 : Int32))) &&& (858993459 : Int32)) + ((((x0 - (((x0.toUInt32 >>> (((1 : Int32)).toUInt32 &&& Int32.toUInt32 31)).toInt32) &&& (1431655765 : Int32))).toUInt32 >>> (((2 : Int32)).toUInt32 &&& Int32.toUInt32 31)).toInt32) &&& (858993459 : Int32))).toUInt32 >>> (((4 : Int32)).toUInt32 &&& Int32.toUInt32 31)).toInt32)) &&& (252645135 : Int32)).toUInt32 >>> (((8 : Int32)).toUInt32 &&& Int32.toUInt32 31)).toInt32)).toUInt32 >>> (((16 : Int32)).toUInt32 &&& Int32.toUInt32 31)).toInt32)))] [] h _
  refine tr_iload_n (pc := 48) 0 k_it_bitCount_48 rfl rfl ?_
  refine tr_bipush (pc := 49) (v := 63) k_it_bitCount_49 (by decide) ?_
  refine tr_iand (pc := 51) k_it_bitCount_51 ?_
  refine tr_ireturn (pc := 52) k_it_bitCount_52 rfl rfl ?_
  exact hv
theorem v_ga_emptyPipes_0 {g : mG} {d : Nat}  {h : mH} {Q : Option mV → mH → Prop} (hsk : mSK h) (hv : mT g me_ga_emptyPipes (d + 4) 0 0 4 [some (vr 1 0), some (vi (0 : Int32)), some (vi (0 : Int32))] [] h Q) : mT g me_ga_emptyPipes (d + 4) 0 0 0 [some (vr 1 0), none, none] [] h Q := by
  refine tr_iconst (pc := 0) (v := 0) k_ga_emptyPipes_0 (by decide) ?_
  refine tr_istore_n (pc := 1) 1 k_ga_emptyPipes_1 rfl (by decide) rfl ?_
  show mT g me_ga_emptyPipes (d + 4) 0 0 2 [some (vr 1 0), some (vi (0 : Int32)), none] [] h _
  refine tr_iconst (pc := 2) (v := 0) k_ga_emptyPipes_2 (by decide) ?_
  refine tr_istore_n (pc := 3) 2 k_ga_emptyPipes_3 rfl (by decide) rfl ?_
  show mT g me_ga_emptyPipes (d + 4) 0 0 4 [some (vr 1 0), some (vi (0 : Int32)), some (vi (0 : Int32))] [] h _
  exact hv
theorem v_ga_emptyPipes_4 {g : mG} {d : Nat} (x1 : Int32) (x2 : Int32) {h : mH} {Q : Option mV → mH → Prop} (hsk : mSK h) (hv : (((hI h 2 1 1) ≤ x2 → Q (some (vi x1)) h) ∧ (¬ (hI h 2 1 1) ≤ x2 → (∃ n1, mGet h 1 x2 (some (7, n1)) ∧ (((hI h 7 n1 8) = 0 → mT g me_ga_emptyPipes (d + 4) 0 0 4 [some (vr 1 0), some (vi (x1 + (0 : Int32))), some (vi (x2 + 1))] [] h Q) ∧ (¬ (hI h 7 n1 8) = 0 → mT g me_ga_emptyPipes (d + 4) 0 0 4 [some (vr 1 0), some (vi (x1 + (1 : Int32))), some (vi (x2 + 1))] [] h Q)))))) : mT g me_ga_emptyPipes (d + 4) 0 0 4 [some (vr 1 0), some (vi x1), some (vi x2)] [] h Q := by
  refine tr_iload_n (pc := 4) 2 k_ga_emptyPipes_4 rfl rfl ?_
  refine tr_aload_n (pc := 5) 0 k_ga_emptyPipes_5 rfl rfl ?_
  refine tr_getP (pc := 6) k_ga_emptyPipes_6 fl_ga_18 rfl (Eq.trans rfl (hsk.1 1 1 _ rfl)) ?_
  refine tr_callV (pc := 9) (d' := d + 3) (mc' := 0) (ms' := 0) [] k_ga_emptyPipes_9 ca_al_size ml_ga_24 ii_al_size ⟨by decide, rfl⟩ pa_al_size (by omega) (by omega) (by omega) rfl (Nat.le_of_ble_eq_true rfl) (Nat.le_of_ble_eq_true rfl) (Qk := fun v h9 => mT g me_ga_emptyPipes (d + 4) 0 0 12 [some (vr 1 0), some (vi x1), some (vi x2)] (v.toList ++ [vi x2]) h9 _) ?_ (fun _ _ z => z)
  show mT g me_al_size (d + 3) 0 0 0 [some (vr 2 1)] [] h _
  refine tr_aload_n (pc := 0) 0 k_al_size_0 rfl rfl ?_
  refine tr_getIx (pc := 1) k_al_size_1 fl_al_48 rfl rfl ?_
  refine tr_ireturn (pc := 4) k_al_size_4 rfl rfl ?_
  show mT g me_ga_emptyPipes (d + 4) 0 0 12 [some (vr 1 0), some (vi x1), some (vi x2)] [vi (hI h 2 1 1), vi x2] h _
  refine tr_icmp_ge (pc := 12) 46 k_ga_emptyPipes_12 (by decide) (fun q => ?_) (fun q => ?_)
  · replace hv := hv.1 q
    refine tr_iload_n (pc := 46) 1 k_ga_emptyPipes_46 rfl rfl ?_
    refine tr_ireturn (pc := 47) k_ga_emptyPipes_47 rfl rfl ?_
    exact hv
  · replace hv := hv.2 q
    refine tr_iload_n (pc := 15) 1 k_ga_emptyPipes_15 rfl rfl ?_
    refine tr_aload_n (pc := 16) 0 k_ga_emptyPipes_16 rfl rfl ?_
    refine tr_getP (pc := 17) k_ga_emptyPipes_17 fl_ga_18 rfl (Eq.trans rfl (hsk.1 1 1 _ rfl)) ?_
    refine tr_iload_n (pc := 20) 2 k_ga_emptyPipes_20 rfl rfl ?_
    obtain ⟨n1, hg, hv⟩ := hv
    refine tr_alget (pc := 21) k_ga_emptyPipes_21 ml_ga_28 (by omega) (Nat.le_of_ble_eq_true rfl) (mGet.up hg rfl rfl) ?_
    refine tr_cast (pc := 24) k_ga_emptyPipes_24 (by decide) cl_ga_34 ?_
    refine tr_getIx (pc := 27) k_ga_emptyPipes_27 fl_ga_49 rfl rfl ?_
    refine tr_if_eq (pc := 30) 37 k_ga_emptyPipes_30 (by decide) (fun q => ?_) (fun q => ?_)
    · replace hv := hv.1 q
      refine tr_iconst (pc := 37) (v := 0) k_ga_emptyPipes_37 (by decide) ?_
      refine tr_iadd (pc := 38) k_ga_emptyPipes_38 ?_
      refine tr_istore_n (pc := 39) 1 k_ga_emptyPipes_39 rfl (by decide) rfl ?_
      show mT g me_ga_emptyPipes (d + 4) 0 0 40 [some (vr 1 0), some (vi (x1 + (0 : Int32))), some (vi x2)] [] h _
      refine tr_iinc (pc := 40) (v := (x2 + 1)) k_ga_emptyPipes_40 rfl rfl (by decide) rfl ?_
      show mT g me_ga_emptyPipes (d + 4) 0 0 43 [some (vr 1 0), some (vi (x1 + (0 : Int32))), some (vi (x2 + 1))] [] h _
      refine tr_goto (pc := 43) 4 k_ga_emptyPipes_43 (by decide) ?_
      exact hv
    · replace hv := hv.2 q
      refine tr_iconst (pc := 33) (v := 1) k_ga_emptyPipes_33 (by decide) ?_
      refine tr_goto (pc := 34) 38 k_ga_emptyPipes_34 (by decide) ?_
      refine tr_iadd (pc := 38) k_ga_emptyPipes_38 ?_
      refine tr_istore_n (pc := 39) 1 k_ga_emptyPipes_39 rfl (by decide) rfl ?_
      show mT g me_ga_emptyPipes (d + 4) 0 0 40 [some (vr 1 0), some (vi (x1 + (1 : Int32))), some (vi x2)] [] h _
      refine tr_iinc (pc := 40) (v := (x2 + 1)) k_ga_emptyPipes_40 rfl rfl (by decide) rfl ?_
      show mT g me_ga_emptyPipes (d + 4) 0 0 43 [some (vr 1 0), some (vi (x1 + (1 : Int32))), some (vi (x2 + 1))] [] h _
      refine tr_goto (pc := 43) 4 k_ga_emptyPipes_43 (by decide) ?_
      exact hv
