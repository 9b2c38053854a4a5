/-! printed by my own program: walks between loop heads -/
theorem v_fn_rise_0 {g : mG} {d : Nat} (x1 : Int32) {h : mH} {Q : Option mV → mH → Prop} (hsk : mSK h) (hv : mT g me_ga_jetAt (d + 6) 0 0 0 [some (vr 1 0), some (vi x1)] [] h (fun v h1 => ∃ p2, v = some (vp p2) ∧ mSK h1 ∧ ((p2 = none → mT g me_fn_refuse (d + 6) 0 0 0 [some (vr 0 0), some (vi (-1 : Int32)), none] [] h1 (fun v h4 => ∃ y5, v = some (vi y5) ∧ mSK h4 ∧ Q (some (vi y5)) h4)) ∧ (∀ kq n3, p2 = some (kq, n3) → kq = 8 ∧ mT g me_ga_reckonAsItIs (d + 6) 0 0 0 [some (vr 1 0)] [] h1 (fun v h6 => v = none ∧ mSK h6 ∧ (∃ n7, hP h6 8 n3 2 = some (7, n7) ∧ (∃ n9, hP h6 7 n7 1 = some (6, n9) ∧ mT g me_je_riseAmong (d + 6) 0 0 0 [some (vr 8 n3), some (vi (hI h6 1 0 3)), some (vi (hI h6 6 n9 5))] [] h6 (fun v h11 => ∃ y12, v = some (vi y12) ∧ mSK h11 ∧ Q (some (vi y12)) h11)))))))) : mT g me_fn_rise (d + 7) 0 0 0 [some (vr 0 0), some (vi x1), none] [] h Q := by
  refine tr_aload_n (pc := 0) 0 k_fn_rise_0 rfl rfl ?_
  refine tr_getP (pc := 1) k_fn_rise_1 fl_fn_12 rfl (Eq.trans rfl (hsk.1 0 0 _ rfl)) ?_
  refine tr_iload_n (pc := 4) 1 k_fn_rise_4 rfl rfl ?_
  have hT := hv
  clear hv
  refine tr_callV (pc := 5) (d' := d + 6) (mc' := 0) (ms' := 0) [vi x1] k_fn_rise_5 ca_ga_jetAt ml_fn_121 ii_ga_jetAt ⟨by decide, rfl⟩ pa_ga_jetAt (by omega) (by omega) (by omega) rfl (Nat.le_of_ble_eq_true rfl) (Nat.le_of_ble_eq_true rfl) hT (fun v h9 hv => ?_)
  clear hT
  obtain ⟨p2, rfl, hv⟩ := hv
  obtain ⟨h1, eh⟩ : ∃ z, z = h9 := ⟨_, rfl⟩
  subst eh
  obtain ⟨hskh1, hv⟩ := hv
  show mT g me_fn_rise (d + 7) 0 0 8 [some (vr 0 0), some (vi x1), none] [vp p2] h1 _
  refine tr_astore_n (pc := 8) 2 k_fn_rise_8 rfl (by decide) rfl ?_
  show mT g me_fn_rise (d + 7) 0 0 9 [some (vr 0 0), some (vi x1), some (vp p2)] [] h1 _
  refine tr_aload_n (pc := 9) 2 k_fn_rise_9 rfl rfl ?_
  rcases p2 with _ | ⟨kq, n3⟩
  · replace hv := hv.1 rfl
    refine tr_ifnonnull (pc := 10) 19 k_fn_rise_10 (by decide) (fun _ => ?_) (fun _ _ q => by cases q)
    refine tr_aload_n (pc := 13) 0 k_fn_rise_13 rfl rfl ?_
    refine tr_iconst (pc := 14) (v := -1) k_fn_rise_14 (by decide) ?_
    have hT := hv
    clear hv
    refine tr_callV (pc := 15) (d' := d + 6) (mc' := 0) (ms' := 0) [vi (-1 : Int32)] k_fn_rise_15 ca_fn_refuse ml_fn_56 ii_fn_refuse ⟨by decide, rfl⟩ pa_fn_refuse (by omega) (by omega) (by omega) rfl (Nat.le_of_ble_eq_true rfl) (Nat.le_of_ble_eq_true rfl) hT (fun v h9 hv => ?_)
    clear hT
    obtain ⟨y5, rfl, hv⟩ := hv
    obtain ⟨h4, eh⟩ : ∃ z, z = h9 := ⟨_, rfl⟩
    subst eh
    obtain ⟨hskh4, hv⟩ := hv
    show mT g me_fn_rise (d + 7) 0 0 18 [some (vr 0 0), some (vi x1), some (vn)] [vi y5] h4 _
    refine tr_ireturn (pc := 18) k_fn_rise_18 rfl rfl ?_
    exact hv
  · have hw := hv.2 kq n3 rfl
    clear hv
    obtain ⟨tq, hv⟩ := hw
    subst tq
    refine tr_ifnonnull (pc := 10) 19 k_fn_rise_10 (by decide) (fun q => by cases q) (fun _ _ _ => ?_)
    refine tr_aload_n (pc := 19) 0 k_fn_rise_19 rfl rfl ?_
    refine tr_getP (pc := 20) k_fn_rise_20 fl_fn_12 rfl (Eq.trans rfl (hskh1.1 0 0 _ rfl)) ?_
    have hT := hv
    clear hv
    refine tr_callV (pc := 23) (d' := d + 6) (mc' := 0) (ms' := 0) [] k_fn_rise_23 ca_ga_reckonAsItIs ml_fn_144 ii_ga_reckonAsItIs ⟨by decide, rfl⟩ pa_ga_reckonAsItIs (by omega) (by omega) (by omega) rfl (Nat.le_of_ble_eq_true rfl) (Nat.le_of_ble_eq_true rfl) hT (fun v h9 hv => ?_)
    clear hT
    obtain ⟨rfl, hv⟩ := hv
    obtain ⟨h6, eh⟩ : ∃ z, z = h9 := ⟨_, rfl⟩
    subst eh
    obtain ⟨hskh6, hv⟩ := hv
    show mT g me_fn_rise (d + 7) 0 0 26 [some (vr 0 0), some (vi x1), some (vr 8 n3)] [] h6 _
    refine tr_aload_n (pc := 26) 2 k_fn_rise_26 rfl rfl ?_
    refine tr_aload_n (pc := 27) 0 k_fn_rise_27 rfl rfl ?_
    refine tr_getP (pc := 28) k_fn_rise_28 fl_fn_12 rfl (Eq.trans rfl (hskh6.1 0 0 _ rfl)) ?_
    refine tr_getIx (pc := 31) k_fn_rise_31 fl_fn_129 rfl rfl ?_
    refine tr_aload_n (pc := 34) 2 k_fn_rise_34 rfl rfl ?_
    obtain ⟨n7, e8, hv⟩ := hv
    refine tr_getP (pc := 35) k_fn_rise_35 fl_fn_125 rfl (Eq.trans rfl e8) ?_
    obtain ⟨n9, e10, hv⟩ := hv
    refine tr_getP (pc := 38) k_fn_rise_38 fl_fn_153 rfl (Eq.trans rfl e10) ?_
    refine tr_getIx (pc := 41) k_fn_rise_41 fl_fn_157 rfl rfl ?_
    have hT := hv
    clear hv
    refine tr_callV (pc := 44) (d' := d + 6) (mc' := 0) (ms' := 0) [vi (hI h6 1 0 3), vi (hI h6 6 n9 5)] k_fn_rise_44 ca_je_riseAmong ml_fn_163 ii_je_riseAmong ⟨by decide, rfl⟩ pa_je_riseAmong (by omega) (by omega) (by omega) rfl (Nat.le_of_ble_eq_true rfl) (Nat.le_of_ble_eq_true rfl) hT (fun v h9 hv => ?_)
    clear hT
    obtain ⟨y12, rfl, hv⟩ := hv
    obtain ⟨h11, eh⟩ : ∃ z, z = h9 := ⟨_, rfl⟩
    subst eh
    obtain ⟨hskh11, hv⟩ := hv
    show mT g me_fn_rise (d + 7) 0 0 47 [some (vr 0 0), some (vi x1), some (vr 8 n3)] [vi y12] h11 _
    refine tr_ireturn (pc := 47) k_fn_rise_47 rfl rfl ?_
    exact hv
theorem v_je_riseAmong_0 {g : mG} {d : Nat} (a0 : Nat) (x1 : Int32) (x2 : Int32) {h : mH} {Q : Option mV → mH → Prop} (hsk : mSK h) (hv : (((x1 &&& (hI h 8 a0 1)) = 0 → Q (some (vi (0 : Int32))) h) ∧ (¬ (x1 &&& (hI h 8 a0 1)) = 0 → (∃ n1, hP h 8 a0 2 = some (7, n1) ∧ ((¬ (hI h 7 n1 8) = 0 → Q (some (vi (((if (0 : Int32) < (0 : Int32) then (0 : Int32) else (0 : Int32)) * (9 : Int32)) / (10 : Int32)))) h) ∧ ((hI h 7 n1 8) = 0 → ((¬ x2 = 0 → (∃ n3, hP h 7 n1 1 = some (6, n3) ∧ (((1 : Int32) ≤ (hI h 6 n3 2) → (¬ (hI h 6 n3 2) = 0 ∧ Q (some (vi (((if ((((hI h 6 n3 1) + (x2 / (hI h 6 n3 2))) - (hI h 7 n1 11)) - (hI h 7 n1 3)) < (0 : Int32) then (0 : Int32) else ((((hI h 6 n3 1) + (x2 / (hI h 6 n3 2))) - (hI h 7 n1 11)) - (hI h 7 n1 3))) * (9 : Int32)) / (10 : Int32)))) h)) ∧ (¬ (1 : Int32) ≤ (hI h 6 n3 2) → Q (some (vi (((if (((hI h 6 n3 1) - (hI h 7 n1 11)) - (hI h 7 n1 3)) < (0 : Int32) then (0 : Int32) else (((hI h 6 n3 1) - (hI h 7 n1 11)) - (hI h 7 n1 3))) * (9 : Int32)) / (10 : Int32)))) h)))) ∧ (x2 = 0 → Q (some (vi (((if (0 : Int32) < (0 : Int32) then (0 : Int32) else (0 : Int32)) * (9 : Int32)) / (10 : Int32)))) h)))))))) : mT g me_je_riseAmong (d + 3) 0 0 0 [some (vr 8 a0), some (vi x1), some (vi x2)] [] h Q := by
  refine tr_aload_n (pc := 0) 0 k_je_riseAmong_0 rfl rfl ?_
  refine tr_iload_n (pc := 1) 1 k_je_riseAmong_1 rfl rfl ?_
  refine tr_callV (pc := 2) (d' := d + 2) (mc' := 0) (ms' := 0) [vi x1] k_je_riseAmong_2 ca_je_isIn ml_je_26 ii_je_isIn ⟨by decide, rfl⟩ pa_je_isIn (by omega) (by omega) (by omega) rfl (Nat.le_of_ble_eq_true rfl) (Nat.le_of_ble_eq_true rfl) (Qk := fun v h9 => mT g me_je_riseAmong (d + 3) 0 0 5 [some (vr 8 a0), some (vi x1), some (vi x2)] (v.toList ++ []) h9 _) ?_ (fun _ _ z => z)
  show mT g me_je_isIn (d + 2) 0 0 0 [some (vr 8 a0), some (vi x1)] [] h _
  refine tr_iload_n (pc := 0) 1 k_je_isIn_0 rfl rfl ?_
  refine tr_aload_n (pc := 1) 0 k_je_isIn_1 rfl rfl ?_
  refine tr_getIx (pc := 2) k_je_isIn_2 fl_je_13 rfl rfl ?_
  refine tr_iand (pc := 5) k_je_isIn_5 ?_
  refine tr_if_eq (pc := 6) 13 k_je_isIn_6 (by decide) (fun q => ?_) (fun q => ?_)
  · replace hv := hv.1 q
    refine tr_iconst (pc := 13) (v := 0) k_je_isIn_13 (by decide) ?_
    refine tr_ireturn (pc := 14) k_je_isIn_14 rfl rfl ?_
    show mT g me_je_riseAmong (d + 3) 0 0 5 [some (vr 8 a0), some (vi x1), some (vi x2)] [vi (0 : Int32)] h _
    refine tr_if_eq (pc := 5) 29 k_je_riseAmong_5 (by decide) (fun _ => ?_) (fun q => absurd q (by decide))
    refine tr_iconst (pc := 29) (v := 0) k_je_riseAmong_29 (by decide) ?_
    refine tr_ireturn (pc := 30) k_je_riseAmong_30 rfl rfl ?_
    exact hv
  · replace hv := hv.2 q
    refine tr_iconst (pc := 9) (v := 1) k_je_isIn_9 (by decide) ?_
    refine tr_goto (pc := 10) 14 k_je_isIn_10 (by decide) ?_
    refine tr_ireturn (pc := 14) k_je_isIn_14 rfl rfl ?_
    show mT g me_je_riseAmong (d + 3) 0 0 5 [some (vr 8 a0), some (vi x1), some (vi x2)] [vi (1 : Int32)] h _
    refine tr_if_eq (pc := 5) 29 k_je_riseAmong_5 (by decide) (fun q => absurd q (by decide)) (fun _ => ?_)
    refine tr_aload_n (pc := 8) 0 k_je_riseAmong_8 rfl rfl ?_
    obtain ⟨n1, e2, hv⟩ := hv
    refine tr_getP (pc := 9) k_je_riseAmong_9 fl_je_16 rfl (Eq.trans rfl e2) ?_
    refine tr_iload_n (pc := 12) 2 k_je_riseAmong_12 rfl rfl ?_
    refine tr_callV (pc := 13) (d' := d + 2) (mc' := 0) (ms' := 0) [vi x2] k_je_riseAmong_13 ca_jn_headWith ml_je_30 ii_jn_headWith ⟨by decide, rfl⟩ pa_jn_headWith (by omega) (by omega) (by omega) rfl (Nat.le_of_ble_eq_true rfl) (Nat.le_of_ble_eq_true rfl) (Qk := fun v h9 => mT g me_je_riseAmong (d + 3) 0 0 16 [some (vr 8 a0), some (vi x1), some (vi x2)] (v.toList ++ []) h9 _) ?_ (fun _ _ z => z)
    show mT g me_jn_headWith (d + 2) 0 0 0 [some (vr 7 n1), some (vi x2), none] [] h _
    refine tr_aload_n (pc := 0) 0 k_jn_headWith_0 rfl rfl ?_
    refine tr_getIx (pc := 1) k_jn_headWith_1 fl_jn_35 rfl rfl ?_
    refine tr_if_ne (pc := 4) 11 k_jn_headWith_4 (by decide) (fun q => ?_) (fun q => ?_)
    · replace hv := hv.1 q
      refine tr_iconst (pc := 11) (v := 1) k_jn_headWith_11 (by decide) ?_
      refine tr_goto (pc := 12) 16 k_jn_headWith_12 (by decide) ?_
      refine tr_istore_n (pc := 16) 2 k_jn_headWith_16 rfl (by decide) rfl ?_
      show mT g me_jn_headWith (d + 2) 0 0 17 [some (vr 7 n1), some (vi x2), some (vi (1 : Int32))] [] h _
      refine tr_iload_n (pc := 17) 2 k_jn_headWith_17 rfl rfl ?_
      refine tr_if_eq (pc := 18) 25 k_jn_headWith_18 (by decide) (fun q => absurd q (by decide)) (fun _ => ?_)
      refine tr_iconst (pc := 21) (v := 0) k_jn_headWith_21 (by decide) ?_
      refine tr_goto (pc := 22) 43 k_jn_headWith_22 (by decide) ?_
      refine tr_ireturn (pc := 43) k_jn_headWith_43 rfl rfl ?_
      show mT g me_je_riseAmong (d + 3) 0 0 16 [some (vr 8 a0), some (vi x1), some (vi x2)] [vi (0 : Int32)] h _
      refine tr_iconst (pc := 16) (v := 0) k_je_riseAmong_16 (by decide) ?_
      refine tr_max (pc := 17) k_je_riseAmong_17 ml_je_36 (by omega) (Nat.le_of_ble_eq_true rfl) ?_
      refine tr_bipush (pc := 20) (v := 9) k_je_riseAmong_20 (by decide) ?_
      refine tr_imul (pc := 22) k_je_riseAmong_22 ?_
      refine tr_bipush (pc := 23) (v := 10) k_je_riseAmong_23 (by decide) ?_
      refine tr_idiv (pc := 25) k_je_riseAmong_25 (by decide) ?_
      refine tr_goto (pc := 26) 30 k_je_riseAmong_26 (by decide) ?_
      refine tr_ireturn (pc := 30) k_je_riseAmong_30 rfl rfl ?_
      exact hv
    · replace hv := hv.2 q
      refine tr_iload_n (pc := 7) 1 k_jn_headWith_7 rfl rfl ?_
      refine tr_if_ne (pc := 8) 15 k_jn_headWith_8 (by decide) (fun q => ?_) (fun q => ?_)
      · replace hv := hv.1 q
        refine tr_iconst (pc := 15) (v := 0) k_jn_headWith_15 (by decide) ?_
        refine tr_istore_n (pc := 16) 2 k_jn_headWith_16 rfl (by decide) rfl ?_
        show mT g me_jn_headWith (d + 2) 0 0 17 [some (vr 7 n1), some (vi x2), some (vi (0 : Int32))] [] h _
        refine tr_iload_n (pc := 17) 2 k_jn_headWith_17 rfl rfl ?_
        refine tr_if_eq (pc := 18) 25 k_jn_headWith_18 (by decide) (fun _ => ?_) (fun q => absurd q (by decide))
        refine tr_aload_n (pc := 25) 0 k_jn_headWith_25 rfl rfl ?_
        obtain ⟨n3, e4, hv⟩ := hv
        refine tr_getP (pc := 26) k_jn_headWith_26 fl_jn_13 rfl (Eq.trans rfl e4) ?_
        refine tr_iload_n (pc := 29) 1 k_jn_headWith_29 rfl rfl ?_
        refine tr_callV (pc := 30) (d' := d + 1) (mc' := 0) (ms' := 0) [vi x2] k_jn_headWith_30 ca_tk_levelWith ml_jn_39 ii_tk_levelWith ⟨by decide, rfl⟩ pa_tk_levelWith (by omega) (by omega) (by omega) rfl (Nat.le_of_ble_eq_true rfl) (Nat.le_of_ble_eq_true rfl) (Qk := fun v h9 => mT g me_jn_headWith (d + 2) 0 0 33 [some (vr 7 n1), some (vi x2), some (vi (0 : Int32))] (v.toList ++ []) h9 _) ?_ (fun _ _ z => z)
        show mT g me_tk_levelWith (d + 1) 0 0 0 [some (vr 6 n3), some (vi x2)] [] h _
        refine tr_aload_n (pc := 0) 0 k_tk_levelWith_0 rfl rfl ?_
        refine tr_getIx (pc := 1) k_tk_levelWith_1 fl_tk_16 rfl rfl ?_
        refine tr_iconst (pc := 4) (v := 1) k_tk_levelWith_4 (by decide) ?_
        refine tr_icmp_ge (pc := 5) 15 k_tk_levelWith_5 (by decide) (fun q => ?_) (fun q => ?_)
        · replace hv := hv.1 q
          refine tr_aload_n (pc := 15) 0 k_tk_levelWith_15 rfl rfl ?_
          refine tr_getIx (pc := 16) k_tk_levelWith_16 fl_tk_13 rfl rfl ?_
          refine tr_iload_n (pc := 19) 1 k_tk_levelWith_19 rfl rfl ?_
          refine tr_aload_n (pc := 20) 0 k_tk_levelWith_20 rfl rfl ?_
          refine tr_getIx (pc := 21) k_tk_levelWith_21 fl_tk_16 rfl rfl ?_
          refine tr_idiv (pc := 24) k_tk_levelWith_24 hv.1 ?_
          replace hv := hv.2
          refine tr_iadd (pc := 25) k_tk_levelWith_25 ?_
          refine tr_ireturn (pc := 26) k_tk_levelWith_26 rfl rfl ?_
          show mT g me_jn_headWith (d + 2) 0 0 33 [some (vr 7 n1), some (vi x2), some (vi (0 : Int32))] [vi ((hI h 6 n3 1) + (x2 / (hI h 6 n3 2)))] h _
          refine tr_aload_n (pc := 33) 0 k_jn_headWith_33 rfl rfl ?_
          refine tr_getIx (pc := 34) k_jn_headWith_34 fl_jn_45 rfl rfl ?_
          refine tr_isub (pc := 37) k_jn_headWith_37 ?_
          refine tr_aload_n (pc := 38) 0 k_jn_headWith_38 rfl rfl ?_
          refine tr_getIx (pc := 39) k_jn_headWith_39 fl_jn_21 rfl rfl ?_
          refine tr_isub (pc := 42) k_jn_headWith_42 ?_
          refine tr_ireturn (pc := 43) k_jn_headWith_43 rfl rfl ?_
          show mT g me_je_riseAmong (d + 3) 0 0 16 [some (vr 8 a0), some (vi x1), some (vi x2)] [vi ((((hI h 6 n3 1) + (x2 / (hI h 6 n3 2))) - (hI h 7 n1 11)) - (hI h 7 n1 3))] h _
          refine tr_iconst (pc := 16) (v := 0) k_je_riseAmong_16 (by decide) ?_
          refine tr_max (pc := 17) k_je_riseAmong_17 ml_je_36 (by omega) (Nat.le_of_ble_eq_true rfl) ?_
          refine tr_bipush (pc := 20) (v := 9) k_je_riseAmong_20 (by decide) ?_
          refine tr_imul (pc := 22) k_je_riseAmong_22 ?_
          refine tr_bipush (pc := 23) (v := 10) k_je_riseAmong_23 (by decide) ?_
          refine tr_idiv (pc := 25) k_je_riseAmong_25 (by decide) ?_
          refine tr_goto (pc := 26) 30 k_je_riseAmong_26 (by decide) ?_
          refine tr_ireturn (pc := 30) k_je_riseAmong_30 rfl rfl ?_
          exact hv
        · replace hv := hv.2 q
          refine tr_aload_n (pc := 8) 0 k_tk_levelWith_8 rfl rfl ?_
          refine tr_getIx (pc := 9) k_tk_levelWith_9 fl_tk_13 rfl rfl ?_
          refine tr_goto (pc := 12) 26 k_tk_levelWith_12 (by decide) ?_
          refine tr_ireturn (pc := 26) k_tk_levelWith_26 rfl rfl ?_
          show mT g me_jn_headWith (d + 2) 0 0 33 [some (vr 7 n1), some (vi x2), some (vi (0 : Int32))] [vi (hI h 6 n3 1)] h _
          refine tr_aload_n (pc := 33) 0 k_jn_headWith_33 rfl rfl ?_
          refine tr_getIx (pc := 34) k_jn_headWith_34 fl_jn_45 rfl rfl ?_
          refine tr_isub (pc := 37) k_jn_headWith_37 ?_
          refine tr_aload_n (pc := 38) 0 k_jn_headWith_38 rfl rfl ?_
          refine tr_getIx (pc := 39) k_jn_headWith_39 fl_jn_21 rfl rfl ?_
          refine tr_isub (pc := 42) k_jn_headWith_42 ?_
          refine tr_ireturn (pc := 43) k_jn_headWith_43 rfl rfl ?_
          show mT g me_je_riseAmong (d + 3) 0 0 16 [some (vr 8 a0), some (vi x1), some (vi x2)] [vi (((hI h 6 n3 1) - (hI h 7 n1 11)) - (hI h 7 n1 3))] h _
          refine tr_iconst (pc := 16) (v := 0) k_je_riseAmong_16 (by decide) ?_
          refine tr_max (pc := 17) k_je_riseAmong_17 ml_je_36 (by omega) (Nat.le_of_ble_eq_true rfl) ?_
          refine tr_bipush (pc := 20) (v := 9) k_je_riseAmong_20 (by decide) ?_
          refine tr_imul (pc := 22) k_je_riseAmong_22 ?_
          refine tr_bipush (pc := 23) (v := 10) k_je_riseAmong_23 (by decide) ?_
          refine tr_idiv (pc := 25) k_je_riseAmong_25 (by decide) ?_
          refine tr_goto (pc := 26) 30 k_je_riseAmong_26 (by decide) ?_
          refine tr_ireturn (pc := 30) k_je_riseAmong_30 rfl rfl ?_
          exact hv
      · replace hv := hv.2 q
        refine tr_iconst (pc := 11) (v := 1) k_jn_headWith_11 (by decide) ?_
        refine tr_goto (pc := 12) 16 k_jn_headWith_12 (by decide) ?_
        refine tr_istore_n (pc := 16) 2 k_jn_headWith_16 rfl (by decide) rfl ?_
        show mT g me_jn_headWith (d + 2) 0 0 17 [some (vr 7 n1), some (vi x2), some (vi (1 : Int32))] [] h _
        refine tr_iload_n (pc := 17) 2 k_jn_headWith_17 rfl rfl ?_
        refine tr_if_eq (pc := 18) 25 k_jn_headWith_18 (by decide) (fun q => absurd q (by decide)) (fun _ => ?_)
        refine tr_iconst (pc := 21) (v := 0) k_jn_headWith_21 (by decide) ?_
        refine tr_goto (pc := 22) 43 k_jn_headWith_22 (by decide) ?_
        refine tr_ireturn (pc := 43) k_jn_headWith_43 rfl rfl ?_
        show mT g me_je_riseAmong (d + 3) 0 0 16 [some (vr 8 a0), some (vi x1), some (vi x2)] [vi (0 : Int32)] h _
        refine tr_iconst (pc := 16) (v := 0) k_je_riseAmong_16 (by decide) ?_
        refine tr_max (pc := 17) k_je_riseAmong_17 ml_je_36 (by omega) (Nat.le_of_ble_eq_true rfl) ?_
        refine tr_bipush (pc := 20) (v := 9) k_je_riseAmong_20 (by decide) ?_
        refine tr_imul (pc := 22) k_je_riseAmong_22 ?_
        refine tr_bipush (pc := 23) (v := 10) k_je_riseAmong_23 (by decide) ?_
        refine tr_idiv (pc := 25) k_je_riseAmong_25 (by decide) ?_
        refine tr_goto (pc := 26) 30 k_je_riseAmong_26 (by decide) ?_
        refine tr_ireturn (pc := 30) k_je_riseAmong_30 rfl rfl ?_
        exact hv
theorem v_fn_share_0 {g : mG} {d : Nat} (x1 : Int32) (x2 : Int32) {h : mH} {Q : Option mV → mH → Prop} (hsk : mSK h) (hv : mT g me_ga_jetAt (d + 6) 0 0 0 [some (vr 1 0), some (vi x1)] [] h (fun v h1 => ∃ p2, v = some (vp p2) ∧ mSK h1 ∧ mT g me_ga_jetAt (d + 6) 0 0 0 [some (vr 1 0), some (vi x2)] [] h1 (fun v h3 => ∃ p4, v = some (vp p4) ∧ mSK h3 ∧ ((p2 = none → mT g me_fn_refuse (d + 6) 0 0 0 [some (vr 0 0), some (vi (-1 : Int32)), none] [] h3 (fun v h6 => ∃ y7, v = some (vi y7) ∧ mSK h6 ∧ Q (some (vi y7)) h6)) ∧ (∀ kq n5, p2 = some (kq, n5) → kq = 8 ∧ ((p4 = none → mT g me_fn_refuse (d + 6) 0 0 0 [some (vr 0 0), some (vi (-1 : Int32)), none] [] h3 (fun v h9 => ∃ y10, v = some (vi y10) ∧ mSK h9 ∧ Q (some (vi y10)) h9)) ∧ (∀ kq n8, p4 = some (kq, n8) → kq = 8 ∧ ((¬ some (8, n5) = some (8, n8) → ((((hI h3 1 0 3) &&& (hI h3 8 n5 1)) = 0 → mT g me_fn_refuse (d + 6) 0 0 0 [some (vr 0 0), some (vi (-3 : Int32)), none] [] h3 (fun v h11 => ∃ y12, v = some (vi y12) ∧ mSK h11 ∧ Q (some (vi y12)) h11)) ∧ (¬ ((hI h3 1 0 3) &&& (hI h3 8 n5 1)) = 0 → ((((hI h3 1 0 3) &&& (hI h3 8 n8 1)) = 0 → mT g me_fn_refuse (d + 6) 0 0 0 [some (vr 0 0), some (vi (-3 : Int32)), none] [] h3 (fun v h13 => ∃ y14, v = some (vi y14) ∧ mSK h13 ∧ Q (some (vi y14)) h13)) ∧ (¬ ((hI h3 1 0 3) &&& (hI h3 8 n8 1)) = 0 → (∃ n15, hP h3 8 n5 2 = some (7, n15) ∧ (∃ n17, hP h3 7 n15 1 = some (6, n17) ∧ mT g me_ga_reckonAsItIs (d + 6) 0 0 0 [some (vr 1 0)] [] h3 (fun v h19 => v = none ∧ mSK h19 ∧ mT g me_je_riseAmong (d + 6) 0 0 0 [some (vr 8 n5), some (vi (hI h19 1 0 3)), some (vi (hI h3 6 n17 5))] [] h19 (fun v h20 => ∃ y21, v = some (vi y21) ∧ mSK h20 ∧ mT g me_ga_reckon (d + 6) 0 0 0 [some (vr 1 0), some (vi ((hI h20 1 0 3) &&& ((hI h20 8 n8 1) ^^^ (-1 : Int32)))), some (vi (0 : Int32)), none, none] [] h20 (fun v h22 => v = none ∧ mSK h22 ∧ mT g me_je_riseAmong (d + 6) 0 0 0 [some (vr 8 n5), some (vi ((hI h20 1 0 3) &&& ((hI h20 8 n8 1) ^^^ (-1 : Int32)))), some (vi (hI h3 6 n17 5))] [] h22 (fun v h23 => ∃ y24, v = some (vi y24) ∧ mSK h23 ∧ Q (some (vi (y24 - y21))) h23))))))))))) ∧ (some (8, n5) = some (8, n8) → mT g me_fn_refuse (d + 6) 0 0 0 [some (vr 0 0), some (vi (-1 : Int32)), none] [] h3 (fun v h25 => ∃ y26, v = some (vi y26) ∧ mSK h25 ∧ Q (some (vi y26)) h25)))))))))) : mT g me_fn_share (d + 7) 0 0 0 [some (vr 0 0), some (vi x1), some (vi x2), none, none, none, none, none] [] h Q := by
  refine tr_aload_n (pc := 0) 0 k_fn_share_0 rfl rfl ?_
  refine tr_getP (pc := 1) k_fn_share_1 fl_fn_12 rfl (Eq.trans rfl (hsk.1 0 0 _ rfl)) ?_
  refine tr_iload_n (pc := 4) 1 k_fn_share_4 rfl rfl ?_
  have hT := hv
  clear hv
  refine tr_callV (pc := 5) (d' := d + 6) (mc' := 0) (ms' := 0) [vi x1] k_fn_share_5 ca_ga_jetAt ml_fn_121 ii_ga_jetAt ⟨by decide, rfl⟩ pa_ga_jetAt (by omega) (by omega) (by omega) rfl (Nat.le_of_ble_eq_true rfl) (Nat.le_of_ble_eq_true rfl) hT (fun v h9 hv => ?_)
  clear hT
  obtain ⟨p2, rfl, hv⟩ := hv
  obtain ⟨h1, eh⟩ : ∃ z, z = h9 := ⟨_, rfl⟩
  subst eh
  obtain ⟨hskh1, hv⟩ := hv
  show mT g me_fn_share (d + 7) 0 0 8 [some (vr 0 0), some (vi x1), some (vi x2), none, none, none, none, none] [vp p2] h1 _
  refine tr_astore_n (pc := 8) 3 k_fn_share_8 rfl (by decide) rfl ?_
  show mT g me_fn_share (d + 7) 0 0 9 [some (vr 0 0), some (vi x1), some (vi x2), some (vp p2), none, none, none, none] [] h1 _
  refine tr_aload_n (pc := 9) 0 k_fn_share_9 rfl rfl ?_
  refine tr_getP (pc := 10) k_fn_share_10 fl_fn_12 rfl (Eq.trans rfl (hskh1.1 0 0 _ rfl)) ?_
  refine tr_iload_n (pc := 13) 2 k_fn_share_13 rfl rfl ?_
  have hT := hv
  clear hv
  refine tr_callV (pc := 14) (d' := d + 6) (mc' := 0) (ms' := 0) [vi x2] k_fn_share_14 ca_ga_jetAt ml_fn_121 ii_ga_jetAt ⟨by decide, rfl⟩ pa_ga_jetAt (by omega) (by omega) (by omega) rfl (Nat.le_of_ble_eq_true rfl) (Nat.le_of_ble_eq_true rfl) hT (fun v h9 hv => ?_)
  clear hT
  obtain ⟨p4, rfl, hv⟩ := hv
  obtain ⟨h3, eh⟩ : ∃ z, z = h9 := ⟨_, rfl⟩
  subst eh
  obtain ⟨hskh3, hv⟩ := hv
  show mT g me_fn_share (d + 7) 0 0 17 [some (vr 0 0), some (vi x1), some (vi x2), some (vp p2), none, none, none, none] [vp p4] h3 _
  refine tr_astore (pc := 17) k_fn_share_17 (by decide) rfl ?_
  show mT g me_fn_share (d + 7) 0 0 19 [some (vr 0 0), some (vi x1), some (vi x2), some (vp p2), some (vp p4), none, none, none] [] h3 _
  refine tr_aload_n (pc := 19) 3 k_fn_share_19 rfl rfl ?_
  rcases p2 with _ | ⟨kq, n5⟩
  · replace hv := hv.1 rfl
    refine tr_ifnull (pc := 20) 34 k_fn_share_20 (by decide) (fun _ => ?_) (fun _ _ q => by cases q)
    refine tr_aload_n (pc := 34) 0 k_fn_share_34 rfl rfl ?_
    refine tr_iconst (pc := 35) (v := -1) k_fn_share_35 (by decide) ?_
    have hT := hv
    clear hv
    refine tr_callV (pc := 36) (d' := d + 6) (mc' := 0) (ms' := 0) [vi (-1 : Int32)] k_fn_share_36 ca_fn_refuse ml_fn_56 ii_fn_refuse ⟨by decide, rfl⟩ pa_fn_refuse (by omega) (by omega) (by omega) rfl (Nat.le_of_ble_eq_true rfl) (Nat.le_of_ble_eq_true rfl) hT (fun v h9 hv => ?_)
    clear hT
    obtain ⟨y7, rfl, hv⟩ := hv
    obtain ⟨h6, eh⟩ : ∃ z, z = h9 := ⟨_, rfl⟩
    subst eh
    obtain ⟨hskh6, hv⟩ := hv
    show mT g me_fn_share (d + 7) 0 0 39 [some (vr 0 0), some (vi x1), some (vi x2), some (vn), some (vp p4), none, none, none] [vi y7] h6 _
    refine tr_ireturn (pc := 39) k_fn_share_39 rfl rfl ?_
    exact hv
  · have hw := hv.2 kq n5 rfl
    clear hv
    obtain ⟨tq, hv⟩ := hw
    subst tq
    refine tr_ifnull (pc := 20) 34 k_fn_share_20 (by decide) (fun q => by cases q) (fun _ _ _ => ?_)
    refine tr_aload (pc := 23) k_fn_share_23 rfl ?_
    rcases p4 with _ | ⟨kq, n8⟩
    · replace hv := hv.1 rfl
      refine tr_ifnull (pc := 25) 34 k_fn_share_25 (by decide) (fun _ => ?_) (fun _ _ q => by cases q)
      refine tr_aload_n (pc := 34) 0 k_fn_share_34 rfl rfl ?_
      refine tr_iconst (pc := 35) (v := -1) k_fn_share_35 (by decide) ?_
      have hT := hv
      clear hv
      refine tr_callV (pc := 36) (d' := d + 6) (mc' := 0) (ms' := 0) [vi (-1 : Int32)] k_fn_share_36 ca_fn_refuse ml_fn_56 ii_fn_refuse ⟨by decide, rfl⟩ pa_fn_refuse (by omega) (by omega) (by omega) rfl (Nat.le_of_ble_eq_true rfl) (Nat.le_of_ble_eq_true rfl) hT (fun v h9 hv => ?_)
      clear hT
      obtain ⟨y10, rfl, hv⟩ := hv
      obtain ⟨h9, eh⟩ : ∃ z, z = h9 := ⟨_, rfl⟩
      subst eh
      obtain ⟨hskh9, hv⟩ := hv
      show mT g me_fn_share (d + 7) 0 0 39 [some (vr 0 0), some (vi x1), some (vi x2), some (vr 8 n5), some (vn), none, none, none] [vi y10] h9 _
      refine tr_ireturn (pc := 39) k_fn_share_39 rfl rfl ?_
      exact hv
    · have hw := hv.2 kq n8 rfl
      clear hv
      obtain ⟨tq, hv⟩ := hw
      subst tq
      refine tr_ifnull (pc := 25) 34 k_fn_share_25 (by decide) (fun q => by cases q) (fun _ _ _ => ?_)
      refine tr_aload_n (pc := 28) 3 k_fn_share_28 rfl rfl ?_
      refine tr_aload (pc := 29) k_fn_share_29 rfl ?_
      refine tr_acmp_ne (pc := 31) (r := some (8, n5)) (r' := some (8, n8)) 40 k_fn_share_31 (by decide) (fun a b e1 e2 => by cases e1; cases e2; exact Or.inl ⟨(by show (8 : Nat) < 14; decide), (by show (8 : Nat) < 14; decide)⟩) (fun q => ?_) (fun q => ?_)
      · replace hv := hv.1 q
        refine tr_aload_n (pc := 40) 3 k_fn_share_40 rfl rfl ?_
        refine tr_aload_n (pc := 41) 0 k_fn_share_41 rfl rfl ?_
        refine tr_getP (pc := 42) k_fn_share_42 fl_fn_12 rfl (Eq.trans rfl (hskh3.1 0 0 _ rfl)) ?_
        refine tr_getIx (pc := 45) k_fn_share_45 fl_fn_129 rfl rfl ?_
        refine tr_callV (pc := 48) (d' := d + 6) (mc' := 0) (ms' := 0) [vi (hI h3 1 0 3)] k_fn_share_48 ca_je_isIn ml_fn_132 ii_je_isIn ⟨by decide, rfl⟩ pa_je_isIn (by omega) (by omega) (by omega) rfl (Nat.le_of_ble_eq_true rfl) (Nat.le_of_ble_eq_true rfl) (Qk := fun v h9 => mT g me_fn_share (d + 7) 0 0 51 [some (vr 0 0), some (vi x1), some (vi x2), some (vr 8 n5), some (vr 8 n8), none, none, none] (v.toList ++ []) h9 _) ?_ (fun _ _ z => z)
        show mT g me_je_isIn (d + 6) 0 0 0 [some (vr 8 n5), some (vi (hI h3 1 0 3))] [] h3 _
        refine tr_iload_n (pc := 0) 1 k_je_isIn_0 rfl rfl ?_
        refine tr_aload_n (pc := 1) 0 k_je_isIn_1 rfl rfl ?_
        refine tr_getIx (pc := 2) k_je_isIn_2 fl_je_13 rfl rfl ?_
        refine tr_iand (pc := 5) k_je_isIn_5 ?_
        refine tr_if_eq (pc := 6) 13 k_je_isIn_6 (by decide) (fun q => ?_) (fun q => ?_)
        · replace hv := hv.1 q
          refine tr_iconst (pc := 13) (v := 0) k_je_isIn_13 (by decide) ?_
          refine tr_ireturn (pc := 14) k_je_isIn_14 rfl rfl ?_
          show mT g me_fn_share (d + 7) 0 0 51 [some (vr 0 0), some (vi x1), some (vi x2), some (vr 8 n5), some (vr 8 n8), none, none, none] [vi (0 : Int32)] h3 _
          refine tr_if_eq (pc := 51) 69 k_fn_share_51 (by decide) (fun _ => ?_) (fun q => absurd q (by decide))
          refine tr_aload_n (pc := 69) 0 k_fn_share_69 rfl rfl ?_
          refine tr_bipush (pc := 70) (v := -3) k_fn_share_70 (by decide) ?_
          have hT := hv
          clear hv
          refine tr_callV (pc := 72) (d' := d + 6) (mc' := 0) (ms' := 0) [vi (-3 : Int32)] k_fn_share_72 ca_fn_refuse ml_fn_56 ii_fn_refuse ⟨by decide, rfl⟩ pa_fn_refuse (by omega) (by omega) (by omega) rfl (Nat.le_of_ble_eq_true rfl) (Nat.le_of_ble_eq_true rfl) hT (fun v h9 hv => ?_)
          clear hT
          obtain ⟨y12, rfl, hv⟩ := hv
          obtain ⟨h11, eh⟩ : ∃ z, z = h9 := ⟨_, rfl⟩
          subst eh
          obtain ⟨hskh11, hv⟩ := hv
          show mT g me_fn_share (d + 7) 0 0 75 [some (vr 0 0), some (vi x1), some (vi x2), some (vr 8 n5), some (vr 8 n8), none, none, none] [vi y12] h11 _
          refine tr_ireturn (pc := 75) k_fn_share_75 rfl rfl ?_
          exact hv
        · replace hv := hv.2 q
          refine tr_iconst (pc := 9) (v := 1) k_je_isIn_9 (by decide) ?_
          refine tr_goto (pc := 10) 14 k_je_isIn_10 (by decide) ?_
          refine tr_ireturn (pc := 14) k_je_isIn_14 rfl rfl ?_
          show mT g me_fn_share (d + 7) 0 0 51 [some (vr 0 0), some (vi x1), some (vi x2), some (vr 8 n5), some (vr 8 n8), none, none, none] [vi (1 : Int32)] h3 _
          refine tr_if_eq (pc := 51) 69 k_fn_share_51 (by decide) (fun q => absurd q (by decide)) (fun _ => ?_)
          refine tr_aload (pc := 54) k_fn_share_54 rfl ?_
          refine tr_aload_n (pc := 56) 0 k_fn_share_56 rfl rfl ?_
          refine tr_getP (pc := 57) k_fn_share_57 fl_fn_12 rfl (Eq.trans rfl (hskh3.1 0 0 _ rfl)) ?_
          refine tr_getIx (pc := 60) k_fn_share_60 fl_fn_129 rfl rfl ?_
          refine tr_callV (pc := 63) (d' := d + 6) (mc' := 0) (ms' := 0) [vi (hI h3 1 0 3)] k_fn_share_63 ca_je_isIn ml_fn_132 ii_je_isIn ⟨by decide, rfl⟩ pa_je_isIn (by omega) (by omega) (by omega) rfl (Nat.le_of_ble_eq_true rfl) (Nat.le_of_ble_eq_true rfl) (Qk := fun v h9 => mT g me_fn_share (d + 7) 0 0 66 [some (vr 0 0), some (vi x1), some (vi x2), some (vr 8 n5), some (vr 8 n8), none, none, none] (v.toList ++ []) h9 _) ?_ (fun _ _ z => z)
          show mT g me_je_isIn (d + 6) 0 0 0 [some (vr 8 n8), some (vi (hI h3 1 0 3))] [] h3 _
          refine tr_iload_n (pc := 0) 1 k_je_isIn_0 rfl rfl ?_
          refine tr_aload_n (pc := 1) 0 k_je_isIn_1 rfl rfl ?_
          refine tr_getIx (pc := 2) k_je_isIn_2 fl_je_13 rfl rfl ?_
          refine tr_iand (pc := 5) k_je_isIn_5 ?_
          refine tr_if_eq (pc := 6) 13 k_je_isIn_6 (by decide) (fun q => ?_) (fun q => ?_)
          · replace hv := hv.1 q
            refine tr_iconst (pc := 13) (v := 0) k_je_isIn_13 (by decide) ?_
            refine tr_ireturn (pc := 14) k_je_isIn_14 rfl rfl ?_
            show mT g me_fn_share (d + 7) 0 0 66 [some (vr 0 0), some (vi x1), some (vi x2), some (vr 8 n5), some (vr 8 n8), none, none, none] [vi (0 : Int32)] h3 _
            refine tr_if_ne (pc := 66) 76 k_fn_share_66 (by decide) (fun q => absurd q (by decide)) (fun _ => ?_)
            refine tr_aload_n (pc := 69) 0 k_fn_share_69 rfl rfl ?_
            refine tr_bipush (pc := 70) (v := -3) k_fn_share_70 (by decide) ?_
            have hT := hv
            clear hv
            refine tr_callV (pc := 72) (d' := d + 6) (mc' := 0) (ms' := 0) [vi (-3 : Int32)] k_fn_share_72 ca_fn_refuse ml_fn_56 ii_fn_refuse ⟨by decide, rfl⟩ pa_fn_refuse (by omega) (by omega) (by omega) rfl (Nat.le_of_ble_eq_true rfl) (Nat.le_of_ble_eq_true rfl) hT (fun v h9 hv => ?_)
            clear hT
            obtain ⟨y14, rfl, hv⟩ := hv
            obtain ⟨h13, eh⟩ : ∃ z, z = h9 := ⟨_, rfl⟩
            subst eh
            obtain ⟨hskh13, hv⟩ := hv
            show mT g me_fn_share (d + 7) 0 0 75 [some (vr 0 0), some (vi x1), some (vi x2), some (vr 8 n5), some (vr 8 n8), none, none, none] [vi y14] h13 _
            refine tr_ireturn (pc := 75) k_fn_share_75 rfl rfl ?_
            exact hv
          · replace hv := hv.2 q
            refine tr_iconst (pc := 9) (v := 1) k_je_isIn_9 (by decide) ?_
            refine tr_goto (pc := 10) 14 k_je_isIn_10 (by decide) ?_
            refine tr_ireturn (pc := 14) k_je_isIn_14 rfl rfl ?_
            show mT g me_fn_share (d + 7) 0 0 66 [some (vr 0 0), some (vi x1), some (vi x2), some (vr 8 n5), some (vr 8 n8), none, none, none] [vi (1 : Int32)] h3 _
            refine tr_if_ne (pc := 66) 76 k_fn_share_66 (by decide) (fun _ => ?_) (fun q => absurd q (by decide))
            refine tr_aload_n (pc := 76) 3 k_fn_share_76 rfl rfl ?_
            obtain ⟨n15, e16, hv⟩ := hv
            refine tr_getP (pc := 77) k_fn_share_77 fl_fn_125 rfl (Eq.trans rfl e16) ?_
            obtain ⟨n17, e18, hv⟩ := hv
            refine tr_getP (pc := 80) k_fn_share_80 fl_fn_153 rfl (Eq.trans rfl e18) ?_
            refine tr_getIx (pc := 83) k_fn_share_83 fl_fn_157 rfl rfl ?_
            refine tr_istore (pc := 86) k_fn_share_86 (by decide) rfl ?_
            show mT g me_fn_share (d + 7) 0 0 88 [some (vr 0 0), some (vi x1), some (vi x2), some (vr 8 n5), some (vr 8 n8), some (vi (hI h3 6 n17 5)), none, none] [] h3 _
            refine tr_aload_n (pc := 88) 0 k_fn_share_88 rfl rfl ?_
            refine tr_getP (pc := 89) k_fn_share_89 fl_fn_12 rfl (Eq.trans rfl (hskh3.1 0 0 _ rfl)) ?_
            have hT := hv
            clear hv
            refine tr_callV (pc := 92) (d' := d + 6) (mc' := 0) (ms' := 0) [] k_fn_share_92 ca_ga_reckonAsItIs ml_fn_144 ii_ga_reckonAsItIs ⟨by decide, rfl⟩ pa_ga_reckonAsItIs (by omega) (by omega) (by omega) rfl (Nat.le_of_ble_eq_true rfl) (Nat.le_of_ble_eq_true rfl) hT (fun v h9 hv => ?_)
            clear hT
            obtain ⟨rfl, hv⟩ := hv
            obtain ⟨h19, eh⟩ : ∃ z, z = h9 := ⟨_, rfl⟩
            subst eh
            obtain ⟨hskh19, hv⟩ := hv
            show mT g me_fn_share (d + 7) 0 0 95 [some (vr 0 0), some (vi x1), some (vi x2), some (vr 8 n5), some (vr 8 n8), some (vi (hI h3 6 n17 5)), none, none] [] h19 _
            refine tr_aload_n (pc := 95) 3 k_fn_share_95 rfl rfl ?_
            refine tr_aload_n (pc := 96) 0 k_fn_share_96 rfl rfl ?_
            refine tr_getP (pc := 97) k_fn_share_97 fl_fn_12 rfl (Eq.trans rfl (hskh19.1 0 0 _ rfl)) ?_
            refine tr_getIx (pc := 100) k_fn_share_100 fl_fn_129 rfl rfl ?_
            refine tr_iload (pc := 103) k_fn_share_103 rfl ?_
            have hT := hv
            clear hv
            refine tr_callV (pc := 105) (d' := d + 6) (mc' := 0) (ms' := 0) [vi (hI h19 1 0 3), vi (hI h3 6 n17 5)] k_fn_share_105 ca_je_riseAmong ml_fn_163 ii_je_riseAmong ⟨by decide, rfl⟩ pa_je_riseAmong (by omega) (by omega) (by omega) rfl (Nat.le_of_ble_eq_true rfl) (Nat.le_of_ble_eq_true rfl) hT (fun v h9 hv => ?_)
            clear hT
            obtain ⟨y21, rfl, hv⟩ := hv
            obtain ⟨h20, eh⟩ : ∃ z, z = h9 := ⟨_, rfl⟩
            subst eh
            obtain ⟨hskh20, hv⟩ := hv
            show mT g me_fn_share (d + 7) 0 0 108 [some (vr 0 0), some (vi x1), some (vi x2), some (vr 8 n5), some (vr 8 n8), some (vi (hI h3 6 n17 5)), none, none] [vi y21] h20 _
            refine tr_istore (pc := 108) k_fn_share_108 (by decide) rfl ?_
            show mT g me_fn_share (d + 7) 0 0 110 [some (vr 0 0), some (vi x1), some (vi x2), some (vr 8 n5), some (vr 8 n8), some (vi (hI h3 6 n17 5)), some (vi y21), none] [] h20 _
            refine tr_aload_n (pc := 110) 0 k_fn_share_110 rfl rfl ?_
            refine tr_getP (pc := 111) k_fn_share_111 fl_fn_12 rfl (Eq.trans rfl (hskh20.1 0 0 _ rfl)) ?_
            refine tr_getIx (pc := 114) k_fn_share_114 fl_fn_129 rfl rfl ?_
            refine tr_aload (pc := 117) k_fn_share_117 rfl ?_
            refine tr_getIx (pc := 119) k_fn_share_119 fl_fn_136 rfl rfl ?_
            refine tr_iconst (pc := 122) (v := -1) k_fn_share_122 (by decide) ?_
            refine tr_ixor (pc := 123) k_fn_share_123 ?_
            refine tr_iand (pc := 124) k_fn_share_124 ?_
            refine tr_istore (pc := 125) k_fn_share_125 (by decide) rfl ?_
            show mT g me_fn_share (d + 7) 0 0 127 [some (vr 0 0), some (vi x1), some (vi x2), some (vr 8 n5), some (vr 8 n8), some (vi (hI h3 6 n17 5)), some (vi y21), some (vi ((hI h20 1 0 3) &&& ((hI h20 8 n8 1) ^^^ (-1 : Int32))))] [] h20 _
            refine tr_aload_n (pc := 127) 0 k_fn_share_127 rfl rfl ?_
            refine tr_getP (pc := 128) k_fn_share_128 fl_fn_12 rfl (Eq.trans rfl (hskh20.1 0 0 _ rfl)) ?_
            refine tr_iload (pc := 131) k_fn_share_131 rfl ?_
            refine tr_iconst (pc := 133) (v := 0) k_fn_share_133 (by decide) ?_
            have hT := hv
            clear hv
            refine tr_callV (pc := 134) (d' := d + 6) (mc' := 0) (ms' := 0) [vi ((hI h20 1 0 3) &&& ((hI h20 8 n8 1) ^^^ (-1 : Int32))), vi (0 : Int32)] k_fn_share_134 ca_ga_reckon ml_fn_167 ii_ga_reckon ⟨by decide, rfl⟩ pa_ga_reckon (by omega) (by omega) (by omega) rfl (Nat.le_of_ble_eq_true rfl) (Nat.le_of_ble_eq_true rfl) hT (fun v h9 hv => ?_)
            clear hT
            obtain ⟨rfl, hv⟩ := hv
            obtain ⟨h22, eh⟩ : ∃ z, z = h9 := ⟨_, rfl⟩
            subst eh
            obtain ⟨hskh22, hv⟩ := hv
            show mT g me_fn_share (d + 7) 0 0 137 [some (vr 0 0), some (vi x1), some (vi x2), some (vr 8 n5), some (vr 8 n8), some (vi (hI h3 6 n17 5)), some (vi y21), some (vi ((hI h20 1 0 3) &&& ((hI h20 8 n8 1) ^^^ (-1 : Int32))))] [] h22 _
            refine tr_aload_n (pc := 137) 3 k_fn_share_137 rfl rfl ?_
            refine tr_iload (pc := 138) k_fn_share_138 rfl ?_
            refine tr_iload (pc := 140) k_fn_share_140 rfl ?_
            have hT := hv
            clear hv
            refine tr_callV (pc := 142) (d' := d + 6) (mc' := 0) (ms' := 0) [vi ((hI h20 1 0 3) &&& ((hI h20 8 n8 1) ^^^ (-1 : Int32))), vi (hI h3 6 n17 5)] k_fn_share_142 ca_je_riseAmong ml_fn_163 ii_je_riseAmong ⟨by decide, rfl⟩ pa_je_riseAmong (by omega) (by omega) (by omega) rfl (Nat.le_of_ble_eq_true rfl) (Nat.le_of_ble_eq_true rfl) hT (fun v h9 hv => ?_)
            clear hT
            obtain ⟨y24, rfl, hv⟩ := hv
            obtain ⟨h23, eh⟩ : ∃ z, z = h9 := ⟨_, rfl⟩
            subst eh
            obtain ⟨hskh23, hv⟩ := hv
            show mT g me_fn_share (d + 7) 0 0 145 [some (vr 0 0), some (vi x1), some (vi x2), some (vr 8 n5), some (vr 8 n8), some (vi (hI h3 6 n17 5)), some (vi y21), some (vi ((hI h20 1 0 3) &&& ((hI h20 8 n8 1) ^^^ (-1 : Int32))))] [vi y24] h23 _
            refine tr_iload (pc := 145) k_fn_share_145 rfl ?_
            refine tr_isub (pc := 147) k_fn_share_147 ?_
            refine tr_ireturn (pc := 148) k_fn_share_148 rfl rfl ?_
            exact hv
      · replace hv := hv.2 q
        refine tr_aload_n (pc := 34) 0 k_fn_share_34 rfl rfl ?_
        refine tr_iconst (pc := 35) (v := -1) k_fn_share_35 (by decide) ?_
        have hT := hv
        clear hv
        refine tr_callV (pc := 36) (d' := d + 6) (mc' := 0) (ms' := 0) [vi (-1 : Int32)] k_fn_share_36 ca_fn_refuse ml_fn_56 ii_fn_refuse ⟨by decide, rfl⟩ pa_fn_refuse (by omega) (by omega) (by omega) rfl (Nat.le_of_ble_eq_true rfl) (Nat.le_of_ble_eq_true rfl) hT (fun v h9 hv => ?_)
        clear hT
        obtain ⟨y26, rfl, hv⟩ := hv
        obtain ⟨h25, eh⟩ : ∃ z, z = h9 := ⟨_, rfl⟩
        subst eh
        obtain ⟨hskh25, hv⟩ := hv
        show mT g me_fn_share (d + 7) 0 0 39 [some (vr 0 0), some (vi x1), some (vi x2), some (vr 8 n5), some (vr 8 n8), none, none, none] [vi y26] h25 _
        refine tr_ireturn (pc := 39) k_fn_share_39 rfl rfl ?_
        exact hv
theorem v_fn_minutes_0 {g : mG} {d : Nat} (x1 : Int32) {h : mH} {Q : Option mV → mH → Prop} (hsk : mSK h) (hv : (((1 : Int32) ≤ x1 → ((x1 ≤ ((1440 : Int32) - (hI h 1 0 4)) → mT g me_ga_reckonAsItIs (d + 6) 0 0 0 [some (vr 1 0)] [] h (fun v h1 => v = none ∧ mSK h1 ∧ mT g me_fn_minutes (d + 7) 0 0 43 [some (vr 0 0), some (vi x1), some (vi (0 : Int32))] [] h1 Q)) ∧ (¬ x1 ≤ ((1440 : Int32) - (hI h 1 0 4)) → mT g me_fn_refuse (d + 6) 0 0 0 [some (vr 0 0), some (vi (-6 : Int32)), none] [] h (fun v h2 => ∃ y3, v = some (vi y3) ∧ mSK h2 ∧ Q (some (vi y3)) h2)))) ∧ (¬ (1 : Int32) ≤ x1 → mT g me_fn_refuse (d + 6) 0 0 0 [some (vr 0 0), some (vi (-4 : Int32)), none] [] h (fun v h4 => ∃ y5, v = some (vi y5) ∧ mSK h4 ∧ Q (some (vi y5)) h4)))) : mT g me_fn_minutes (d + 7) 0 0 0 [some (vr 0 0), some (vi x1), none] [] h Q := by
  refine tr_iload_n (pc := 0) 1 k_fn_minutes_0 rfl rfl ?_
  refine tr_iconst (pc := 1) (v := 1) k_fn_minutes_1 (by decide) ?_
  refine tr_icmp_ge (pc := 2) 12 k_fn_minutes_2 (by decide) (fun q => ?_) (fun q => ?_)
  · replace hv := hv.1 q
    refine tr_iload_n (pc := 12) 1 k_fn_minutes_12 rfl rfl ?_
    refine tr_sipush (pc := 13) (v := 1440) k_fn_minutes_13 (by decide) ?_
    refine tr_aload_n (pc := 16) 0 k_fn_minutes_16 rfl rfl ?_
    refine tr_getP (pc := 17) k_fn_minutes_17 fl_fn_12 rfl (Eq.trans rfl (hsk.1 0 0 _ rfl)) ?_
    refine tr_getIx (pc := 20) k_fn_minutes_20 fl_fn_171 rfl rfl ?_
    refine tr_isub (pc := 23) k_fn_minutes_23 ?_
    refine tr_icmp_le (pc := 24) 34 k_fn_minutes_24 (by decide) (fun q => ?_) (fun q => ?_)
    · replace hv := hv.1 q
      refine tr_aload_n (pc := 34) 0 k_fn_minutes_34 rfl rfl ?_
      refine tr_getP (pc := 35) k_fn_minutes_35 fl_fn_12 rfl (Eq.trans rfl (hsk.1 0 0 _ rfl)) ?_
      have hT := hv
      clear hv
      refine tr_callV (pc := 38) (d' := d + 6) (mc' := 0) (ms' := 0) [] k_fn_minutes_38 ca_ga_reckonAsItIs ml_fn_144 ii_ga_reckonAsItIs ⟨by decide, rfl⟩ pa_ga_reckonAsItIs (by omega) (by omega) (by omega) rfl (Nat.le_of_ble_eq_true rfl) (Nat.le_of_ble_eq_true rfl) hT (fun v h9 hv => ?_)
      clear hT
      obtain ⟨rfl, hv⟩ := hv
      obtain ⟨h1, eh⟩ : ∃ z, z = h9 := ⟨_, rfl⟩
      subst eh
      obtain ⟨hskh1, hv⟩ := hv
      show mT g me_fn_minutes (d + 7) 0 0 41 [some (vr 0 0), some (vi x1), none] [] h1 _
      refine tr_iconst (pc := 41) (v := 0) k_fn_minutes_41 (by decide) ?_
      refine tr_istore_n (pc := 42) 2 k_fn_minutes_42 rfl (by decide) rfl ?_
      show mT g me_fn_minutes (d + 7) 0 0 43 [some (vr 0 0), some (vi x1), some (vi (0 : Int32))] [] h1 _
      exact hv
    · replace hv := hv.2 q
      refine tr_aload_n (pc := 27) 0 k_fn_minutes_27 rfl rfl ?_
      refine tr_bipush (pc := 28) (v := -6) k_fn_minutes_28 (by decide) ?_
      have hT := hv
      clear hv
      refine tr_callV (pc := 30) (d' := d + 6) (mc' := 0) (ms' := 0) [vi (-6 : Int32)] k_fn_minutes_30 ca_fn_refuse ml_fn_56 ii_fn_refuse ⟨by decide, rfl⟩ pa_fn_refuse (by omega) (by omega) (by omega) rfl (Nat.le_of_ble_eq_true rfl) (Nat.le_of_ble_eq_true rfl) hT (fun v h9 hv => ?_)
      clear hT
      obtain ⟨y3, rfl, hv⟩ := hv
      obtain ⟨h2, eh⟩ : ∃ z, z = h9 := ⟨_, rfl⟩
      subst eh
      obtain ⟨hskh2, hv⟩ := hv
      show mT g me_fn_minutes (d + 7) 0 0 33 [some (vr 0 0), some (vi x1), none] [vi y3] h2 _
      refine tr_ireturn (pc := 33) k_fn_minutes_33 rfl rfl ?_
      exact hv
  · replace hv := hv.2 q
    refine tr_aload_n (pc := 5) 0 k_fn_minutes_5 rfl rfl ?_
    refine tr_bipush (pc := 6) (v := -4) k_fn_minutes_6 (by decide) ?_
    have hT := hv
    clear hv
    refine tr_callV (pc := 8) (d' := d + 6) (mc' := 0) (ms' := 0) [vi (-4 : Int32)] k_fn_minutes_8 ca_fn_refuse ml_fn_56 ii_fn_refuse ⟨by decide, rfl⟩ pa_fn_refuse (by omega) (by omega) (by omega) rfl (Nat.le_of_ble_eq_true rfl) (Nat.le_of_ble_eq_true rfl) hT (fun v h9 hv => ?_)
    clear hT
    obtain ⟨y5, rfl, hv⟩ := hv
    obtain ⟨h4, eh⟩ : ∃ z, z = h9 := ⟨_, rfl⟩
    subst eh
    obtain ⟨hskh4, hv⟩ := hv
    show mT g me_fn_minutes (d + 7) 0 0 11 [some (vr 0 0), some (vi x1), none] [vi y5] h4 _
    refine tr_ireturn (pc := 11) k_fn_minutes_11 rfl rfl ?_
    exact hv
theorem v_fn_minutes_43 {g : mG} {d : Nat} (x1 : Int32) (x2 : Int32) {h : mH} {Q : Option mV → mH → Prop} (hsk : mSK h) (hv : (((hI h 2 0 1) ≤ x2 → Q (some (vi ((hI h 1 0 4) + x1))) (setI h 1 0 4 ((hI h 1 0 4) + x1))) ∧ (¬ (hI h 2 0 1) ≤ x2 → (∃ n1, mGet h 0 x2 (some (6, n1)) ∧ mT g me_tk_passMinutes (d + 6) 0 0 0 [some (vr 6 n1), some (vi x1), none, none] [] h (fun v h2 => v = none ∧ mSK h2 ∧ mT g me_fn_minutes (d + 7) 0 0 43 [some (vr 0 0), some (vi x1), some (vi (x2 + 1))] [] h2 Q))))) : mT g me_fn_minutes (d + 7) 0 0 43 [some (vr 0 0), some (vi x1), some (vi x2)] [] h Q := by
  refine tr_iload_n (pc := 43) 2 k_fn_minutes_43 rfl rfl ?_
  refine tr_aload_n (pc := 44) 0 k_fn_minutes_44 rfl rfl ?_
  refine tr_getP (pc := 45) k_fn_minutes_45 fl_fn_12 rfl (Eq.trans rfl (hsk.1 0 0 _ rfl)) ?_
  refine tr_getP (pc := 48) k_fn_minutes_48 fl_fn_60 rfl (Eq.trans rfl (hsk.1 1 0 _ rfl)) ?_
  refine tr_callV (pc := 51) (d' := d + 6) (mc' := 0) (ms' := 0) [] k_fn_minutes_51 ca_al_size ml_fn_63 ii_al_size ⟨by decide, rfl⟩ pa_al_size (by omega) (by omega) (by omega) rfl (Nat.le_of_ble_eq_true rfl) (Nat.le_of_ble_eq_true rfl) (Qk := fun v h9 => mT g me_fn_minutes (d + 7) 0 0 54 [some (vr 0 0), some (vi x1), some (vi x2)] (v.toList ++ [vi x2]) h9 _) ?_ (fun _ _ z => z)
  show mT g me_al_size (d + 6) 0 0 0 [some (vr 2 0)] [] h _
  refine tr_aload_n (pc := 0) 0 k_al_size_0 rfl rfl ?_
  refine tr_getIx (pc := 1) k_al_size_1 fl_al_48 rfl rfl ?_
  refine tr_ireturn (pc := 4) k_al_size_4 rfl rfl ?_
  show mT g me_fn_minutes (d + 7) 0 0 54 [some (vr 0 0), some (vi x1), some (vi x2)] [vi (hI h 2 0 1), vi x2] h _
  refine tr_icmp_ge (pc := 54) 81 k_fn_minutes_54 (by decide) (fun q => ?_) (fun q => ?_)
  · replace hv := hv.1 q
    refine tr_aload_n (pc := 81) 0 k_fn_minutes_81 rfl rfl ?_
    refine tr_getP (pc := 82) k_fn_minutes_82 fl_fn_12 rfl (Eq.trans rfl (hsk.1 0 0 _ rfl)) ?_
    refine tr_dup (pc := 85) k_fn_minutes_85 rfl ?_
    refine tr_getIx (pc := 86) k_fn_minutes_86 fl_fn_171 rfl rfl ?_
    refine tr_iload_n (pc := 89) 1 k_fn_minutes_89 rfl rfl ?_
    refine tr_iadd (pc := 90) k_fn_minutes_90 ?_
    refine tr_putI (pc := 91) k_fn_minutes_91 fl_fn_171 (Or.inl rfl) rfl ⟨rfl, rfl⟩ ?_
    refine tr_aload_n (pc := 94) 0 k_fn_minutes_94 rfl rfl ?_
    refine tr_getP (pc := 95) k_fn_minutes_95 fl_fn_12 rfl (Eq.trans (hP_setI) (hsk.1 0 0 _ rfl)) ?_
    refine tr_getIx (pc := 98) k_fn_minutes_98 fl_fn_171 rfl (hI_eq) ?_
    refine tr_ireturn (pc := 101) k_fn_minutes_101 rfl rfl ?_
    exact hv
  · replace hv := hv.2 q
    refine tr_aload_n (pc := 57) 0 k_fn_minutes_57 rfl rfl ?_
    refine tr_getP (pc := 58) k_fn_minutes_58 fl_fn_12 rfl (Eq.trans rfl (hsk.1 0 0 _ rfl)) ?_
    refine tr_getP (pc := 61) k_fn_minutes_61 fl_fn_60 rfl (Eq.trans rfl (hsk.1 1 0 _ rfl)) ?_
    refine tr_iload_n (pc := 64) 2 k_fn_minutes_64 rfl rfl ?_
    obtain ⟨n1, hg, hv⟩ := hv
    refine tr_alget (pc := 65) k_fn_minutes_65 ml_fn_174 (by omega) (Nat.le_of_ble_eq_true rfl) (mGet.up hg rfl rfl) ?_
    refine tr_cast (pc := 68) k_fn_minutes_68 (by decide) cl_fn_67 ?_
    refine tr_iload_n (pc := 71) 1 k_fn_minutes_71 rfl rfl ?_
    have hT := hv
    clear hv
    refine tr_callV (pc := 72) (d' := d + 6) (mc' := 0) (ms' := 0) [vi x1] k_fn_minutes_72 ca_tk_passMinutes ml_fn_178 ii_tk_passMinutes ⟨by decide, rfl⟩ pa_tk_passMinutes (by omega) (by omega) (by omega) rfl (Nat.le_of_ble_eq_true rfl) (Nat.le_of_ble_eq_true rfl) hT (fun v h9 hv => ?_)
    clear hT
    obtain ⟨rfl, hv⟩ := hv
    obtain ⟨h2, eh⟩ : ∃ z, z = h9 := ⟨_, rfl⟩
    subst eh
    obtain ⟨hskh2, hv⟩ := hv
    show mT g me_fn_minutes (d + 7) 0 0 75 [some (vr 0 0), some (vi x1), some (vi x2)] [] h2 _
    refine tr_iinc (pc := 75) (v := (x2 + 1)) k_fn_minutes_75 rfl rfl (by decide) rfl ?_
    show mT g me_fn_minutes (d + 7) 0 0 78 [some (vr 0 0), some (vi x1), some (vi (x2 + 1))] [] h2 _
    refine tr_goto (pc := 78) 43 k_fn_minutes_78 (by decide) ?_
    exact hv
theorem v_tk_passMinutes_0 {g : mG} {d : Nat} (a0 : Nat) (x1 : Int32) {h : mH} {Q : Option mV → mH → Prop} (hsk : mSK h) (hv : mT g me_tk_passMinutes (d + 4) 0 0 2 [some (vr 6 a0), some (vi x1), some (vi (0 : Int32)), none] [] h Q) : mT g me_tk_passMinutes (d + 4) 0 0 0 [some (vr 6 a0), some (vi x1), none, none] [] h Q := by
  refine tr_iconst (pc := 0) (v := 0) k_tk_passMinutes_0 (by decide) ?_
  refine tr_istore_n (pc := 1) 2 k_tk_passMinutes_1 rfl (by decide) rfl ?_
  show mT g me_tk_passMinutes (d + 4) 0 0 2 [some (vr 6 a0), some (vi x1), some (vi (0 : Int32)), none] [] h _
  exact hv
theorem v_tk_passMinutes_2 {g : mG} {d : Nat} (a0 : Nat) (x1 : Int32) (x2 : Int32) (o3 : Option mV) {h : mH} {Q : Option mV → mH → Prop} (hsk : mSK h) (hv : ((x1 ≤ x2 → Q none h) ∧ (¬ x1 ≤ x2 → mT g me_tk_passMinutes (d + 4) 0 0 2 [some (vr 6 a0), some (vi x1), some (vi (x2 + 1)), some (vi (if ((hI h 6 a0 2) * (hI h 6 a0 3)) < ((hI h 6 a0 5) + (hI h 6 a0 4)) then ((hI h 6 a0 2) * (hI h 6 a0 3)) else ((hI h 6 a0 5) + (hI h 6 a0 4))))] [] (setI (setI (setI h 6 a0 6 ((hI h 6 a0 6) + (((hI h 6 a0 5) + (hI h 6 a0 4)) - (if ((hI h 6 a0 2) * (hI h 6 a0 3)) < ((hI h 6 a0 5) + (hI h 6 a0 4)) then ((hI h 6 a0 2) * (hI h 6 a0 3)) else ((hI h 6 a0 5) + (hI h 6 a0 4)))))) 6 a0 7 ((hI h 6 a0 7) + (if ((hI h 6 a0 8) - (if ((hI h 6 a0 2) * (hI h 6 a0 3)) < ((hI h 6 a0 5) + (hI h 6 a0 4)) then ((hI h 6 a0 2) * (hI h 6 a0 3)) else ((hI h 6 a0 5) + (hI h 6 a0 4)))) < (0 : Int32) then (0 : Int32) else ((hI h 6 a0 8) - (if ((hI h 6 a0 2) * (hI h 6 a0 3)) < ((hI h 6 a0 5) + (hI h 6 a0 4)) then ((hI h 6 a0 2) * (hI h 6 a0 3)) else ((hI h 6 a0 5) + (hI h 6 a0 4))))))) 6 a0 5 (if ((if ((hI h 6 a0 2) * (hI h 6 a0 3)) < ((hI h 6 a0 5) + (hI h 6 a0 4)) then ((hI h 6 a0 2) * (hI h 6 a0 3)) else ((hI h 6 a0 5) + (hI h 6 a0 4))) - (hI h 6 a0 8)) < (0 : Int32) then (0 : Int32) else ((if ((hI h 6 a0 2) * (hI h 6 a0 3)) < ((hI h 6 a0 5) + (hI h 6 a0 4)) then ((hI h 6 a0 2) * (hI h 6 a0 3)) else ((hI h 6 a0 5) + (hI h 6 a0 4))) - (hI h 6 a0 8)))) Q))) : mT g me_tk_passMinutes (d + 4) 0 0 2 [some (vr 6 a0), some (vi x1), some (vi x2), o3] [] h Q := by
  refine tr_iload_n (pc := 2) 2 k_tk_passMinutes_2 rfl rfl ?_
  refine tr_iload_n (pc := 3) 1 k_tk_passMinutes_3 rfl rfl ?_
  refine tr_icmp_ge (pc := 4) 73 k_tk_passMinutes_4 (by decide) (fun q => ?_) (fun q => ?_)
  · replace hv := hv.1 q
    refine tr_return (pc := 73) k_tk_passMinutes_73 rfl ?_
    exact hv
  · replace hv := hv.2 q
    refine tr_aload_n (pc := 7) 0 k_tk_passMinutes_7 rfl rfl ?_
    refine tr_aload_n (pc := 8) 0 k_tk_passMinutes_8 rfl rfl ?_
    refine tr_getIx (pc := 9) k_tk_passMinutes_9 fl_tk_25 rfl rfl ?_
    refine tr_callV (pc := 12) (d' := d + 3) (mc' := 0) (ms' := 0) [vi (hI h 6 a0 5)] k_tk_passMinutes_12 ca_tk_withSpring ml_tk_38 ii_tk_withSpring ⟨by decide, rfl⟩ pa_tk_withSpring (by omega) (by omega) (by omega) rfl (Nat.le_of_ble_eq_true rfl) (Nat.le_of_ble_eq_true rfl) (Qk := fun v h9 => mT g me_tk_passMinutes (d + 4) 0 0 15 [some (vr 6 a0), some (vi x1), some (vi x2), o3] (v.toList ++ []) h9 _) ?_ (fun _ _ z => z)
    show mT g me_tk_withSpring (d + 3) 0 0 0 [some (vr 6 a0), some (vi (hI h 6 a0 5))] [] h _
    refine tr_iload_n (pc := 0) 1 k_tk_withSpring_0 rfl rfl ?_
    refine tr_aload_n (pc := 1) 0 k_tk_withSpring_1 rfl rfl ?_
    refine tr_getIx (pc := 2) k_tk_withSpring_2 fl_tk_22 rfl rfl ?_
    refine tr_iadd (pc := 5) k_tk_withSpring_5 ?_
    refine tr_aload_n (pc := 6) 0 k_tk_withSpring_6 rfl rfl ?_
    refine tr_callV (pc := 7) (d' := d + 2) (mc' := 0) (ms' := 0) [] k_tk_withSpring_7 ca_tk_capacity ml_tk_28 ii_tk_capacity ⟨by decide, rfl⟩ pa_tk_capacity (by omega) (by omega) (by omega) rfl (Nat.le_of_ble_eq_true rfl) (Nat.le_of_ble_eq_true rfl) (Qk := fun v h9 => mT g me_tk_withSpring (d + 3) 0 0 10 [some (vr 6 a0), some (vi (hI h 6 a0 5))] (v.toList ++ [vi ((hI h 6 a0 5) + (hI h 6 a0 4))]) h9 _) ?_ (fun _ _ z => z)
    show mT g me_tk_capacity (d + 2) 0 0 0 [some (vr 6 a0)] [] h _
    refine tr_aload_n (pc := 0) 0 k_tk_capacity_0 rfl rfl ?_
    refine tr_getIx (pc := 1) k_tk_capacity_1 fl_tk_16 rfl rfl ?_
    refine tr_aload_n (pc := 4) 0 k_tk_capacity_4 rfl rfl ?_
    refine tr_getIx (pc := 5) k_tk_capacity_5 fl_tk_19 rfl rfl ?_
    refine tr_imul (pc := 8) k_tk_capacity_8 ?_
    refine tr_ireturn (pc := 9) k_tk_capacity_9 rfl rfl ?_
    show mT g me_tk_withSpring (d + 3) 0 0 10 [some (vr 6 a0), some (vi (hI h 6 a0 5))] [vi ((hI h 6 a0 2) * (hI h 6 a0 3)), vi ((hI h 6 a0 5) + (hI h 6 a0 4))] h _
    refine tr_min (pc := 10) k_tk_withSpring_10 ml_tk_32 (by omega) (Nat.le_of_ble_eq_true rfl) ?_
    refine tr_ireturn (pc := 13) k_tk_withSpring_13 rfl rfl ?_
    show mT g me_tk_passMinutes (d + 4) 0 0 15 [some (vr 6 a0), some (vi x1), some (vi x2), o3] [vi (if ((hI h 6 a0 2) * (hI h 6 a0 3)) < ((hI h 6 a0 5) + (hI h 6 a0 4)) then ((hI h 6 a0 2) * (hI h 6 a0 3)) else ((hI h 6 a0 5) + (hI h 6 a0 4)))] h _
    refine tr_istore_n (pc := 15) 3 k_tk_passMinutes_15 rfl (by decide) rfl ?_
    show mT g me_tk_passMinutes (d + 4) 0 0 16 [some (vr 6 a0), some (vi x1), some (vi x2), some (vi (if ((hI h 6 a0 2) * (hI h 6 a0 3)) < ((hI h 6 a0 5) + (hI h 6 a0 4)) then ((hI h 6 a0 2) * (hI h 6 a0 3)) else ((hI h 6 a0 5) + (hI h 6 a0 4))))] [] h _
    refine tr_aload_n (pc := 16) 0 k_tk_passMinutes_16 rfl rfl ?_
    refine tr_dup (pc := 17) k_tk_passMinutes_17 rfl ?_
    refine tr_getIx (pc := 18) k_tk_passMinutes_18 fl_tk_48 rfl rfl ?_
    refine tr_aload_n (pc := 21) 0 k_tk_passMinutes_21 rfl rfl ?_
    refine tr_getIx (pc := 22) k_tk_passMinutes_22 fl_tk_25 rfl rfl ?_
    refine tr_aload_n (pc := 25) 0 k_tk_passMinutes_25 rfl rfl ?_
    refine tr_getIx (pc := 26) k_tk_passMinutes_26 fl_tk_22 rfl rfl ?_
    refine tr_iadd (pc := 29) k_tk_passMinutes_29 ?_
    refine tr_iload_n (pc := 30) 3 k_tk_passMinutes_30 rfl rfl ?_
    refine tr_isub (pc := 31) k_tk_passMinutes_31 ?_
    refine tr_iadd (pc := 32) k_tk_passMinutes_32 ?_
    refine tr_putI (pc := 33) k_tk_passMinutes_33 fl_tk_48 (Or.inl rfl) rfl ⟨rfl, rfl⟩ ?_
    refine tr_aload_n (pc := 36) 0 k_tk_passMinutes_36 rfl rfl ?_
    refine tr_dup (pc := 37) k_tk_passMinutes_37 rfl ?_
    refine tr_getIx (pc := 38) k_tk_passMinutes_38 fl_tk_51 rfl (hI_nf (by decide)) ?_
    refine tr_aload_n (pc := 41) 0 k_tk_passMinutes_41 rfl rfl ?_
    refine tr_getIx (pc := 42) k_tk_passMinutes_42 fl_tk_42 rfl (hI_nf (by decide)) ?_
    refine tr_iload_n (pc := 45) 3 k_tk_passMinutes_45 rfl rfl ?_
    refine tr_isub (pc := 46) k_tk_passMinutes_46 ?_
    refine tr_iconst (pc := 47) (v := 0) k_tk_passMinutes_47 (by decide) ?_
    refine tr_max (pc := 48) k_tk_passMinutes_48 ml_tk_45 (by omega) (Nat.le_of_ble_eq_true rfl) ?_
    refine tr_iadd (pc := 51) k_tk_passMinutes_51 ?_
    refine tr_putI (pc := 52) k_tk_passMinutes_52 fl_tk_51 (Or.inl rfl) rfl ⟨rfl, rfl⟩ ?_
    refine tr_aload_n (pc := 55) 0 k_tk_passMinutes_55 rfl rfl ?_
    refine tr_aload_n (pc := 56) 0 k_tk_passMinutes_56 rfl rfl ?_
    refine tr_aload_n (pc := 57) 0 k_tk_passMinutes_57 rfl rfl ?_
    refine tr_getIx (pc := 58) k_tk_passMinutes_58 fl_tk_25 rfl (Eq.trans (hI_nf (by decide)) (hI_nf (by decide))) ?_
    refine tr_callV (pc := 61) (d' := d + 3) (mc' := 0) (ms' := 0) [vi (hI h 6 a0 5)] k_tk_passMinutes_61 ca_tk_waterAfterMinute ml_tk_54 ii_tk_waterAfterMinute ⟨by decide, rfl⟩ pa_tk_waterAfterMinute (by omega) (by omega) (by omega) rfl (Nat.le_of_ble_eq_true rfl) (Nat.le_of_ble_eq_true rfl) (Qk := fun v h9 => mT g me_tk_passMinutes (d + 4) 0 0 64 [some (vr 6 a0), some (vi x1), some (vi x2), some (vi (if ((hI h 6 a0 2) * (hI h 6 a0 3)) < ((hI h 6 a0 5) + (hI h 6 a0 4)) then ((hI h 6 a0 2) * (hI h 6 a0 3)) else ((hI h 6 a0 5) + (hI h 6 a0 4))))] (v.toList ++ [vr 6 a0]) h9 _) ?_ (fun _ _ z => z)
    show mT g me_tk_waterAfterMinute (d + 3) 0 0 0 [some (vr 6 a0), some (vi (hI h 6 a0 5))] [] (setI (setI h 6 a0 6 ((hI h 6 a0 6) + (((hI h 6 a0 5) + (hI h 6 a0 4)) - (if ((hI h 6 a0 2) * (hI h 6 a0 3)) < ((hI h 6 a0 5) + (hI h 6 a0 4)) then ((hI h 6 a0 2) * (hI h 6 a0 3)) else ((hI h 6 a0 5) + (hI h 6 a0 4)))))) 6 a0 7 ((hI h 6 a0 7) + (if ((hI h 6 a0 8) - (if ((hI h 6 a0 2) * (hI h 6 a0 3)) < ((hI h 6 a0 5) + (hI h 6 a0 4)) then ((hI h 6 a0 2) * (hI h 6 a0 3)) else ((hI h 6 a0 5) + (hI h 6 a0 4)))) < (0 : Int32) then (0 : Int32) else ((hI h 6 a0 8) - (if ((hI h 6 a0 2) * (hI h 6 a0 3)) < ((hI h 6 a0 5) + (hI h 6 a0 4)) then ((hI h 6 a0 2) * (hI h 6 a0 3)) else ((hI h 6 a0 5) + (hI h 6 a0 4))))))) _
    refine tr_aload_n (pc := 0) 0 k_tk_waterAfterMinute_0 rfl rfl ?_
    refine tr_iload_n (pc := 1) 1 k_tk_waterAfterMinute_1 rfl rfl ?_
    refine tr_callV (pc := 2) (d' := d + 2) (mc' := 0) (ms' := 0) [vi (hI h 6 a0 5)] k_tk_waterAfterMinute_2 ca_tk_withSpring ml_tk_38 ii_tk_withSpring ⟨by decide, rfl⟩ pa_tk_withSpring (by omega) (by omega) (by omega) rfl (Nat.le_of_ble_eq_true rfl) (Nat.le_of_ble_eq_true rfl) (Qk := fun v h9 => mT g me_tk_waterAfterMinute (d + 3) 0 0 5 [some (vr 6 a0), some (vi (hI h 6 a0 5))] (v.toList ++ []) h9 _) ?_ (fun _ _ z => z)
    show mT g me_tk_withSpring (d + 2) 0 0 0 [some (vr 6 a0), some (vi (hI h 6 a0 5))] [] (setI (setI h 6 a0 6 ((hI h 6 a0 6) + (((hI h 6 a0 5) + (hI h 6 a0 4)) - (if ((hI h 6 a0 2) * (hI h 6 a0 3)) < ((hI h 6 a0 5) + (hI h 6 a0 4)) then ((hI h 6 a0 2) * (hI h 6 a0 3)) else ((hI h 6 a0 5) + (hI h 6 a0 4)))))) 6 a0 7 ((hI h 6 a0 7) + (if ((hI h 6 a0 8) - (if ((hI h 6 a0 2) * (hI h 6 a0 3)) < ((hI h 6 a0 5) + (hI h 6 a0 4)) then ((hI h 6 a0 2) * (hI h 6 a0 3)) else ((hI h 6 a0 5) + (hI h 6 a0 4)))) < (0 : Int32) then (0 : Int32) else ((hI h 6 a0 8) - (if ((hI h 6 a0 2) * (hI h 6 a0 3)) < ((hI h 6 a0 5) + (hI h 6 a0 4)) then ((hI h 6 a0 2) * (hI h 6 a0 3)) else ((hI h 6 a0 5) + (hI h 6 a0 4))))))) _
    refine tr_iload_n (pc := 0) 1 k_tk_withSpring_0 rfl rfl ?_
    refine tr_aload_n (pc := 1) 0 k_tk_withSpring_1 rfl rfl ?_
    refine tr_getIx (pc := 2) k_tk_withSpring_2 fl_tk_22 rfl (Eq.trans (hI_nf (by decide)) (hI_nf (by decide))) ?_
    refine tr_iadd (pc := 5) k_tk_withSpring_5 ?_
    refine tr_aload_n (pc := 6) 0 k_tk_withSpring_6 rfl rfl ?_
    refine tr_callV (pc := 7) (d' := d + 1) (mc' := 0) (ms' := 0) [] k_tk_withSpring_7 ca_tk_capacity ml_tk_28 ii_tk_capacity ⟨by decide, rfl⟩ pa_tk_capacity (by omega) (by omega) (by omega) rfl (Nat.le_of_ble_eq_true rfl) (Nat.le_of_ble_eq_true rfl) (Qk := fun v h9 => mT g me_tk_withSpring (d + 2) 0 0 10 [some (vr 6 a0), some (vi (hI h 6 a0 5))] (v.toList ++ [vi ((hI h 6 a0 5) + (hI h 6 a0 4))]) h9 _) ?_ (fun _ _ z => z)
    show mT g me_tk_capacity (d + 1) 0 0 0 [some (vr 6 a0)] [] (setI (setI h 6 a0 6 ((hI h 6 a0 6) + (((hI h 6 a0 5) + (hI h 6 a0 4)) - (if ((hI h 6 a0 2) * (hI h 6 a0 3)) < ((hI h 6 a0 5) + (hI h 6 a0 4)) then ((hI h 6 a0 2) * (hI h 6 a0 3)) else ((hI h 6 a0 5) + (hI h 6 a0 4)))))) 6 a0 7 ((hI h 6 a0 7) + (if ((hI h 6 a0 8) - (if ((hI h 6 a0 2) * (hI h 6 a0 3)) < ((hI h 6 a0 5) + (hI h 6 a0 4)) then ((hI h 6 a0 2) * (hI h 6 a0 3)) else ((hI h 6 a0 5) + (hI h 6 a0 4)))) < (0 : Int32) then (0 : Int32) else ((hI h 6 a0 8) - (if ((hI h 6 a0 2) * (hI h 6 a0 3)) < ((hI h 6 a0 5) + (hI h 6 a0 4)) then ((hI h 6 a0 2) * (hI h 6 a0 3)) else ((hI h 6 a0 5) + (hI h 6 a0 4))))))) _
    refine tr_aload_n (pc := 0) 0 k_tk_capacity_0 rfl rfl ?_
    refine tr_getIx (pc := 1) k_tk_capacity_1 fl_tk_16 rfl (Eq.trans (hI_nf (by decide)) (hI_nf (by decide))) ?_
    refine tr_aload_n (pc := 4) 0 k_tk_capacity_4 rfl rfl ?_
    refine tr_getIx (pc := 5) k_tk_capacity_5 fl_tk_19 rfl (Eq.trans (hI_nf (by decide)) (hI_nf (by decide))) ?_
    refine tr_imul (pc := 8) k_tk_capacity_8 ?_
    refine tr_ireturn (pc := 9) k_tk_capacity_9 rfl rfl ?_
    show mT g me_tk_withSpring (d + 2) 0 0 10 [some (vr 6 a0), some (vi (hI h 6 a0 5))] [vi ((hI h 6 a0 2) * (hI h 6 a0 3)), vi ((hI h 6 a0 5) + (hI h 6 a0 4))] (setI (setI h 6 a0 6 ((hI h 6 a0 6) + (((hI h 6 a0 5) + (hI h 6 a0 4)) - (if ((hI h 6 a0 2) * (hI h 6 a0 3)) < ((hI h 6 a0 5) + (hI h 6 a0 4)) then ((hI h 6 a0 2) * (hI h 6 a0 3)) else ((hI h 6 a0 5) + (hI h 6 a0 4)))))) 6 a0 7 ((hI h 6 a0 7) + (if ((hI h 6 a0 8) - (if ((hI h 6 a0 2) * (hI h 6 a0 3)) < ((hI h 6 a0 5) + (hI h 6 a0 4)) then ((hI h 6 a0 2) * (hI h 6 a0 3)) else ((hI h 6 a0 5) + (hI h 6 a0 4)))) < (0 : Int32) then (0 : Int32) else ((hI h 6 a0 8) - (if ((hI h 6 a0 2) * (hI h 6 a0 3)) < ((hI h 6 a0 5) + (hI h 6 a0 4)) then ((hI h 6 a0 2) * (hI h 6 a0 3)) else ((hI h 6 a0 5) + (hI h 6 a0 4))))))) _
    refine tr_min (pc := 10) k_tk_withSpring_10 ml_tk_32 (by omega) (Nat.le_of_ble_eq_true rfl) ?_
    refine tr_ireturn (pc := 13) k_tk_withSpring_13 rfl rfl ?_
    show mT g me_tk_waterAfterMinute (d + 3) 0 0 5 [some (vr 6 a0), some (vi (hI h 6 a0 5))] [vi (if ((hI h 6 a0 2) * (hI h 6 a0 3)) < ((hI h 6 a0 5) + (hI h 6 a0 4)) then ((hI h 6 a0 2) * (hI h 6 a0 3)) else ((hI h 6 a0 5) + (hI h 6 a0 4)))] (setI (setI h 6 a0 6 ((hI h 6 a0 6) + (((hI h 6 a0 5) + (hI h 6 a0 4)) - (if ((hI h 6 a0 2) * (hI h 6 a0 3)) < ((hI h 6 a0 5) + (hI h 6 a0 4)) then ((hI h 6 a0 2) * (hI h 6 a0 3)) else ((hI h 6 a0 5) + (hI h 6 a0 4)))))) 6 a0 7 ((hI h 6 a0 7) + (if ((hI h 6 a0 8) - (if ((hI h 6 a0 2) * (hI h 6 a0 3)) < ((hI h 6 a0 5) + (hI h 6 a0 4)) then ((hI h 6 a0 2) * (hI h 6 a0 3)) else ((hI h 6 a0 5) + (hI h 6 a0 4)))) < (0 : Int32) then (0 : Int32) else ((hI h 6 a0 8) - (if ((hI h 6 a0 2) * (hI h 6 a0 3)) < ((hI h 6 a0 5) + (hI h 6 a0 4)) then ((hI h 6 a0 2) * (hI h 6 a0 3)) else ((hI h 6 a0 5) + (hI h 6 a0 4))))))) _
    refine tr_aload_n (pc := 5) 0 k_tk_waterAfterMinute_5 rfl rfl ?_
    refine tr_getIx (pc := 6) k_tk_waterAfterMinute_6 fl_tk_42 rfl (Eq.trans (hI_nf (by decide)) (hI_nf (by decide))) ?_
    refine tr_isub (pc := 9) k_tk_waterAfterMinute_9 ?_
    refine tr_iconst (pc := 10) (v := 0) k_tk_waterAfterMinute_10 (by decide) ?_
    refine tr_max (pc := 11) k_tk_waterAfterMinute_11 ml_tk_45 (by omega) (Nat.le_of_ble_eq_true rfl) ?_
    refine tr_ireturn (pc := 14) k_tk_waterAfterMinute_14 rfl rfl ?_
    show mT g me_tk_passMinutes (d + 4) 0 0 64 [some (vr 6 a0), some (vi x1), some (vi x2), some (vi (if ((hI h 6 a0 2) * (hI h 6 a0 3)) < ((hI h 6 a0 5) + (hI h 6 a0 4)) then ((hI h 6 a0 2) * (hI h 6 a0 3)) else ((hI h 6 a0 5) + (hI h 6 a0 4))))] [vi (if ((if ((hI h 6 a0 2) * (hI h 6 a0 3)) < ((hI h 6 a0 5) + (hI h 6 a0 4)) then ((hI h 6 a0 2) * (hI h 6 a0 3)) else ((hI h 6 a0 5) + (hI h 6 a0 4))) - (hI h 6 a0 8)) < (0 : Int32) then (0 : Int32) else ((if ((hI h 6 a0 2) * (hI h 6 a0 3)) < ((hI h 6 a0 5) + (hI h 6 a0 4)) then ((hI h 6 a0 2) * (hI h 6 a0 3)) else ((hI h 6 a0 5) + (hI h 6 a0 4))) - (hI h 6 a0 8))), vr 6 a0] (setI (setI h 6 a0 6 ((hI h 6 a0 6) + (((hI h 6 a0 5) + (hI h 6 a0 4)) - (if ((hI h 6 a0 2) * (hI h 6 a0 3)) < ((hI h 6 a0 5) + (hI h 6 a0 4)) then ((hI h 6 a0 2) * (hI h 6 a0 3)) else ((hI h 6 a0 5) + (hI h 6 a0 4)))))) 6 a0 7 ((hI h 6 a0 7) + (if ((hI h 6 a0 8) - (if ((hI h 6 a0 2) * (hI h 6 a0 3)) < ((hI h 6 a0 5) + (hI h 6 a0 4)) then ((hI h 6 a0 2) * (hI h 6 a0 3)) else ((hI h 6 a0 5) + (hI h 6 a0 4)))) < (0 : Int32) then (0 : Int32) else ((hI h 6 a0 8) - (if ((hI h 6 a0 2) * (hI h 6 a0 3)) < ((hI h 6 a0 5) + (hI h 6 a0 4)) then ((hI h 6 a0 2) * (hI h 6 a0 3)) else ((hI h 6 a0 5) + (hI h 6 a0 4))))))) _
    refine tr_putI (pc := 64) k_tk_passMinutes_64 fl_tk_25 (Or.inl rfl) rfl ⟨rfl, rfl⟩ ?_
    refine tr_iinc (pc := 67) (v := (x2 + 1)) k_tk_passMinutes_67 rfl rfl (by decide) rfl ?_
    show mT g me_tk_passMinutes (d + 4) 0 0 70 [some (vr 6 a0), some (vi x1), some (vi (x2 + 1)), some (vi (if ((hI h 6 a0 2) * (hI h 6 a0 3)) < ((hI h 6 a0 5) + (hI h 6 a0 4)) then ((hI h 6 a0 2) * (hI h 6 a0 3)) else ((hI h 6 a0 5) + (hI h 6 a0 4))))] [] (setI (setI (setI h 6 a0 6 ((hI h 6 a0 6) + (((hI h 6 a0 5) + (hI h 6 a0 4)) - (if ((hI h 6 a0 2) * (hI h 6 a0 3)) < ((hI h 6 a0 5) + (hI h 6 a0 4)) then ((hI h 6 a0 2) * (hI h 6 a0 3)) else ((hI h 6 a0 5) + (hI h 6 a0 4)))))) 6 a0 7 ((hI h 6 a0 7) + (if ((hI h 6 a0 8) - (if ((hI h 6 a0 2) * (hI h 6 a0 3)) < ((hI h 6 a0 5) + (hI h 6 a0 4)) then ((hI h 6 a0 2) * (hI h 6 a0 3)) else ((hI h 6 a0 5) + (hI h 6 a0 4)))) < (0 : Int32) then (0 : Int32) else ((hI h 6 a0 8) - (if ((hI h 6 a0 2) * (hI h 6 a0 3)) < ((hI h 6 a0 5) + (hI h 6 a0 4)) then ((hI h 6 a0 2) * (hI h 6 a0 3)) else ((hI h 6 a0 5) + (hI h 6 a0 4))))))) 6 a0 5 (if ((if ((hI h 6 a0 2) * (hI h 6 a0 3)) < ((hI h 6 a0 5) + (hI h 6 a0 4)) then ((hI h 6 a0 2) * (hI h 6 a0 3)) else ((hI h 6 a0 5) + (hI h 6 a0 4))) - (hI h 6 a0 8)) < (0 : Int32) then (0 : Int32) else ((if ((hI h 6 a0 2) * (hI h 6 a0 3)) < ((hI h 6 a0 5) + (hI h 6 a0 4)) then ((hI h 6 a0 2) * (hI h 6 a0 3)) else ((hI h 6 a0 5) + (hI h 6 a0 4))) - (hI h 6 a0 8)))) _
    refine tr_goto (pc := 70) 2 k_tk_passMinutes_70 (by decide) ?_
    exact hv
theorem v_fn_lasts_0 {g : mG} {d : Nat} (x1 : Int32) {h : mH} {Q : Option mV → mH → Prop} (hsk : mSK h) (hv : mT g me_ga_tankAt (d + 6) 0 0 0 [some (vr 1 0), some (vi x1)] [] h (fun v h1 => ∃ p2, v = some (vp p2) ∧ mSK h1 ∧ ((p2 = none → mT g me_fn_refuse (d + 6) 0 0 0 [some (vr 0 0), some (vi (-1 : Int32)), none] [] h1 (fun v h4 => ∃ y5, v = some (vi y5) ∧ mSK h4 ∧ Q (some (vi y5)) h4)) ∧ (∀ kq n3, p2 = some (kq, n3) → kq = 6 ∧ mT g me_ga_reckonAsItIs (d + 6) 0 0 0 [some (vr 1 0)] [] h1 (fun v h6 => v = none ∧ mSK h6 ∧ mT g me_fn_lasts (d + 7) 0 0 34 [some (vr 0 0), some (vi x1), some (vr 6 n3), some (vi (hI h6 6 n3 5)), some (vi (0 : Int32))] [] h6 Q))))) : mT g me_fn_lasts (d + 7) 0 0 0 [some (vr 0 0), some (vi x1), none, none, none] [] h Q := by
  refine tr_aload_n (pc := 0) 0 k_fn_lasts_0 rfl rfl ?_
  refine tr_getP (pc := 1) k_fn_lasts_1 fl_fn_12 rfl (Eq.trans rfl (hsk.1 0 0 _ rfl)) ?_
  refine tr_iload_n (pc := 4) 1 k_fn_lasts_4 rfl rfl ?_
  have hT := hv
  clear hv
  refine tr_callV (pc := 5) (d' := d + 6) (mc' := 0) (ms' := 0) [vi x1] k_fn_lasts_5 ca_ga_tankAt ml_fn_76 ii_ga_tankAt ⟨by decide, rfl⟩ pa_ga_tankAt (by omega) (by omega) (by omega) rfl (Nat.le_of_ble_eq_true rfl) (Nat.le_of_ble_eq_true rfl) hT (fun v h9 hv => ?_)
  clear hT
  obtain ⟨p2, rfl, hv⟩ := hv
  obtain ⟨h1, eh⟩ : ∃ z, z = h9 := ⟨_, rfl⟩
  subst eh
  obtain ⟨hskh1, hv⟩ := hv
  show mT g me_fn_lasts (d + 7) 0 0 8 [some (vr 0 0), some (vi x1), none, none, none] [vp p2] h1 _
  refine tr_astore_n (pc := 8) 2 k_fn_lasts_8 rfl (by decide) rfl ?_
  show mT g me_fn_lasts (d + 7) 0 0 9 [some (vr 0 0), some (vi x1), some (vp p2), none, none] [] h1 _
  refine tr_aload_n (pc := 9) 2 k_fn_lasts_9 rfl rfl ?_
  rcases p2 with _ | ⟨kq, n3⟩
  · replace hv := hv.1 rfl
    refine tr_ifnonnull (pc := 10) 19 k_fn_lasts_10 (by decide) (fun _ => ?_) (fun _ _ q => by cases q)
    refine tr_aload_n (pc := 13) 0 k_fn_lasts_13 rfl rfl ?_
    refine tr_iconst (pc := 14) (v := -1) k_fn_lasts_14 (by decide) ?_
    have hT := hv
    clear hv
    refine tr_callV (pc := 15) (d' := d + 6) (mc' := 0) (ms' := 0) [vi (-1 : Int32)] k_fn_lasts_15 ca_fn_refuse ml_fn_56 ii_fn_refuse ⟨by decide, rfl⟩ pa_fn_refuse (by omega) (by omega) (by omega) rfl (Nat.le_of_ble_eq_true rfl) (Nat.le_of_ble_eq_true rfl) hT (fun v h9 hv => ?_)
    clear hT
    obtain ⟨y5, rfl, hv⟩ := hv
    obtain ⟨h4, eh⟩ : ∃ z, z = h9 := ⟨_, rfl⟩
    subst eh
    obtain ⟨hskh4, hv⟩ := hv
    show mT g me_fn_lasts (d + 7) 0 0 18 [some (vr 0 0), some (vi x1), some (vn), none, none] [vi y5] h4 _
    refine tr_ireturn (pc := 18) k_fn_lasts_18 rfl rfl ?_
    exact hv
  · have hw := hv.2 kq n3 rfl
    clear hv
    obtain ⟨tq, hv⟩ := hw
    subst tq
    refine tr_ifnonnull (pc := 10) 19 k_fn_lasts_10 (by decide) (fun q => by cases q) (fun _ _ _ => ?_)
    refine tr_aload_n (pc := 19) 0 k_fn_lasts_19 rfl rfl ?_
    refine tr_getP (pc := 20) k_fn_lasts_20 fl_fn_12 rfl (Eq.trans rfl (hskh1.1 0 0 _ rfl)) ?_
    have hT := hv
    clear hv
    refine tr_callV (pc := 23) (d' := d + 6) (mc' := 0) (ms' := 0) [] k_fn_lasts_23 ca_ga_reckonAsItIs ml_fn_144 ii_ga_reckonAsItIs ⟨by decide, rfl⟩ pa_ga_reckonAsItIs (by omega) (by omega) (by omega) rfl (Nat.le_of_ble_eq_true rfl) (Nat.le_of_ble_eq_true rfl) hT (fun v h9 hv => ?_)
    clear hT
    obtain ⟨rfl, hv⟩ := hv
    obtain ⟨h6, eh⟩ : ∃ z, z = h9 := ⟨_, rfl⟩
    subst eh
    obtain ⟨hskh6, hv⟩ := hv
    show mT g me_fn_lasts (d + 7) 0 0 26 [some (vr 0 0), some (vi x1), some (vr 6 n3), none, none] [] h6 _
    refine tr_aload_n (pc := 26) 2 k_fn_lasts_26 rfl rfl ?_
    refine tr_getIx (pc := 27) k_fn_lasts_27 fl_fn_157 rfl rfl ?_
    refine tr_istore_n (pc := 30) 3 k_fn_lasts_30 rfl (by decide) rfl ?_
    show mT g me_fn_lasts (d + 7) 0 0 31 [some (vr 0 0), some (vi x1), some (vr 6 n3), some (vi (hI h6 6 n3 5)), none] [] h6 _
    refine tr_iconst (pc := 31) (v := 0) k_fn_lasts_31 (by decide) ?_
    refine tr_istore (pc := 32) k_fn_lasts_32 (by decide) rfl ?_
    show mT g me_fn_lasts (d + 7) 0 0 34 [some (vr 0 0), some (vi x1), some (vr 6 n3), some (vi (hI h6 6 n3 5)), some (vi (0 : Int32))] [] h6 _
    exact hv
theorem v_fn_lasts_34 {g : mG} {d : Nat} (x1 : Int32) (a2 : Nat) (x3 : Int32) (x4 : Int32) {h : mH} {Q : Option mV → mH → Prop} (hsk : mSK h) (hv : (((1440 : Int32) < x4 → Q (some (vi (-9 : Int32))) h) ∧ (¬ (1440 : Int32) < x4 → ((¬ x3 = 0 → mT g me_fn_lasts (d + 7) 0 0 34 [some (vr 0 0), some (vi x1), some (vr 6 a2), some (vi (if ((if ((hI h 6 a2 2) * (hI h 6 a2 3)) < (x3 + (hI h 6 a2 4)) then ((hI h 6 a2 2) * (hI h 6 a2 3)) else (x3 + (hI h 6 a2 4))) - (hI h 6 a2 8)) < (0 : Int32) then (0 : Int32) else ((if ((hI h 6 a2 2) * (hI h 6 a2 3)) < (x3 + (hI h 6 a2 4)) then ((hI h 6 a2 2) * (hI h 6 a2 3)) else (x3 + (hI h 6 a2 4))) - (hI h 6 a2 8)))), some (vi (x4 + 1))] [] h Q) ∧ (x3 = 0 → Q (some (vi x4)) h))))) : mT g me_fn_lasts (d + 7) 0 0 34 [some (vr 0 0), some (vi x1), some (vr 6 a2), some (vi x3), some (vi x4)] [] h Q := by
  refine tr_iload (pc := 34) k_fn_lasts_34 rfl ?_
  refine tr_sipush (pc := 36) (v := 1440) k_fn_lasts_36 (by decide) ?_
  refine tr_icmp_gt (pc := 39) 61 k_fn_lasts_39 (by decide) (fun q => ?_) (fun q => ?_)
  · replace hv := hv.1 q
    refine tr_bipush (pc := 61) (v := -9) k_fn_lasts_61 (by decide) ?_
    refine tr_ireturn (pc := 63) k_fn_lasts_63 rfl rfl ?_
    exact hv
  · replace hv := hv.2 q
    refine tr_iload_n (pc := 42) 3 k_fn_lasts_42 rfl rfl ?_
    refine tr_if_ne (pc := 43) 49 k_fn_lasts_43 (by decide) (fun q => ?_) (fun q => ?_)
    · replace hv := hv.1 q
      refine tr_aload_n (pc := 49) 2 k_fn_lasts_49 rfl rfl ?_
      refine tr_iload_n (pc := 50) 3 k_fn_lasts_50 rfl rfl ?_
      refine tr_callV (pc := 51) (d' := d + 6) (mc' := 0) (ms' := 0) [vi x3] k_fn_lasts_51 ca_tk_waterAfterMinute ml_fn_182 ii_tk_waterAfterMinute ⟨by decide, rfl⟩ pa_tk_waterAfterMinute (by omega) (by omega) (by omega) rfl (Nat.le_of_ble_eq_true rfl) (Nat.le_of_ble_eq_true rfl) (Qk := fun v h9 => mT g me_fn_lasts (d + 7) 0 0 54 [some (vr 0 0), some (vi x1), some (vr 6 a2), some (vi x3), some (vi x4)] (v.toList ++ []) h9 _) ?_ (fun _ _ z => z)
      show mT g me_tk_waterAfterMinute (d + 6) 0 0 0 [some (vr 6 a2), some (vi x3)] [] h _
      refine tr_aload_n (pc := 0) 0 k_tk_waterAfterMinute_0 rfl rfl ?_
      refine tr_iload_n (pc := 1) 1 k_tk_waterAfterMinute_1 rfl rfl ?_
      refine tr_callV (pc := 2) (d' := d + 5) (mc' := 0) (ms' := 0) [vi x3] k_tk_waterAfterMinute_2 ca_tk_withSpring ml_tk_38 ii_tk_withSpring ⟨by decide, rfl⟩ pa_tk_withSpring (by omega) (by omega) (by omega) rfl (Nat.le_of_ble_eq_true rfl) (Nat.le_of_ble_eq_true rfl) (Qk := fun v h9 => mT g me_tk_waterAfterMinute (d + 6) 0 0 5 [some (vr 6 a2), some (vi x3)] (v.toList ++ []) h9 _) ?_ (fun _ _ z => z)
      show mT g me_tk_withSpring (d + 5) 0 0 0 [some (vr 6 a2), some (vi x3)] [] h _
      refine tr_iload_n (pc := 0) 1 k_tk_withSpring_0 rfl rfl ?_
      refine tr_aload_n (pc := 1) 0 k_tk_withSpring_1 rfl rfl ?_
      refine tr_getIx (pc := 2) k_tk_withSpring_2 fl_tk_22 rfl rfl ?_
      refine tr_iadd (pc := 5) k_tk_withSpring_5 ?_
      refine tr_aload_n (pc := 6) 0 k_tk_withSpring_6 rfl rfl ?_
      refine tr_callV (pc := 7) (d' := d + 4) (mc' := 0) (ms' := 0) [] k_tk_withSpring_7 ca_tk_capacity ml_tk_28 ii_tk_capacity ⟨by decide, rfl⟩ pa_tk_capacity (by omega) (by omega) (by omega) rfl (Nat.le_of_ble_eq_true rfl) (Nat.le_of_ble_eq_true rfl) (Qk := fun v h9 => mT g me_tk_withSpring (d + 5) 0 0 10 [some (vr 6 a2), some (vi x3)] (v.toList ++ [vi (x3 + (hI h 6 a2 4))]) h9 _) ?_ (fun _ _ z => z)
      show mT g me_tk_capacity (d + 4) 0 0 0 [some (vr 6 a2)] [] h _
      refine tr_aload_n (pc := 0) 0 k_tk_capacity_0 rfl rfl ?_
      refine tr_getIx (pc := 1) k_tk_capacity_1 fl_tk_16 rfl rfl ?_
      refine tr_aload_n (pc := 4) 0 k_tk_capacity_4 rfl rfl ?_
      refine tr_getIx (pc := 5) k_tk_capacity_5 fl_tk_19 rfl rfl ?_
      refine tr_imul (pc := 8) k_tk_capacity_8 ?_
      refine tr_ireturn (pc := 9) k_tk_capacity_9 rfl rfl ?_
      show mT g me_tk_withSpring (d + 5) 0 0 10 [some (vr 6 a2), some (vi x3)] [vi ((hI h 6 a2 2) * (hI h 6 a2 3)), vi (x3 + (hI h 6 a2 4))] h _
      refine tr_min (pc := 10) k_tk_withSpring_10 ml_tk_32 (by omega) (Nat.le_of_ble_eq_true rfl) ?_
      refine tr_ireturn (pc := 13) k_tk_withSpring_13 rfl rfl ?_
      show mT g me_tk_waterAfterMinute (d + 6) 0 0 5 [some (vr 6 a2), some (vi x3)] [vi (if ((hI h 6 a2 2) * (hI h 6 a2 3)) < (x3 + (hI h 6 a2 4)) then ((hI h 6 a2 2) * (hI h 6 a2 3)) else (x3 + (hI h 6 a2 4)))] h _
      refine tr_aload_n (pc := 5) 0 k_tk_waterAfterMinute_5 rfl rfl ?_
      refine tr_getIx (pc := 6) k_tk_waterAfterMinute_6 fl_tk_42 rfl rfl ?_
      refine tr_isub (pc := 9) k_tk_waterAfterMinute_9 ?_
      refine tr_iconst (pc := 10) (v := 0) k_tk_waterAfterMinute_10 (by decide) ?_
      refine tr_max (pc := 11) k_tk_waterAfterMinute_11 ml_tk_45 (by omega) (Nat.le_of_ble_eq_true rfl) ?_
      refine tr_ireturn (pc := 14) k_tk_waterAfterMinute_14 rfl rfl ?_
      show mT g me_fn_lasts (d + 7) 0 0 54 [some (vr 0 0), some (vi x1), some (vr 6 a2), some (vi x3), some (vi x4)] [vi (if ((if ((hI h 6 a2 2) * (hI h 6 a2 3)) < (x3 + (hI h 6 a2 4)) then ((hI h 6 a2 2) * (hI h 6 a2 3)) else (x3 + (hI h 6 a2 4))) - (hI h 6 a2 8)) < (0 : Int32) then (0 : Int32) else ((if ((hI h 6 a2 2) * (hI h 6 a2 3)) < (x3 + (hI h 6 a2 4)) then ((hI h 6 a2 2) * (hI h 6 a2 3)) else (x3 + (hI h 6 a2 4))) - (hI h 6 a2 8)))] h _
      refine tr_istore_n (pc := 54) 3 k_fn_lasts_54 rfl (by decide) rfl ?_
      show mT g me_fn_lasts (d + 7) 0 0 55 [some (vr 0 0), some (vi x1), some (vr 6 a2), some (vi (if ((if ((hI h 6 a2 2) * (hI h 6 a2 3)) < (x3 + (hI h 6 a2 4)) then ((hI h 6 a2 2) * (hI h 6 a2 3)) else (x3 + (hI h 6 a2 4))) - (hI h 6 a2 8)) < (0 : Int32) then (0 : Int32) else ((if ((hI h 6 a2 2) * (hI h 6 a2 3)) < (x3 + (hI h 6 a2 4)) then ((hI h 6 a2 2) * (hI h 6 a2 3)) else (x3 + (hI h 6 a2 4))) - (hI h 6 a2 8)))), some (vi x4)] [] h _
      refine tr_iinc (pc := 55) (v := (x4 + 1)) k_fn_lasts_55 rfl rfl (by decide) rfl ?_
      show mT g me_fn_lasts (d + 7) 0 0 58 [some (vr 0 0), some (vi x1), some (vr 6 a2), some (vi (if ((if ((hI h 6 a2 2) * (hI h 6 a2 3)) < (x3 + (hI h 6 a2 4)) then ((hI h 6 a2 2) * (hI h 6 a2 3)) else (x3 + (hI h 6 a2 4))) - (hI h 6 a2 8)) < (0 : Int32) then (0 : Int32) else ((if ((hI h 6 a2 2) * (hI h 6 a2 3)) < (x3 + (hI h 6 a2 4)) then ((hI h 6 a2 2) * (hI h 6 a2 3)) else (x3 + (hI h 6 a2 4))) - (hI h 6 a2 8)))), some (vi (x4 + 1))] [] h _
      refine tr_goto (pc := 58) 34 k_fn_lasts_58 (by decide) ?_
      exact hv
    · replace hv := hv.2 q
      refine tr_iload (pc := 46) k_fn_lasts_46 rfl ?_
      refine tr_ireturn (pc := 48) k_fn_lasts_48 rfl rfl ?_
      exact hv
theorem v_fn_view_0 {g : mG} {d : Nat} (x1 : Int32) (x2 : Int32) (x3 : Int32) (x4 : Int32) {h : mH} {Q : Option mV → mH → Prop} (hsk : mSK h) (hv : ((x1 = 0 → mT g me_fn_refuse (d + 6) 0 0 0 [some (vr 0 0), some (vi (-1 : Int32)), none] [] h (fun v h1 => ∃ y2, v = some (vi y2) ∧ mSK h1 ∧ Q (some (vi y2)) h1)) ∧ (¬ x1 = 0 → (((x1 &&& ((((1 : Int32) <<< ((hI h 2 2 1) &&& 31)) - (1 : Int32)) ^^^ (-1 : Int32))) = 0 → ((¬ (hI h 2 3 1) = 0 → (∃ n3, mGet h 3 ((hI h 2 3 1) - (1 : Int32)) (some (9, n3)) ∧ ((x2 ≤ (hI h 9 n3 2) → mT g me_fn_refuse (d + 6) 0 0 0 [some (vr 0 0), some (vi (-4 : Int32)), none] [] h (fun v h4 => ∃ y5, v = some (vi y5) ∧ mSK h4 ∧ Q (some (vi y5)) h4)) ∧ (¬ x2 ≤ (hI h 9 n3 2) → ((x3 < x2 → mT g me_fn_refuse (d + 6) 0 0 0 [some (vr 0 0), some (vi (-4 : Int32)), none] [] h (fun v h6 => ∃ y7, v = some (vi y7) ∧ mSK h6 ∧ Q (some (vi y7)) h6)) ∧ (¬ x3 < x2 → ((0 ≤ x4 → (((1440 : Int32) < x3 → mT g me_fn_refuse (d + 6) 0 0 0 [some (vr 0 0), some (vi (-6 : Int32)), none] [] h (fun v h8 => ∃ y9, v = some (vi y9) ∧ mSK h8 ∧ Q (some (vi y9)) h8)) ∧ (¬ (1440 : Int32) < x3 → (((500 : Int32) < x4 → mT g me_fn_refuse (d + 6) 0 0 0 [some (vr 0 0), some (vi (-6 : Int32)), none] [] h (fun v h10 => ∃ y11, v = some (vi y11) ∧ mSK h10 ∧ Q (some (vi y11)) h10)) ∧ (¬ (500 : Int32) < x4 → (((hI h 2 3 1) < (12 : Int32) → mT g me_al_add (d + 6) 1 74 0 [some (vr 2 3), some (vr 9 (hC h 9))] [] (setI (setI (setI (setI (newC h 9 0) 9 (hC h 9) 0 x1) 9 (hC h 9) 1 x2) 9 (hC h 9) 2 x3) 9 (hC h 9) 3 x4) (fun v h12 => ∃ y13, v = some (vi y13) ∧ mSK h12 ∧ Q (some (vi (hI h 2 3 1))) h12)) ∧ (¬ (hI h 2 3 1) < (12 : Int32) → mT g me_fn_refuse (d + 6) 0 0 0 [some (vr 0 0), some (vi (-6 : Int32)), none] [] h (fun v h14 => ∃ y15, v = some (vi y15) ∧ mSK h14 ∧ Q (some (vi y15)) h14)))))))) ∧ (¬ 0 ≤ x4 → mT g me_fn_refuse (d + 6) 0 0 0 [some (vr 0 0), some (vi (-4 : Int32)), none] [] h (fun v h16 => ∃ y17, v = some (vi y17) ∧ mSK h16 ∧ Q (some (vi y17)) h16))))))))) ∧ ((hI h 2 3 1) = 0 → ((x2 ≤ (-1 : Int32) → mT g me_fn_refuse (d + 6) 0 0 0 [some (vr 0 0), some (vi (-4 : Int32)), none] [] h (fun v h18 => ∃ y19, v = some (vi y19) ∧ mSK h18 ∧ Q (some (vi y19)) h18)) ∧ (¬ x2 ≤ (-1 : Int32) → ((x3 < x2 → mT g me_fn_refuse (d + 6) 0 0 0 [some (vr 0 0), some (vi (-4 : Int32)), none] [] h (fun v h20 => ∃ y21, v = some (vi y21) ∧ mSK h20 ∧ Q (some (vi y21)) h20)) ∧ (¬ x3 < x2 → ((0 ≤ x4 → (((1440 : Int32) < x3 → mT g me_fn_refuse (d + 6) 0 0 0 [some (vr 0 0), some (vi (-6 : Int32)), none] [] h (fun v h22 => ∃ y23, v = some (vi y23) ∧ mSK h22 ∧ Q (some (vi y23)) h22)) ∧ (¬ (1440 : Int32) < x3 → (((500 : Int32) < x4 → mT g me_fn_refuse (d + 6) 0 0 0 [some (vr 0 0), some (vi (-6 : Int32)), none] [] h (fun v h24 => ∃ y25, v = some (vi y25) ∧ mSK h24 ∧ Q (some (vi y25)) h24)) ∧ (¬ (500 : Int32) < x4 → (((hI h 2 3 1) < (12 : Int32) → mT g me_al_add (d + 6) 1 74 0 [some (vr 2 3), some (vr 9 (hC h 9))] [] (setI (setI (setI (setI (newC h 9 0) 9 (hC h 9) 0 x1) 9 (hC h 9) 1 x2) 9 (hC h 9) 2 x3) 9 (hC h 9) 3 x4) (fun v h26 => ∃ y27, v = some (vi y27) ∧ mSK h26 ∧ Q (some (vi (hI h 2 3 1))) h26)) ∧ (¬ (hI h 2 3 1) < (12 : Int32) → mT g me_fn_refuse (d + 6) 0 0 0 [some (vr 0 0), some (vi (-6 : Int32)), none] [] h (fun v h28 => ∃ y29, v = some (vi y29) ∧ mSK h28 ∧ Q (some (vi y29)) h28)))))))) ∧ (¬ 0 ≤ x4 → mT g me_fn_refuse (d + 6) 0 0 0 [some (vr 0 0), some (vi (-4 : Int32)), none] [] h (fun v h30 => ∃ y31, v = some (vi y31) ∧ mSK h30 ∧ Q (some (vi y31)) h30)))))))))) ∧ (¬ (x1 &&& ((((1 : Int32) <<< ((hI h 2 2 1) &&& 31)) - (1 : Int32)) ^^^ (-1 : Int32))) = 0 → mT g me_fn_refuse (d + 6) 0 0 0 [some (vr 0 0), some (vi (-1 : Int32)), none] [] h (fun v h32 => ∃ y33, v = some (vi y33) ∧ mSK h32 ∧ Q (some (vi y33)) h32)))))) : mT g me_fn_view (d + 7) 2 78 0 [some (vr 0 0), some (vi x1), some (vi x2), some (vi x3), some (vi x4), none, none] [] h Q := by
  refine tr_iload_n (pc := 0) 1 k_fn_view_0 rfl rfl ?_
  refine tr_if_eq (pc := 1) 18 k_fn_view_1 (by decide) (fun q => ?_) (fun q => ?_)
  · replace hv := hv.1 q
    refine tr_aload_n (pc := 18) 0 k_fn_view_18 rfl rfl ?_
    refine tr_iconst (pc := 19) (v := -1) k_fn_view_19 (by decide) ?_
    have hT := hv
    clear hv
    refine tr_callV (pc := 20) (d' := d + 6) (mc' := 0) (ms' := 0) [vi (-1 : Int32)] k_fn_view_20 ca_fn_refuse ml_fn_56 ii_fn_refuse ⟨by decide, rfl⟩ pa_fn_refuse (by omega) (by omega) (by omega) rfl (Nat.le_of_ble_eq_true rfl) (Nat.le_of_ble_eq_true rfl) hT (fun v h9 hv => ?_)
    clear hT
    obtain ⟨y2, rfl, hv⟩ := hv
    obtain ⟨h1, eh⟩ : ∃ z, z = h9 := ⟨_, rfl⟩
    subst eh
    obtain ⟨hskh1, hv⟩ := hv
    show mT g me_fn_view (d + 7) 2 78 23 [some (vr 0 0), some (vi x1), some (vi x2), some (vi x3), some (vi x4), none, none] [vi y2] h1 _
    refine tr_ireturn (pc := 23) k_fn_view_23 rfl rfl ?_
    exact hv
  · replace hv := hv.2 q
    refine tr_iload_n (pc := 4) 1 k_fn_view_4 rfl rfl ?_
    refine tr_aload_n (pc := 5) 0 k_fn_view_5 rfl rfl ?_
    refine tr_getP (pc := 6) k_fn_view_6 fl_fn_12 rfl (Eq.trans rfl (hsk.1 0 0 _ rfl)) ?_
    refine tr_callV (pc := 9) (d' := d + 6) (mc' := 0) (ms' := 0) [] k_fn_view_9 ca_ga_allJets ml_fn_185 ii_ga_allJets ⟨by decide, rfl⟩ pa_ga_allJets (by omega) (by omega) (by omega) rfl (Nat.le_of_ble_eq_true rfl) (Nat.le_of_ble_eq_true rfl) (Qk := fun v h9 => mT g me_fn_view (d + 7) 2 78 12 [some (vr 0 0), some (vi x1), some (vi x2), some (vi x3), some (vi x4), none, none] (v.toList ++ [vi x1]) h9 _) ?_ (fun _ _ z => z)
    show mT g me_ga_allJets (d + 6) 0 0 0 [some (vr 1 0)] [] h _
    refine tr_iconst (pc := 0) (v := 1) k_ga_allJets_0 (by decide) ?_
    refine tr_aload_n (pc := 1) 0 k_ga_allJets_1 rfl rfl ?_
    refine tr_getP (pc := 2) k_ga_allJets_2 fl_ga_21 rfl (Eq.trans rfl (hsk.1 1 2 _ rfl)) ?_
    refine tr_callV (pc := 5) (d' := d + 5) (mc' := 0) (ms' := 0) [] k_ga_allJets_5 ca_al_size ml_ga_24 ii_al_size ⟨by decide, rfl⟩ pa_al_size (by omega) (by omega) (by omega) rfl (Nat.le_of_ble_eq_true rfl) (Nat.le_of_ble_eq_true rfl) (Qk := fun v h9 => mT g me_ga_allJets (d + 6) 0 0 8 [some (vr 1 0)] (v.toList ++ [vi (1 : Int32)]) h9 _) ?_ (fun _ _ z => z)
    show mT g me_al_size (d + 5) 0 0 0 [some (vr 2 2)] [] h _
    refine tr_aload_n (pc := 0) 0 k_al_size_0 rfl rfl ?_
    refine tr_getIx (pc := 1) k_al_size_1 fl_al_48 rfl rfl ?_
    refine tr_ireturn (pc := 4) k_al_size_4 rfl rfl ?_
    show mT g me_ga_allJets (d + 6) 0 0 8 [some (vr 1 0)] [vi (hI h 2 2 1), vi (1 : Int32)] h _
    refine tr_ishl (pc := 8) k_ga_allJets_8 ?_
    refine tr_iconst (pc := 9) (v := 1) k_ga_allJets_9 (by decide) ?_
    refine tr_isub (pc := 10) k_ga_allJets_10 ?_
    refine tr_ireturn (pc := 11) k_ga_allJets_11 rfl rfl ?_
    show mT g me_fn_view (d + 7) 2 78 12 [some (vr 0 0), some (vi x1), some (vi x2), some (vi x3), some (vi x4), none, none] [vi (((1 : Int32) <<< ((hI h 2 2 1) &&& 31)) - (1 : Int32)), vi x1] h _
    refine tr_iconst (pc := 12) (v := -1) k_fn_view_12 (by decide) ?_
    refine tr_ixor (pc := 13) k_fn_view_13 ?_
    refine tr_iand (pc := 14) k_fn_view_14 ?_
    refine tr_if_eq (pc := 15) 24 k_fn_view_15 (by decide) (fun q => ?_) (fun q => ?_)
    · replace hv := hv.1 q
      refine tr_aload_n (pc := 24) 0 k_fn_view_24 rfl rfl ?_
      refine tr_getP (pc := 25) k_fn_view_25 fl_fn_19 rfl (Eq.trans rfl (hsk.1 0 1 _ rfl)) ?_
      refine tr_callV (pc := 28) (d' := d + 6) (mc' := 0) (ms' := 0) [] k_fn_view_28 ca_al_size ml_fn_63 ii_al_size ⟨by decide, rfl⟩ pa_al_size (by omega) (by omega) (by omega) rfl (Nat.le_of_ble_eq_true rfl) (Nat.le_of_ble_eq_true rfl) (Qk := fun v h9 => mT g me_fn_view (d + 7) 2 78 31 [some (vr 0 0), some (vi x1), some (vi x2), some (vi x3), some (vi x4), none, none] (v.toList ++ []) h9 _) ?_ (fun _ _ z => z)
      show mT g me_al_size (d + 6) 0 0 0 [some (vr 2 3)] [] h _
      refine tr_aload_n (pc := 0) 0 k_al_size_0 rfl rfl ?_
      refine tr_getIx (pc := 1) k_al_size_1 fl_al_48 rfl rfl ?_
      refine tr_ireturn (pc := 4) k_al_size_4 rfl rfl ?_
      show mT g me_fn_view (d + 7) 2 78 31 [some (vr 0 0), some (vi x1), some (vi x2), some (vi x3), some (vi x4), none, none] [vi (hI h 2 3 1)] h _
      refine tr_istore (pc := 31) k_fn_view_31 (by decide) rfl ?_
      show mT g me_fn_view (d + 7) 2 78 33 [some (vr 0 0), some (vi x1), some (vi x2), some (vi x3), some (vi x4), some (vi (hI h 2 3 1)), none] [] h _
      refine tr_iload (pc := 33) k_fn_view_33 rfl ?_
      refine tr_if_ne (pc := 35) 42 k_fn_view_35 (by decide) (fun q => ?_) (fun q => ?_)
      · replace hv := hv.1 q
        refine tr_aload_n (pc := 42) 0 k_fn_view_42 rfl rfl ?_
        refine tr_getP (pc := 43) k_fn_view_43 fl_fn_19 rfl (Eq.trans rfl (hsk.1 0 1 _ rfl)) ?_
        refine tr_iload (pc := 46) k_fn_view_46 rfl ?_
        refine tr_iconst (pc := 48) (v := 1) k_fn_view_48 (by decide) ?_
        refine tr_isub (pc := 49) k_fn_view_49 ?_
        obtain ⟨n3, hg, hv⟩ := hv
        refine tr_alget (pc := 50) k_fn_view_50 ml_fn_174 (by omega) (Nat.le_of_ble_eq_true rfl) (mGet.up hg rfl rfl) ?_
        refine tr_cast (pc := 53) k_fn_view_53 (by decide) cl_fn_188 ?_
        refine tr_getIx (pc := 56) k_fn_view_56 fl_fn_190 rfl rfl ?_
        refine tr_istore (pc := 59) k_fn_view_59 (by decide) rfl ?_
        show mT g me_fn_view (d + 7) 2 78 61 [some (vr 0 0), some (vi x1), some (vi x2), some (vi x3), some (vi x4), some (vi (hI h 2 3 1)), some (vi (hI h 9 n3 2))] [] h _
        refine tr_iload_n (pc := 61) 2 k_fn_view_61 rfl rfl ?_
        refine tr_iload (pc := 62) k_fn_view_62 rfl ?_
        refine tr_icmp_le (pc := 64) 77 k_fn_view_64 (by decide) (fun q => ?_) (fun q => ?_)
        · replace hv := hv.1 q
          refine tr_aload_n (pc := 77) 0 k_fn_view_77 rfl rfl ?_
          refine tr_bipush (pc := 78) (v := -4) k_fn_view_78 (by decide) ?_
          have hT := hv
          clear hv
          refine tr_callV (pc := 80) (d' := d + 6) (mc' := 0) (ms' := 0) [vi (-4 : Int32)] k_fn_view_80 ca_fn_refuse ml_fn_56 ii_fn_refuse ⟨by decide, rfl⟩ pa_fn_refuse (by omega) (by omega) (by omega) rfl (Nat.le_of_ble_eq_true rfl) (Nat.le_of_ble_eq_true rfl) hT (fun v h9 hv => ?_)
          clear hT
          obtain ⟨y5, rfl, hv⟩ := hv
          obtain ⟨h4, eh⟩ : ∃ z, z = h9 := ⟨_, rfl⟩
          subst eh
          obtain ⟨hskh4, hv⟩ := hv
          show mT g me_fn_view (d + 7) 2 78 83 [some (vr 0 0), some (vi x1), some (vi x2), some (vi x3), some (vi x4), some (vi (hI h 2 3 1)), some (vi (hI h 9 n3 2))] [vi y5] h4 _
          refine tr_ireturn (pc := 83) k_fn_view_83 rfl rfl ?_
          exact hv
        · replace hv := hv.2 q
          refine tr_iload_n (pc := 67) 3 k_fn_view_67 rfl rfl ?_
          refine tr_iload_n (pc := 68) 2 k_fn_view_68 rfl rfl ?_
          refine tr_icmp_lt (pc := 69) 77 k_fn_view_69 (by decide) (fun q => ?_) (fun q => ?_)
          · replace hv := hv.1 q
            refine tr_aload_n (pc := 77) 0 k_fn_view_77 rfl rfl ?_
            refine tr_bipush (pc := 78) (v := -4) k_fn_view_78 (by decide) ?_
            have hT := hv
            clear hv
            refine tr_callV (pc := 80) (d' := d + 6) (mc' := 0) (ms' := 0) [vi (-4 : Int32)] k_fn_view_80 ca_fn_refuse ml_fn_56 ii_fn_refuse ⟨by decide, rfl⟩ pa_fn_refuse (by omega) (by omega) (by omega) rfl (Nat.le_of_ble_eq_true rfl) (Nat.le_of_ble_eq_true rfl) hT (fun v h9 hv => ?_)
            clear hT
            obtain ⟨y7, rfl, hv⟩ := hv
            obtain ⟨h6, eh⟩ : ∃ z, z = h9 := ⟨_, rfl⟩
            subst eh
            obtain ⟨hskh6, hv⟩ := hv
            show mT g me_fn_view (d + 7) 2 78 83 [some (vr 0 0), some (vi x1), some (vi x2), some (vi x3), some (vi x4), some (vi (hI h 2 3 1)), some (vi (hI h 9 n3 2))] [vi y7] h6 _
            refine tr_ireturn (pc := 83) k_fn_view_83 rfl rfl ?_
            exact hv
          · replace hv := hv.2 q
            refine tr_iload (pc := 72) k_fn_view_72 rfl ?_
            refine tr_if_ge (pc := 74) 84 k_fn_view_74 (by decide) (fun q => ?_) (fun q => ?_)
            · replace hv := hv.1 q
              refine tr_iload_n (pc := 84) 3 k_fn_view_84 rfl rfl ?_
              refine tr_sipush (pc := 85) (v := 1440) k_fn_view_85 (by decide) ?_
              refine tr_icmp_gt (pc := 88) 106 k_fn_view_88 (by decide) (fun q => ?_) (fun q => ?_)
              · replace hv := hv.1 q
                refine tr_aload_n (pc := 106) 0 k_fn_view_106 rfl rfl ?_
                refine tr_bipush (pc := 107) (v := -6) k_fn_view_107 (by decide) ?_
                have hT := hv
                clear hv
                refine tr_callV (pc := 109) (d' := d + 6) (mc' := 0) (ms' := 0) [vi (-6 : Int32)] k_fn_view_109 ca_fn_refuse ml_fn_56 ii_fn_refuse ⟨by decide, rfl⟩ pa_fn_refuse (by omega) (by omega) (by omega) rfl (Nat.le_of_ble_eq_true rfl) (Nat.le_of_ble_eq_true rfl) hT (fun v h9 hv => ?_)
                clear hT
                obtain ⟨y9, rfl, hv⟩ := hv
                obtain ⟨h8, eh⟩ : ∃ z, z = h9 := ⟨_, rfl⟩
                subst eh
                obtain ⟨hskh8, hv⟩ := hv
                show mT g me_fn_view (d + 7) 2 78 112 [some (vr 0 0), some (vi x1), some (vi x2), some (vi x3), some (vi x4), some (vi (hI h 2 3 1)), some (vi (hI h 9 n3 2))] [vi y9] h8 _
                refine tr_ireturn (pc := 112) k_fn_view_112 rfl rfl ?_
                exact hv
              · replace hv := hv.2 q
                refine tr_iload (pc := 91) k_fn_view_91 rfl ?_
                refine tr_sipush (pc := 93) (v := 500) k_fn_view_93 (by decide) ?_
                refine tr_icmp_gt (pc := 96) 106 k_fn_view_96 (by decide) (fun q => ?_) (fun q => ?_)
                · replace hv := hv.1 q
                  refine tr_aload_n (pc := 106) 0 k_fn_view_106 rfl rfl ?_
                  refine tr_bipush (pc := 107) (v := -6) k_fn_view_107 (by decide) ?_
                  have hT := hv
                  clear hv
                  refine tr_callV (pc := 109) (d' := d + 6) (mc' := 0) (ms' := 0) [vi (-6 : Int32)] k_fn_view_109 ca_fn_refuse ml_fn_56 ii_fn_refuse ⟨by decide, rfl⟩ pa_fn_refuse (by omega) (by omega) (by omega) rfl (Nat.le_of_ble_eq_true rfl) (Nat.le_of_ble_eq_true rfl) hT (fun v h9 hv => ?_)
                  clear hT
                  obtain ⟨y11, rfl, hv⟩ := hv
                  obtain ⟨h10, eh⟩ : ∃ z, z = h9 := ⟨_, rfl⟩
                  subst eh
                  obtain ⟨hskh10, hv⟩ := hv
                  show mT g me_fn_view (d + 7) 2 78 112 [some (vr 0 0), some (vi x1), some (vi x2), some (vi x3), some (vi x4), some (vi (hI h 2 3 1)), some (vi (hI h 9 n3 2))] [vi y11] h10 _
                  refine tr_ireturn (pc := 112) k_fn_view_112 rfl rfl ?_
                  exact hv
                · replace hv := hv.2 q
                  refine tr_iload (pc := 99) k_fn_view_99 rfl ?_
                  refine tr_bipush (pc := 101) (v := 12) k_fn_view_101 (by decide) ?_
                  refine tr_icmp_lt (pc := 103) 113 k_fn_view_103 (by decide) (fun q => ?_) (fun q => ?_)
                  · replace hv := hv.1 q
                    refine tr_aload_n (pc := 113) 0 k_fn_view_113 rfl rfl ?_
                    refine tr_getP (pc := 114) k_fn_view_114 fl_fn_19 rfl (Eq.trans rfl (hsk.1 0 1 _ rfl)) ?_
                    refine tr_new (pc := 117) (k := 9) k_fn_view_117 (by decide) rfl cl_fn_188 in_9 iz_9 ?_
                    show mT g me_fn_view (d + 7) 1 74 120 [some (vr 0 0), some (vi x1), some (vi x2), some (vi x3), some (vi x4), some (vi (hI h 2 3 1)), some (vi (hI h 9 n3 2))] [vr 9 (hC h 9), vr 2 3] (newC h 9 0) _
                    refine tr_dup (pc := 120) k_fn_view_120 rfl ?_
                    refine tr_iload_n (pc := 121) 1 k_fn_view_121 rfl rfl ?_
                    refine tr_iload_n (pc := 122) 2 k_fn_view_122 rfl rfl ?_
                    refine tr_iload_n (pc := 123) 3 k_fn_view_123 rfl rfl ?_
                    refine tr_iload (pc := 124) k_fn_view_124 rfl ?_
                    refine tr_callI (pc := 126) (d' := d + 6) (mc' := 0) (ms' := 0) [vi x1, vi x2, vi x3, vi x4] k_fn_view_126 ca_vw_init ml_fn_193 ii_vw_init pa_vw_init (by omega) (by omega) (by omega) rfl (Nat.le_of_ble_eq_true rfl) (Nat.le_of_ble_eq_true rfl) (Qk := fun v h9 => mT g me_fn_view (d + 7) 1 74 129 [some (vr 0 0), some (vi x1), some (vi x2), some (vi x3), some (vi x4), some (vi (hI h 2 3 1)), some (vi (hI h 9 n3 2))] (v.toList ++ [vr 9 (hC h 9), vr 2 3]) h9 _) ?_ (fun _ _ z => z)
                    show mT g me_vw_init (d + 6) 0 0 0 [some (vr 9 (hC h 9)), some (vi x1), some (vi x2), some (vi x3), some (vi x4)] [] (newC h 9 0) _
                    refine tr_aload_n (pc := 0) 0 k_vw_init_0 rfl rfl ?_
                    refine tr_obj (pc := 1) k_vw_init_1 ml_vw_1 (by omega) (Nat.le_of_ble_eq_true rfl) ?_
                    refine tr_aload_n (pc := 4) 0 k_vw_init_4 rfl rfl ?_
                    refine tr_iload_n (pc := 5) 1 k_vw_init_5 rfl rfl ?_
                    refine tr_putI (pc := 6) k_vw_init_6 fl_vw_7 (Or.inr ⟨rfl, rfl, rfl⟩) rfl ⟨rfl, rfl⟩ ?_
                    refine tr_aload_n (pc := 9) 0 k_vw_init_9 rfl rfl ?_
                    refine tr_iload_n (pc := 10) 2 k_vw_init_10 rfl rfl ?_
                    refine tr_putI (pc := 11) k_vw_init_11 fl_vw_13 (Or.inr ⟨rfl, rfl, rfl⟩) rfl ⟨rfl, rfl⟩ ?_
                    refine tr_aload_n (pc := 14) 0 k_vw_init_14 rfl rfl ?_
                    refine tr_iload_n (pc := 15) 3 k_vw_init_15 rfl rfl ?_
                    refine tr_putI (pc := 16) k_vw_init_16 fl_vw_16 (Or.inr ⟨rfl, rfl, rfl⟩) rfl ⟨rfl, rfl⟩ ?_
                    refine tr_aload_n (pc := 19) 0 k_vw_init_19 rfl rfl ?_
                    refine tr_iload (pc := 20) k_vw_init_20 rfl ?_
                    refine tr_putI (pc := 22) k_vw_init_22 fl_vw_19 (Or.inr ⟨rfl, rfl, rfl⟩) rfl ⟨rfl, rfl⟩ ?_
                    refine tr_return (pc := 25) k_vw_init_25 rfl ?_
                    show mT g me_fn_view (d + 7) 1 74 129 [some (vr 0 0), some (vi x1), some (vi x2), some (vi x3), some (vi x4), some (vi (hI h 2 3 1)), some (vi (hI h 9 n3 2))] [vr 9 (hC h 9), vr 2 3] (setI (setI (setI (setI (newC h 9 0) 9 (hC h 9) 0 x1) 9 (hC h 9) 1 x2) 9 (hC h 9) 2 x3) 9 (hC h 9) 3 x4) _
                    have hT := hv
                    clear hv
                    refine tr_callV (pc := 129) (d' := d + 6) (mc' := 1) (ms' := 74) [vr 9 (hC h 9)] k_fn_view_129 ca_al_add ml_fn_72 ii_al_add ⟨by decide, rfl⟩ pa_al_add (by omega) (by omega) (by omega) rfl (Nat.le_of_ble_eq_true rfl) (Nat.le_of_ble_eq_true rfl) hT (fun v h9 hv => ?_)
                    clear hT
                    obtain ⟨y13, rfl, hv⟩ := hv
                    obtain ⟨h12, eh⟩ : ∃ z, z = h9 := ⟨_, rfl⟩
                    subst eh
                    obtain ⟨hskh12, hv⟩ := hv
                    show mT g me_fn_view (d + 7) 0 0 132 [some (vr 0 0), some (vi x1), some (vi x2), some (vi x3), some (vi x4), some (vi (hI h 2 3 1)), some (vi (hI h 9 n3 2))] [vi y13] h12 _
                    refine tr_pop (pc := 132) k_fn_view_132 rfl ?_
                    refine tr_iload (pc := 133) k_fn_view_133 rfl ?_
                    refine tr_ireturn (pc := 135) k_fn_view_135 rfl rfl ?_
                    exact hv
                  · replace hv := hv.2 q
                    refine tr_aload_n (pc := 106) 0 k_fn_view_106 rfl rfl ?_
                    refine tr_bipush (pc := 107) (v := -6) k_fn_view_107 (by decide) ?_
                    have hT := hv
                    clear hv
                    refine tr_callV (pc := 109) (d' := d + 6) (mc' := 0) (ms' := 0) [vi (-6 : Int32)] k_fn_view_109 ca_fn_refuse ml_fn_56 ii_fn_refuse ⟨by decide, rfl⟩ pa_fn_refuse (by omega) (by omega) (by omega) rfl (Nat.le_of_ble_eq_true rfl) (Nat.le_of_ble_eq_true rfl) hT (fun v h9 hv => ?_)
                    clear hT
                    obtain ⟨y15, rfl, hv⟩ := hv
                    obtain ⟨h14, eh⟩ : ∃ z, z = h9 := ⟨_, rfl⟩
                    subst eh
                    obtain ⟨hskh14, hv⟩ := hv
                    show mT g me_fn_view (d + 7) 2 78 112 [some (vr 0 0), some (vi x1), some (vi x2), some (vi x3), some (vi x4), some (vi (hI h 2 3 1)), some (vi (hI h 9 n3 2))] [vi y15] h14 _
                    refine tr_ireturn (pc := 112) k_fn_view_112 rfl rfl ?_
                    exact hv
            · replace hv := hv.2 q
              refine tr_aload_n (pc := 77) 0 k_fn_view_77 rfl rfl ?_
              refine tr_bipush (pc := 78) (v := -4) k_fn_view_78 (by decide) ?_
              have hT := hv
              clear hv
              refine tr_callV (pc := 80) (d' := d + 6) (mc' := 0) (ms' := 0) [vi (-4 : Int32)] k_fn_view_80 ca_fn_refuse ml_fn_56 ii_fn_refuse ⟨by decide, rfl⟩ pa_fn_refuse (by omega) (by omega) (by omega) rfl (Nat.le_of_ble_eq_true rfl) (Nat.le_of_ble_eq_true rfl) hT (fun v h9 hv => ?_)
              clear hT
              obtain ⟨y17, rfl, hv⟩ := hv
              obtain ⟨h16, eh⟩ : ∃ z, z = h9 := ⟨_, rfl⟩
              subst eh
              obtain ⟨hskh16, hv⟩ := hv
              show mT g me_fn_view (d + 7) 2 78 83 [some (vr 0 0), some (vi x1), some (vi x2), some (vi x3), some (vi x4), some (vi (hI h 2 3 1)), some (vi (hI h 9 n3 2))] [vi y17] h16 _
              refine tr_ireturn (pc := 83) k_fn_view_83 rfl rfl ?_
              exact hv
      · replace hv := hv.2 q
        refine tr_iconst (pc := 38) (v := -1) k_fn_view_38 (by decide) ?_
        refine tr_goto (pc := 39) 59 k_fn_view_39 (by decide) ?_
        refine tr_istore (pc := 59) k_fn_view_59 (by decide) rfl ?_
        show mT g me_fn_view (d + 7) 2 78 61 [some (vr 0 0), some (vi x1), some (vi x2), some (vi x3), some (vi x4), some (vi (hI h 2 3 1)), some (vi (-1 : Int32))] [] h _
        refine tr_iload_n (pc := 61) 2 k_fn_view_61 rfl rfl ?_
        refine tr_iload (pc := 62) k_fn_view_62 rfl ?_
        refine tr_icmp_le (pc := 64) 77 k_fn_view_64 (by decide) (fun q => ?_) (fun q => ?_)
        · replace hv := hv.1 q
          refine tr_aload_n (pc := 77) 0 k_fn_view_77 rfl rfl ?_
          refine tr_bipush (pc := 78) (v := -4) k_fn_view_78 (by decide) ?_
          have hT := hv
          clear hv
          refine tr_callV (pc := 80) (d' := d + 6) (mc' := 0) (ms' := 0) [vi (-4 : Int32)] k_fn_view_80 ca_fn_refuse ml_fn_56 ii_fn_refuse ⟨by decide, rfl⟩ pa_fn_refuse (by omega) (by omega) (by omega) rfl (Nat.le_of_ble_eq_true rfl) (Nat.le_of_ble_eq_true rfl) hT (fun v h9 hv => ?_)
          clear hT
          obtain ⟨y19, rfl, hv⟩ := hv
          obtain ⟨h18, eh⟩ : ∃ z, z = h9 := ⟨_, rfl⟩
          subst eh
          obtain ⟨hskh18, hv⟩ := hv
          show mT g me_fn_view (d + 7) 2 78 83 [some (vr 0 0), some (vi x1), some (vi x2), some (vi x3), some (vi x4), some (vi (hI h 2 3 1)), some (vi (-1 : Int32))] [vi y19] h18 _
          refine tr_ireturn (pc := 83) k_fn_view_83 rfl rfl ?_
          exact hv
        · replace hv := hv.2 q
          refine tr_iload_n (pc := 67) 3 k_fn_view_67 rfl rfl ?_
          refine tr_iload_n (pc := 68) 2 k_fn_view_68 rfl rfl ?_
          refine tr_icmp_lt (pc := 69) 77 k_fn_view_69 (by decide) (fun q => ?_) (fun q => ?_)
          · replace hv := hv.1 q
            refine tr_aload_n (pc := 77) 0 k_fn_view_77 rfl rfl ?_
            refine tr_bipush (pc := 78) (v := -4) k_fn_view_78 (by decide) ?_
            have hT := hv
            clear hv
            refine tr_callV (pc := 80) (d' := d + 6) (mc' := 0) (ms' := 0) [vi (-4 : Int32)] k_fn_view_80 ca_fn_refuse ml_fn_56 ii_fn_refuse ⟨by decide, rfl⟩ pa_fn_refuse (by omega) (by omega) (by omega) rfl (Nat.le_of_ble_eq_true rfl) (Nat.le_of_ble_eq_true rfl) hT (fun v h9 hv => ?_)
            clear hT
            obtain ⟨y21, rfl, hv⟩ := hv
            obtain ⟨h20, eh⟩ : ∃ z, z = h9 := ⟨_, rfl⟩
            subst eh
            obtain ⟨hskh20, hv⟩ := hv
            show mT g me_fn_view (d + 7) 2 78 83 [some (vr 0 0), some (vi x1), some (vi x2), some (vi x3), some (vi x4), some (vi (hI h 2 3 1)), some (vi (-1 : Int32))] [vi y21] h20 _
            refine tr_ireturn (pc := 83) k_fn_view_83 rfl rfl ?_
            exact hv
          · replace hv := hv.2 q
            refine tr_iload (pc := 72) k_fn_view_72 rfl ?_
            refine tr_if_ge (pc := 74) 84 k_fn_view_74 (by decide) (fun q => ?_) (fun q => ?_)
            · replace hv := hv.1 q
              refine tr_iload_n (pc := 84) 3 k_fn_view_84 rfl rfl ?_
              refine tr_sipush (pc := 85) (v := 1440) k_fn_view_85 (by decide) ?_
              refine tr_icmp_gt (pc := 88) 106 k_fn_view_88 (by decide) (fun q => ?_) (fun q => ?_)
              · replace hv := hv.1 q
                refine tr_aload_n (pc := 106) 0 k_fn_view_106 rfl rfl ?_
                refine tr_bipush (pc := 107) (v := -6) k_fn_view_107 (by decide) ?_
                have hT := hv
                clear hv
                refine tr_callV (pc := 109) (d' := d + 6) (mc' := 0) (ms' := 0) [vi (-6 : Int32)] k_fn_view_109 ca_fn_refuse ml_fn_56 ii_fn_refuse ⟨by decide, rfl⟩ pa_fn_refuse (by omega) (by omega) (by omega) rfl (Nat.le_of_ble_eq_true rfl) (Nat.le_of_ble_eq_true rfl) hT (fun v h9 hv => ?_)
                clear hT
                obtain ⟨y23, rfl, hv⟩ := hv
                obtain ⟨h22, eh⟩ : ∃ z, z = h9 := ⟨_, rfl⟩
                subst eh
                obtain ⟨hskh22, hv⟩ := hv
                show mT g me_fn_view (d + 7) 2 78 112 [some (vr 0 0), some (vi x1), some (vi x2), some (vi x3), some (vi x4), some (vi (hI h 2 3 1)), some (vi (-1 : Int32))] [vi y23] h22 _
                refine tr_ireturn (pc := 112) k_fn_view_112 rfl rfl ?_
                exact hv
              · replace hv := hv.2 q
                refine tr_iload (pc := 91) k_fn_view_91 rfl ?_
                refine tr_sipush (pc := 93) (v := 500) k_fn_view_93 (by decide) ?_
                refine tr_icmp_gt (pc := 96) 106 k_fn_view_96 (by decide) (fun q => ?_) (fun q => ?_)
                · replace hv := hv.1 q
                  refine tr_aload_n (pc := 106) 0 k_fn_view_106 rfl rfl ?_
                  refine tr_bipush (pc := 107) (v := -6) k_fn_view_107 (by decide) ?_
                  have hT := hv
                  clear hv
                  refine tr_callV (pc := 109) (d' := d + 6) (mc' := 0) (ms' := 0) [vi (-6 : Int32)] k_fn_view_109 ca_fn_refuse ml_fn_56 ii_fn_refuse ⟨by decide, rfl⟩ pa_fn_refuse (by omega) (by omega) (by omega) rfl (Nat.le_of_ble_eq_true rfl) (Nat.le_of_ble_eq_true rfl) hT (fun v h9 hv => ?_)
                  clear hT
                  obtain ⟨y25, rfl, hv⟩ := hv
                  obtain ⟨h24, eh⟩ : ∃ z, z = h9 := ⟨_, rfl⟩
                  subst eh
                  obtain ⟨hskh24, hv⟩ := hv
                  show mT g me_fn_view (d + 7) 2 78 112 [some (vr 0 0), some (vi x1), some (vi x2), some (vi x3), some (vi x4), some (vi (hI h 2 3 1)), some (vi (-1 : Int32))] [vi y25] h24 _
                  refine tr_ireturn (pc := 112) k_fn_view_112 rfl rfl ?_
                  exact hv
                · replace hv := hv.2 q
                  refine tr_iload (pc := 99) k_fn_view_99 rfl ?_
                  refine tr_bipush (pc := 101) (v := 12) k_fn_view_101 (by decide) ?_
                  refine tr_icmp_lt (pc := 103) 113 k_fn_view_103 (by decide) (fun q => ?_) (fun q => ?_)
                  · replace hv := hv.1 q
                    refine tr_aload_n (pc := 113) 0 k_fn_view_113 rfl rfl ?_
                    refine tr_getP (pc := 114) k_fn_view_114 fl_fn_19 rfl (Eq.trans rfl (hsk.1 0 1 _ rfl)) ?_
                    refine tr_new (pc := 117) (k := 9) k_fn_view_117 (by decide) rfl cl_fn_188 in_9 iz_9 ?_
                    show mT g me_fn_view (d + 7) 1 74 120 [some (vr 0 0), some (vi x1), some (vi x2), some (vi x3), some (vi x4), some (vi (hI h 2 3 1)), some (vi (-1 : Int32))] [vr 9 (hC h 9), vr 2 3] (newC h 9 0) _
                    refine tr_dup (pc := 120) k_fn_view_120 rfl ?_
                    refine tr_iload_n (pc := 121) 1 k_fn_view_121 rfl rfl ?_
                    refine tr_iload_n (pc := 122) 2 k_fn_view_122 rfl rfl ?_
                    refine tr_iload_n (pc := 123) 3 k_fn_view_123 rfl rfl ?_
                    refine tr_iload (pc := 124) k_fn_view_124 rfl ?_
                    refine tr_callI (pc := 126) (d' := d + 6) (mc' := 0) (ms' := 0) [vi x1, vi x2, vi x3, vi x4] k_fn_view_126 ca_vw_init ml_fn_193 ii_vw_init pa_vw_init (by omega) (by omega) (by omega) rfl (Nat.le_of_ble_eq_true rfl) (Nat.le_of_ble_eq_true rfl) (Qk := fun v h9 => mT g me_fn_view (d + 7) 1 74 129 [some (vr 0 0), some (vi x1), some (vi x2), some (vi x3), some (vi x4), some (vi (hI h 2 3 1)), some (vi (-1 : Int32))] (v.toList ++ [vr 9 (hC h 9), vr 2 3]) h9 _) ?_ (fun _ _ z => z)
                    show mT g me_vw_init (d + 6) 0 0 0 [some (vr 9 (hC h 9)), some (vi x1), some (vi x2), some (vi x3), some (vi x4)] [] (newC h 9 0) _
                    refine tr_aload_n (pc := 0) 0 k_vw_init_0 rfl rfl ?_
                    refine tr_obj (pc := 1) k_vw_init_1 ml_vw_1 (by omega) (Nat.le_of_ble_eq_true rfl) ?_
                    refine tr_aload_n (pc := 4) 0 k_vw_init_4 rfl rfl ?_
                    refine tr_iload_n (pc := 5) 1 k_vw_init_5 rfl rfl ?_
                    refine tr_putI (pc := 6) k_vw_init_6 fl_vw_7 (Or.inr ⟨rfl, rfl, rfl⟩) rfl ⟨rfl, rfl⟩ ?_
                    refine tr_aload_n (pc := 9) 0 k_vw_init_9 rfl rfl ?_
                    refine tr_iload_n (pc := 10) 2 k_vw_init_10 rfl rfl ?_
                    refine tr_putI (pc := 11) k_vw_init_11 fl_vw_13 (Or.inr ⟨rfl, rfl, rfl⟩) rfl ⟨rfl, rfl⟩ ?_
                    refine tr_aload_n (pc := 14) 0 k_vw_init_14 rfl rfl ?_
                    refine tr_iload_n (pc := 15) 3 k_vw_init_15 rfl rfl ?_
                    refine tr_putI (pc := 16) k_vw_init_16 fl_vw_16 (Or.inr ⟨rfl, rfl, rfl⟩) rfl ⟨rfl, rfl⟩ ?_
                    refine tr_aload_n (pc := 19) 0 k_vw_init_19 rfl rfl ?_
                    refine tr_iload (pc := 20) k_vw_init_20 rfl ?_
                    refine tr_putI (pc := 22) k_vw_init_22 fl_vw_19 (Or.inr ⟨rfl, rfl, rfl⟩) rfl ⟨rfl, rfl⟩ ?_
                    refine tr_return (pc := 25) k_vw_init_25 rfl ?_
                    show mT g me_fn_view (d + 7) 1 74 129 [some (vr 0 0), some (vi x1), some (vi x2), some (vi x3), some (vi x4), some (vi (hI h 2 3 1)), some (vi (-1 : Int32))] [vr 9 (hC h 9), vr 2 3] (setI (setI (setI (setI (newC h 9 0) 9 (hC h 9) 0 x1) 9 (hC h 9) 1 x2) 9 (hC h 9) 2 x3) 9 (hC h 9) 3 x4) _
                    have hT := hv
                    clear hv
                    refine tr_callV (pc := 129) (d' := d + 6) (mc' := 1) (ms' := 74) [vr 9 (hC h 9)] k_fn_view_129 ca_al_add ml_fn_72 ii_al_add ⟨by decide, rfl⟩ pa_al_add (by omega) (by omega) (by omega) rfl (Nat.le_of_ble_eq_true rfl) (Nat.le_of_ble_eq_true rfl) hT (fun v h9 hv => ?_)
                    clear hT
                    obtain ⟨y27, rfl, hv⟩ := hv
                    obtain ⟨h26, eh⟩ : ∃ z, z = h9 := ⟨_, rfl⟩
                    subst eh
                    obtain ⟨hskh26, hv⟩ := hv
                    show mT g me_fn_view (d + 7) 0 0 132 [some (vr 0 0), some (vi x1), some (vi x2), some (vi x3), some (vi x4), some (vi (hI h 2 3 1)), some (vi (-1 : Int32))] [vi y27] h26 _
                    refine tr_pop (pc := 132) k_fn_view_132 rfl ?_
                    refine tr_iload (pc := 133) k_fn_view_133 rfl ?_
                    refine tr_ireturn (pc := 135) k_fn_view_135 rfl rfl ?_
                    exact hv
                  · replace hv := hv.2 q
                    refine tr_aload_n (pc := 106) 0 k_fn_view_106 rfl rfl ?_
                    refine tr_bipush (pc := 107) (v := -6) k_fn_view_107 (by decide) ?_
                    have hT := hv
                    clear hv
                    refine tr_callV (pc := 109) (d' := d + 6) (mc' := 0) (ms' := 0) [vi (-6 : Int32)] k_fn_view_109 ca_fn_refuse ml_fn_56 ii_fn_refuse ⟨by decide, rfl⟩ pa_fn_refuse (by omega) (by omega) (by omega) rfl (Nat.le_of_ble_eq_true rfl) (Nat.le_of_ble_eq_true rfl) hT (fun v h9 hv => ?_)
                    clear hT
                    obtain ⟨y29, rfl, hv⟩ := hv
                    obtain ⟨h28, eh⟩ : ∃ z, z = h9 := ⟨_, rfl⟩
                    subst eh
                    obtain ⟨hskh28, hv⟩ := hv
                    show mT g me_fn_view (d + 7) 2 78 112 [some (vr 0 0), some (vi x1), some (vi x2), some (vi x3), some (vi x4), some (vi (hI h 2 3 1)), some (vi (-1 : Int32))] [vi y29] h28 _
                    refine tr_ireturn (pc := 112) k_fn_view_112 rfl rfl ?_
                    exact hv
            · replace hv := hv.2 q
              refine tr_aload_n (pc := 77) 0 k_fn_view_77 rfl rfl ?_
              refine tr_bipush (pc := 78) (v := -4) k_fn_view_78 (by decide) ?_
              have hT := hv
              clear hv
              refine tr_callV (pc := 80) (d' := d + 6) (mc' := 0) (ms' := 0) [vi (-4 : Int32)] k_fn_view_80 ca_fn_refuse ml_fn_56 ii_fn_refuse ⟨by decide, rfl⟩ pa_fn_refuse (by omega) (by omega) (by omega) rfl (Nat.le_of_ble_eq_true rfl) (Nat.le_of_ble_eq_true rfl) hT (fun v h9 hv => ?_)
              clear hT
              obtain ⟨y31, rfl, hv⟩ := hv
              obtain ⟨h30, eh⟩ : ∃ z, z = h9 := ⟨_, rfl⟩
              subst eh
              obtain ⟨hskh30, hv⟩ := hv
              show mT g me_fn_view (d + 7) 2 78 83 [some (vr 0 0), some (vi x1), some (vi x2), some (vi x3), some (vi x4), some (vi (hI h 2 3 1)), some (vi (-1 : Int32))] [vi y31] h30 _
              refine tr_ireturn (pc := 83) k_fn_view_83 rfl rfl ?_
              exact hv
    · replace hv := hv.2 q
      refine tr_aload_n (pc := 18) 0 k_fn_view_18 rfl rfl ?_
      refine tr_iconst (pc := 19) (v := -1) k_fn_view_19 (by decide) ?_
      have hT := hv
      clear hv
      refine tr_callV (pc := 20) (d' := d + 6) (mc' := 0) (ms' := 0) [vi (-1 : Int32)] k_fn_view_20 ca_fn_refuse ml_fn_56 ii_fn_refuse ⟨by decide, rfl⟩ pa_fn_refuse (by omega) (by omega) (by omega) rfl (Nat.le_of_ble_eq_true rfl) (Nat.le_of_ble_eq_true rfl) hT (fun v h9 hv => ?_)
      clear hT
      obtain ⟨y33, rfl, hv⟩ := hv
      obtain ⟨h32, eh⟩ : ∃ z, z = h9 := ⟨_, rfl⟩
      subst eh
      obtain ⟨hskh32, hv⟩ := hv
      show mT g me_fn_view (d + 7) 2 78 23 [some (vr 0 0), some (vi x1), some (vi x2), some (vi x3), some (vi x4), none, none] [vi y33] h32 _
      refine tr_ireturn (pc := 23) k_fn_view_23 rfl rfl ?_
      exact hv
theorem v_fn_unview_0 {g : mG} {d : Nat}  {h : mH} {Q : Option mV → mH → Prop} (hsk : mSK h) (hv : ((¬ (hI h 2 3 1) = 0 → mT g me_al_remove (d + 3) 0 0 0 [some (vr 2 3), some (vi ((hI h 2 3 1) - (1 : Int32))), none, none] [] h (fun v h1 => ∃ p2, v = some (vp p2) ∧ mSK h1 ∧ Q (some (vi ((hI h 2 3 1) - (1 : Int32)))) h1)) ∧ ((hI h 2 3 1) = 0 → mT g me_fn_refuse (d + 3) 0 0 0 [some (vr 0 0), some (vi (-3 : Int32)), none] [] h (fun v h3 => ∃ y4, v = some (vi y4) ∧ mSK h3 ∧ Q (some (vi y4)) h3)))) : mT g me_fn_unview (d + 4) 0 0 0 [some (vr 0 0), none] [] h Q := by
  refine tr_aload_n (pc := 0) 0 k_fn_unview_0 rfl rfl ?_
  refine tr_getP (pc := 1) k_fn_unview_1 fl_fn_19 rfl (Eq.trans rfl (hsk.1 0 1 _ rfl)) ?_
  refine tr_callV (pc := 4) (d' := d + 3) (mc' := 0) (ms' := 0) [] k_fn_unview_4 ca_al_size ml_fn_63 ii_al_size ⟨by decide, rfl⟩ pa_al_size (by omega) (by omega) (by omega) rfl (Nat.le_of_ble_eq_true rfl) (Nat.le_of_ble_eq_true rfl) (Qk := fun v h9 => mT g me_fn_unview (d + 4) 0 0 7 [some (vr 0 0), none] (v.toList ++ []) h9 _) ?_ (fun _ _ z => z)
  show mT g me_al_size (d + 3) 0 0 0 [some (vr 2 3)] [] h _
  refine tr_aload_n (pc := 0) 0 k_al_size_0 rfl rfl ?_
  refine tr_getIx (pc := 1) k_al_size_1 fl_al_48 rfl rfl ?_
  refine tr_ireturn (pc := 4) k_al_size_4 rfl rfl ?_
  show mT g me_fn_unview (d + 4) 0 0 7 [some (vr 0 0), none] [vi (hI h 2 3 1)] h _
  refine tr_istore_n (pc := 7) 1 k_fn_unview_7 rfl (by decide) rfl ?_
  show mT g me_fn_unview (d + 4) 0 0 8 [some (vr 0 0), some (vi (hI h 2 3 1))] [] h _
  refine tr_iload_n (pc := 8) 1 k_fn_unview_8 rfl rfl ?_
  refine tr_if_ne (pc := 9) 19 k_fn_unview_9 (by decide) (fun q => ?_) (fun q => ?_)
  · replace hv := hv.1 q
    refine tr_aload_n (pc := 19) 0 k_fn_unview_19 rfl rfl ?_
    refine tr_getP (pc := 20) k_fn_unview_20 fl_fn_19 rfl (Eq.trans rfl (hsk.1 0 1 _ rfl)) ?_
    refine tr_iload_n (pc := 23) 1 k_fn_unview_23 rfl rfl ?_
    refine tr_iconst (pc := 24) (v := 1) k_fn_unview_24 (by decide) ?_
    refine tr_isub (pc := 25) k_fn_unview_25 ?_
    have hT := hv
    clear hv
    refine tr_callV (pc := 26) (d' := d + 3) (mc' := 0) (ms' := 0) [vi ((hI h 2 3 1) - (1 : Int32))] k_fn_unview_26 ca_al_remove ml_fn_196 ii_al_remove ⟨by decide, rfl⟩ pa_al_remove (by omega) (by omega) (by omega) rfl (Nat.le_of_ble_eq_true rfl) (Nat.le_of_ble_eq_true rfl) hT (fun v h9 hv => ?_)
    clear hT
    obtain ⟨p2, rfl, hv⟩ := hv
    obtain ⟨h1, eh⟩ : ∃ z, z = h9 := ⟨_, rfl⟩
    subst eh
    obtain ⟨hskh1, hv⟩ := hv
    show mT g me_fn_unview (d + 4) 0 0 29 [some (vr 0 0), some (vi (hI h 2 3 1))] [vp p2] h1 _
    refine tr_pop (pc := 29) k_fn_unview_29 rfl ?_
    refine tr_iload_n (pc := 30) 1 k_fn_unview_30 rfl rfl ?_
    refine tr_iconst (pc := 31) (v := 1) k_fn_unview_31 (by decide) ?_
    refine tr_isub (pc := 32) k_fn_unview_32 ?_
    refine tr_ireturn (pc := 33) k_fn_unview_33 rfl rfl ?_
    exact hv
  · replace hv := hv.2 q
    refine tr_aload_n (pc := 12) 0 k_fn_unview_12 rfl rfl ?_
    refine tr_bipush (pc := 13) (v := -3) k_fn_unview_13 (by decide) ?_
    have hT := hv
    clear hv
    refine tr_callV (pc := 15) (d' := d + 3) (mc' := 0) (ms' := 0) [vi (-3 : Int32)] k_fn_unview_15 ca_fn_refuse ml_fn_56 ii_fn_refuse ⟨by decide, rfl⟩ pa_fn_refuse (by omega) (by omega) (by omega) rfl (Nat.le_of_ble_eq_true rfl) (Nat.le_of_ble_eq_true rfl) hT (fun v h9 hv => ?_)
    clear hT
    obtain ⟨y4, rfl, hv⟩ := hv
    obtain ⟨h3, eh⟩ : ∃ z, z = h9 := ⟨_, rfl⟩
    subst eh
    obtain ⟨hskh3, hv⟩ := hv
    show mT g me_fn_unview (d + 4) 0 0 18 [some (vr 0 0), some (vi (hI h 2 3 1))] [vi y4] h3 _
    refine tr_ireturn (pc := 18) k_fn_unview_18 rfl rfl ?_
    exact hv
theorem v_fn_walk_0 {g : mG} {d : Nat} (x1 : Int32) {h : mH} {Q : Option mV → mH → Prop} (hsk : mSK h) (hv : ((x1 < 0 → mT g me_fn_refuse (d + 6) 0 0 0 [some (vr 0 0), some (vi (-2 : Int32)), none] [] h (fun v h1 => ∃ y2, v = some (vi y2) ∧ mSK h1 ∧ Q (some (vi y2)) h1)) ∧ (¬ x1 < 0 → ((x1 ≤ (4 : Int32) → mT g me_sr_isAhead (d + 6) 0 0 0 [some (vr 3 0)] [] h (fun v h3 => ∃ y4, v = some (vi y4) ∧ mSK h3 ∧ ((¬ y4 = 0 → mT g me_sr_go (d + 6) 0 0 0 [some (vr 3 0), some (vi (1 : Int32)), none, none, none, none, none, none, none] [] h3 (fun v h5 => v = none ∧ mSK h5 ∧ ((x1 = 0 → Q (some (vi (hI h5 3 0 2))) h5) ∧ (x1 = 1 → Q (some (vi (hI h5 3 0 3))) h5) ∧ (x1 = 2 → Q (some (vi (hI h5 3 0 4))) h5) ∧ (x1 = 3 → Q (some (vi (hI h5 3 0 5))) h5) ∧ (¬ x1 = 0 → ¬ x1 = 1 → ¬ x1 = 2 → ¬ x1 = 3 → Q (some (vi (hI h5 3 0 6))) h5)))) ∧ (y4 = 0 → mT g me_fn_refuse (d + 6) 0 0 0 [some (vr 0 0), some (vi (-3 : Int32)), none] [] h3 (fun v h6 => ∃ y7, v = some (vi y7) ∧ mSK h6 ∧ Q (some (vi y7)) h6))))) ∧ (¬ x1 ≤ (4 : Int32) → mT g me_fn_refuse (d + 6) 0 0 0 [some (vr 0 0), some (vi (-2 : Int32)), none] [] h (fun v h8 => ∃ y9, v = some (vi y9) ∧ mSK h8 ∧ Q (some (vi y9)) h8)))))) : mT g me_fn_walk (d + 7) 0 0 0 [some (vr 0 0), some (vi x1)] [] h Q := by
  refine tr_iload_n (pc := 0) 1 k_fn_walk_0 rfl rfl ?_
  refine tr_if_lt (pc := 1) 9 k_fn_walk_1 (by decide) (fun q => ?_) (fun q => ?_)
  · replace hv := hv.1 q
    refine tr_aload_n (pc := 9) 0 k_fn_walk_9 rfl rfl ?_
    refine tr_bipush (pc := 10) (v := -2) k_fn_walk_10 (by decide) ?_
    have hT := hv
    clear hv
    refine tr_callV (pc := 12) (d' := d + 6) (mc' := 0) (ms' := 0) [vi (-2 : Int32)] k_fn_walk_12 ca_fn_refuse ml_fn_56 ii_fn_refuse ⟨by decide, rfl⟩ pa_fn_refuse (by omega) (by omega) (by omega) rfl (Nat.le_of_ble_eq_true rfl) (Nat.le_of_ble_eq_true rfl) hT (fun v h9 hv => ?_)
    clear hT
    obtain ⟨y2, rfl, hv⟩ := hv
    obtain ⟨h1, eh⟩ : ∃ z, z = h9 := ⟨_, rfl⟩
    subst eh
    obtain ⟨hskh1, hv⟩ := hv
    show mT g me_fn_walk (d + 7) 0 0 15 [some (vr 0 0), some (vi x1)] [vi y2] h1 _
    refine tr_ireturn (pc := 15) k_fn_walk_15 rfl rfl ?_
    exact hv
  · replace hv := hv.2 q
    refine tr_iload_n (pc := 4) 1 k_fn_walk_4 rfl rfl ?_
    refine tr_iconst (pc := 5) (v := 4) k_fn_walk_5 (by decide) ?_
    refine tr_icmp_le (pc := 6) 16 k_fn_walk_6 (by decide) (fun q => ?_) (fun q => ?_)
    · replace hv := hv.1 q
      refine tr_aload_n (pc := 16) 0 k_fn_walk_16 rfl rfl ?_
      refine tr_getP (pc := 17) k_fn_walk_17 fl_fn_28 rfl (Eq.trans rfl (hsk.1 0 2 _ rfl)) ?_
      have hT := hv
      clear hv
      refine tr_callV (pc := 20) (d' := d + 6) (mc' := 0) (ms' := 0) [] k_fn_walk_20 ca_sr_isAhead ml_fn_199 ii_sr_isAhead ⟨by decide, rfl⟩ pa_sr_isAhead (by omega) (by omega) (by omega) rfl (Nat.le_of_ble_eq_true rfl) (Nat.le_of_ble_eq_true rfl) hT (fun v h9 hv => ?_)
      clear hT
      obtain ⟨y4, rfl, hv⟩ := hv
      obtain ⟨h3, eh⟩ : ∃ z, z = h9 := ⟨_, rfl⟩
      subst eh
      obtain ⟨hskh3, hv⟩ := hv
      show mT g me_fn_walk (d + 7) 0 0 23 [some (vr 0 0), some (vi x1)] [vi y4] h3 _
      refine tr_if_ne (pc := 23) 33 k_fn_walk_23 (by decide) (fun q => ?_) (fun q => ?_)
      · replace hv := hv.1 q
        refine tr_aload_n (pc := 33) 0 k_fn_walk_33 rfl rfl ?_
        refine tr_getP (pc := 34) k_fn_walk_34 fl_fn_28 rfl (Eq.trans rfl (hskh3.1 0 2 _ rfl)) ?_
        refine tr_iconst (pc := 37) (v := 1) k_fn_walk_37 (by decide) ?_
        have hT := hv
        clear hv
        refine tr_callV (pc := 38) (d' := d + 6) (mc' := 0) (ms' := 0) [vi (1 : Int32)] k_fn_walk_38 ca_sr_go ml_fn_203 ii_sr_go ⟨by decide, rfl⟩ pa_sr_go (by omega) (by omega) (by omega) rfl (Nat.le_of_ble_eq_true rfl) (Nat.le_of_ble_eq_true rfl) hT (fun v h9 hv => ?_)
        clear hT
        obtain ⟨rfl, hv⟩ := hv
        obtain ⟨h5, eh⟩ : ∃ z, z = h9 := ⟨_, rfl⟩
        subst eh
        obtain ⟨hskh5, hv⟩ := hv
        show mT g me_fn_walk (d + 7) 0 0 41 [some (vr 0 0), some (vi x1)] [] h5 _
        refine tr_iload_n (pc := 41) 1 k_fn_walk_41 rfl rfl ?_
        refine tr_table (pc := 42) [72, 80, 88, 96] 104 k_fn_walk_42 (by decide) (by decide) (by decide) (fun i t hi hx => ?_) (fun hx => ?_)
        · rcases i with _ | _ | _ | _ | i
          · cases hi
            replace hv := hv.1 (mtoI (hx.trans (by decide)))
            refine tr_aload_n (pc := 72) 0 k_fn_walk_72 rfl rfl ?_
            refine tr_getP (pc := 73) k_fn_walk_73 fl_fn_28 rfl (Eq.trans rfl (hskh5.1 0 2 _ rfl)) ?_
            refine tr_getIx (pc := 76) k_fn_walk_76 fl_fn_207 rfl rfl ?_
            refine tr_ireturn (pc := 79) k_fn_walk_79 rfl rfl ?_
            exact hv
          · cases hi
            replace hv := hv.2.1 (mtoI (hx.trans (by decide)))
            refine tr_aload_n (pc := 80) 0 k_fn_walk_80 rfl rfl ?_
            refine tr_getP (pc := 81) k_fn_walk_81 fl_fn_28 rfl (Eq.trans rfl (hskh5.1 0 2 _ rfl)) ?_
            refine tr_getIx (pc := 84) k_fn_walk_84 fl_fn_210 rfl rfl ?_
            refine tr_ireturn (pc := 87) k_fn_walk_87 rfl rfl ?_
            exact hv
          · cases hi
            replace hv := hv.2.2.1 (mtoI (hx.trans (by decide)))
            refine tr_aload_n (pc := 88) 0 k_fn_walk_88 rfl rfl ?_
            refine tr_getP (pc := 89) k_fn_walk_89 fl_fn_28 rfl (Eq.trans rfl (hskh5.1 0 2 _ rfl)) ?_
            refine tr_getIx (pc := 92) k_fn_walk_92 fl_fn_213 rfl rfl ?_
            refine tr_ireturn (pc := 95) k_fn_walk_95 rfl rfl ?_
            exact hv
          · cases hi
            replace hv := hv.2.2.2.1 (mtoI (hx.trans (by decide)))
            refine tr_aload_n (pc := 96) 0 k_fn_walk_96 rfl rfl ?_
            refine tr_getP (pc := 97) k_fn_walk_97 fl_fn_28 rfl (Eq.trans rfl (hskh5.1 0 2 _ rfl)) ?_
            refine tr_getIx (pc := 100) k_fn_walk_100 fl_fn_216 rfl rfl ?_
            refine tr_ireturn (pc := 103) k_fn_walk_103 rfl rfl ?_
            exact hv
          · exact absurd hi (by simp)
        · replace hv := hv.2.2.2.2 (fun e => hx 0 (by decide) (by rw [e]; decide)) (fun e => hx 1 (by decide) (by rw [e]; decide)) (fun e => hx 2 (by decide) (by rw [e]; decide)) (fun e => hx 3 (by decide) (by rw [e]; decide))
          refine tr_aload_n (pc := 104) 0 k_fn_walk_104 rfl rfl ?_
          refine tr_getP (pc := 105) k_fn_walk_105 fl_fn_28 rfl (Eq.trans rfl (hskh5.1 0 2 _ rfl)) ?_
          refine tr_getIx (pc := 108) k_fn_walk_108 fl_fn_219 rfl rfl ?_
          refine tr_ireturn (pc := 111) k_fn_walk_111 rfl rfl ?_
          exact hv
      · replace hv := hv.2 q
        refine tr_aload_n (pc := 26) 0 k_fn_walk_26 rfl rfl ?_
        refine tr_bipush (pc := 27) (v := -3) k_fn_walk_27 (by decide) ?_
        have hT := hv
        clear hv
        refine tr_callV (pc := 29) (d' := d + 6) (mc' := 0) (ms' := 0) [vi (-3 : Int32)] k_fn_walk_29 ca_fn_refuse ml_fn_56 ii_fn_refuse ⟨by decide, rfl⟩ pa_fn_refuse (by omega) (by omega) (by omega) rfl (Nat.le_of_ble_eq_true rfl) (Nat.le_of_ble_eq_true rfl) hT (fun v h9 hv => ?_)
        clear hT
        obtain ⟨y7, rfl, hv⟩ := hv
        obtain ⟨h6, eh⟩ : ∃ z, z = h9 := ⟨_, rfl⟩
        subst eh
        obtain ⟨hskh6, hv⟩ := hv
        show mT g me_fn_walk (d + 7) 0 0 32 [some (vr 0 0), some (vi x1)] [vi y7] h6 _
        refine tr_ireturn (pc := 32) k_fn_walk_32 rfl rfl ?_
        exact hv
    · replace hv := hv.2 q
      refine tr_aload_n (pc := 9) 0 k_fn_walk_9 rfl rfl ?_
      refine tr_bipush (pc := 10) (v := -2) k_fn_walk_10 (by decide) ?_
      have hT := hv
      clear hv
      refine tr_callV (pc := 12) (d' := d + 6) (mc' := 0) (ms' := 0) [vi (-2 : Int32)] k_fn_walk_12 ca_fn_refuse ml_fn_56 ii_fn_refuse ⟨by decide, rfl⟩ pa_fn_refuse (by omega) (by omega) (by omega) rfl (Nat.le_of_ble_eq_true rfl) (Nat.le_of_ble_eq_true rfl) hT (fun v h9 hv => ?_)
      clear hT
      obtain ⟨y9, rfl, hv⟩ := hv
      obtain ⟨h8, eh⟩ : ∃ z, z = h9 := ⟨_, rfl⟩
      subst eh
      obtain ⟨hskh8, hv⟩ := hv
      show mT g me_fn_walk (d + 7) 0 0 15 [some (vr 0 0), some (vi x1)] [vi y9] h8 _
      refine tr_ireturn (pc := 15) k_fn_walk_15 rfl rfl ?_
      exact hv
theorem v_sr_isAhead_0 {g : mG} {d : Nat}  {h : mH} {Q : Option mV → mH → Prop} (hsk : mSK h) (hv : mT g me_sr_lastMinute (d + 4) 0 0 0 [some (vr 3 0)] [] h (fun v h1 => ∃ y2, v = some (vi y2) ∧ mSK h1 ∧ ((y2 < (hI h1 1 0 4) → Q (some (vi (0 : Int32))) h1) ∧ (¬ y2 < (hI h1 1 0 4) → Q (some (vi (1 : Int32))) h1)))) : mT g me_sr_isAhead (d + 5) 0 0 0 [some (vr 3 0)] [] h Q := by
  refine tr_aload_n (pc := 0) 0 k_sr_isAhead_0 rfl rfl ?_
  have hT := hv
  clear hv
  refine tr_callV (pc := 1) (d' := d + 4) (mc' := 0) (ms' := 0) [] k_sr_isAhead_1 ca_sr_lastMinute ml_sr_19 ii_sr_lastMinute ⟨by decide, rfl⟩ pa_sr_lastMinute (by omega) (by omega) (by omega) rfl (Nat.le_of_ble_eq_true rfl) (Nat.le_of_ble_eq_true rfl) hT (fun v h9 hv => ?_)
  clear hT
  obtain ⟨y2, rfl, hv⟩ := hv
  obtain ⟨h1, eh⟩ : ∃ z, z = h9 := ⟨_, rfl⟩
  subst eh
  obtain ⟨hskh1, hv⟩ := hv
  show mT g me_sr_isAhead (d + 5) 0 0 4 [some (vr 3 0)] [vi y2] h1 _
  refine tr_aload_n (pc := 4) 0 k_sr_isAhead_4 rfl rfl ?_
  refine tr_getP (pc := 5) k_sr_isAhead_5 fl_sr_9 rfl (Eq.trans rfl (hskh1.1 3 0 _ rfl)) ?_
  refine tr_getIx (pc := 8) k_sr_isAhead_8 fl_sr_23 rfl rfl ?_
  refine tr_icmp_lt (pc := 11) 18 k_sr_isAhead_11 (by decide) (fun q => ?_) (fun q => ?_)
  · replace hv := hv.1 q
    refine tr_iconst (pc := 18) (v := 0) k_sr_isAhead_18 (by decide) ?_
    refine tr_ireturn (pc := 19) k_sr_isAhead_19 rfl rfl ?_
    exact hv
  · replace hv := hv.2 q
    refine tr_iconst (pc := 14) (v := 1) k_sr_isAhead_14 (by decide) ?_
    refine tr_goto (pc := 15) 19 k_sr_isAhead_15 (by decide) ?_
    refine tr_ireturn (pc := 19) k_sr_isAhead_19 rfl rfl ?_
    exact hv
theorem v_sr_lastMinute_0 {g : mG} {d : Nat}  {h : mH} {Q : Option mV → mH → Prop} (hsk : mSK h) (hv : ((¬ (hI h 2 3 1) = 0 → (∃ n1, mGet h 3 ((hI h 2 3 1) - (1 : Int32)) (some (9, n1)) ∧ Q (some (vi (hI h 9 n1 2))) h)) ∧ ((hI h 2 3 1) = 0 → Q (some (vi (-1 : Int32))) h))) : mT g me_sr_lastMinute (d + 4) 0 0 0 [some (vr 3 0)] [] h Q := by
  refine tr_aload_n (pc := 0) 0 k_sr_lastMinute_0 rfl rfl ?_
  refine tr_getP (pc := 1) k_sr_lastMinute_1 fl_sr_15 rfl (Eq.trans rfl (hsk.1 3 1 _ rfl)) ?_
  refine tr_callV (pc := 4) (d' := d + 3) (mc' := 0) (ms' := 0) [] k_sr_lastMinute_4 ca_al_isEmpty ml_sr_29 ii_al_isEmpty ⟨by decide, rfl⟩ pa_al_isEmpty (by omega) (by omega) (by omega) rfl (Nat.le_of_ble_eq_true rfl) (Nat.le_of_ble_eq_true rfl) (Qk := fun v h9 => mT g me_sr_lastMinute (d + 4) 0 0 7 [some (vr 3 0)] (v.toList ++ []) h9 _) ?_ (fun _ _ z => z)
  show mT g me_al_isEmpty (d + 3) 0 0 0 [some (vr 2 3)] [] h _
  refine tr_aload_n (pc := 0) 0 k_al_isEmpty_0 rfl rfl ?_
  refine tr_getIx (pc := 1) k_al_isEmpty_1 fl_al_48 rfl rfl ?_
  refine tr_if_ne (pc := 4) 11 k_al_isEmpty_4 (by decide) (fun q => ?_) (fun q => ?_)
  · replace hv := hv.1 q
    refine tr_iconst (pc := 11) (v := 0) k_al_isEmpty_11 (by decide) ?_
    refine tr_ireturn (pc := 12) k_al_isEmpty_12 rfl rfl ?_
    show mT g me_sr_lastMinute (d + 4) 0 0 7 [some (vr 3 0)] [vi (0 : Int32)] h _
    refine tr_if_eq (pc := 7) 14 k_sr_lastMinute_7 (by decide) (fun _ => ?_) (fun q => absurd q (by decide))
    refine tr_aload_n (pc := 14) 0 k_sr_lastMinute_14 rfl rfl ?_
    refine tr_getP (pc := 15) k_sr_lastMinute_15 fl_sr_15 rfl (Eq.trans rfl (hsk.1 3 1 _ rfl)) ?_
    refine tr_aload_n (pc := 18) 0 k_sr_lastMinute_18 rfl rfl ?_
    refine tr_getP (pc := 19) k_sr_lastMinute_19 fl_sr_15 rfl (Eq.trans rfl (hsk.1 3 1 _ rfl)) ?_
    refine tr_callV (pc := 22) (d' := d + 3) (mc' := 0) (ms' := 0) [] k_sr_lastMinute_22 ca_al_size ml_sr_35 ii_al_size ⟨by decide, rfl⟩ pa_al_size (by omega) (by omega) (by omega) rfl (Nat.le_of_ble_eq_true rfl) (Nat.le_of_ble_eq_true rfl) (Qk := fun v h9 => mT g me_sr_lastMinute (d + 4) 0 0 25 [some (vr 3 0)] (v.toList ++ [vr 2 3]) h9 _) ?_ (fun _ _ z => z)
    show mT g me_al_size (d + 3) 0 0 0 [some (vr 2 3)] [] h _
    refine tr_aload_n (pc := 0) 0 k_al_size_0 rfl rfl ?_
    refine tr_getIx (pc := 1) k_al_size_1 fl_al_48 rfl rfl ?_
    refine tr_ireturn (pc := 4) k_al_size_4 rfl rfl ?_
    show mT g me_sr_lastMinute (d + 4) 0 0 25 [some (vr 3 0)] [vi (hI h 2 3 1), vr 2 3] h _
    refine tr_iconst (pc := 25) (v := 1) k_sr_lastMinute_25 (by decide) ?_
    refine tr_isub (pc := 26) k_sr_lastMinute_26 ?_
    obtain ⟨n1, hg, hv⟩ := hv
    refine tr_alget (pc := 27) k_sr_lastMinute_27 ml_sr_38 (by omega) (Nat.le_of_ble_eq_true rfl) (mGet.up hg rfl rfl) ?_
    refine tr_cast (pc := 30) k_sr_lastMinute_30 (by decide) cl_sr_42 ?_
    refine tr_getIx (pc := 33) k_sr_lastMinute_33 fl_sr_44 rfl rfl ?_
    refine tr_ireturn (pc := 36) k_sr_lastMinute_36 rfl rfl ?_
    exact hv
  · replace hv := hv.2 q
    refine tr_iconst (pc := 7) (v := 1) k_al_isEmpty_7 (by decide) ?_
    refine tr_goto (pc := 8) 12 k_al_isEmpty_8 (by decide) ?_
    refine tr_ireturn (pc := 12) k_al_isEmpty_12 rfl rfl ?_
    show mT g me_sr_lastMinute (d + 4) 0 0 7 [some (vr 3 0)] [vi (1 : Int32)] h _
    refine tr_if_eq (pc := 7) 14 k_sr_lastMinute_7 (by decide) (fun q => absurd q (by decide)) (fun _ => ?_)
    refine tr_iconst (pc := 10) (v := -1) k_sr_lastMinute_10 (by decide) ?_
    refine tr_goto (pc := 11) 36 k_sr_lastMinute_11 (by decide) ?_
    refine tr_ireturn (pc := 36) k_sr_lastMinute_36 rfl rfl ?_
    exact hv
theorem v_sr_go_0 {g : mG} {d : Nat} (x1 : Int32) {h : mH} {Q : Option mV → mH → Prop} (hsk : mSK h) (hv : mT g me_sr_begin (d + 5) 0 0 0 [some (vr 3 0), none, none] [] h (fun v h1 => v = none ∧ mSK h1 ∧ mT g me_sr_lastMinute (d + 5) 0 0 0 [some (vr 3 0)] [] h1 (fun v h2 => ∃ y3, v = some (vi y3) ∧ mSK h2 ∧ mT g me_sr_go (d + 6) 0 0 23 [some (vr 3 0), some (vi x1), some (vi y3), some (vi (0 : Int32)), some (vi (-1 : Int32)), some (vi (hI h2 1 0 4)), none, none, none] [] h2 Q))) : mT g me_sr_go (d + 6) 0 0 0 [some (vr 3 0), some (vi x1), none, none, none, none, none, none, none] [] h Q := by
  refine tr_aload_n (pc := 0) 0 k_sr_go_0 rfl rfl ?_
  have hT := hv
  clear hv
  refine tr_callV (pc := 1) (d' := d + 5) (mc' := 0) (ms' := 0) [] k_sr_go_1 ca_sr_begin ml_sr_47 ii_sr_begin ⟨by decide, rfl⟩ pa_sr_begin (by omega) (by omega) (by omega) rfl (Nat.le_of_ble_eq_true rfl) (Nat.le_of_ble_eq_true rfl) hT (fun v h9 hv => ?_)
  clear hT
  obtain ⟨rfl, hv⟩ := hv
  obtain ⟨h1, eh⟩ : ∃ z, z = h9 := ⟨_, rfl⟩
  subst eh
  obtain ⟨hskh1, hv⟩ := hv
  show mT g me_sr_go (d + 6) 0 0 4 [some (vr 3 0), some (vi x1), none, none, none, none, none, none, none] [] h1 _
  refine tr_aload_n (pc := 4) 0 k_sr_go_4 rfl rfl ?_
  have hT := hv
  clear hv
  refine tr_callV (pc := 5) (d' := d + 5) (mc' := 0) (ms' := 0) [] k_sr_go_5 ca_sr_lastMinute ml_sr_19 ii_sr_lastMinute ⟨by decide, rfl⟩ pa_sr_lastMinute (by omega) (by omega) (by omega) rfl (Nat.le_of_ble_eq_true rfl) (Nat.le_of_ble_eq_true rfl) hT (fun v h9 hv => ?_)
  clear hT
  obtain ⟨y3, rfl, hv⟩ := hv
  obtain ⟨h2, eh⟩ : ∃ z, z = h9 := ⟨_, rfl⟩
  subst eh
  obtain ⟨hskh2, hv⟩ := hv
  show mT g me_sr_go (d + 6) 0 0 8 [some (vr 3 0), some (vi x1), none, none, none, none, none, none, none] [vi y3] h2 _
  refine tr_istore_n (pc := 8) 2 k_sr_go_8 rfl (by decide) rfl ?_
  show mT g me_sr_go (d + 6) 0 0 9 [some (vr 3 0), some (vi x1), some (vi y3), none, none, none, none, none, none] [] h2 _
  refine tr_iconst (pc := 9) (v := 0) k_sr_go_9 (by decide) ?_
  refine tr_istore_n (pc := 10) 3 k_sr_go_10 rfl (by decide) rfl ?_
  show mT g me_sr_go (d + 6) 0 0 11 [some (vr 3 0), some (vi x1), some (vi y3), some (vi (0 : Int32)), none, none, none, none, none] [] h2 _
  refine tr_iconst (pc := 11) (v := -1) k_sr_go_11 (by decide) ?_
  refine tr_istore (pc := 12) k_sr_go_12 (by decide) rfl ?_
  show mT g me_sr_go (d + 6) 0 0 14 [some (vr 3 0), some (vi x1), some (vi y3), some (vi (0 : Int32)), some (vi (-1 : Int32)), none, none, none, none] [] h2 _
  refine tr_aload_n (pc := 14) 0 k_sr_go_14 rfl rfl ?_
  refine tr_getP (pc := 15) k_sr_go_15 fl_sr_9 rfl (Eq.trans rfl (hskh2.1 3 0 _ rfl)) ?_
  refine tr_getIx (pc := 18) k_sr_go_18 fl_sr_23 rfl rfl ?_
  refine tr_istore (pc := 21) k_sr_go_21 (by decide) rfl ?_
  show mT g me_sr_go (d + 6) 0 0 23 [some (vr 3 0), some (vi x1), some (vi y3), some (vi (0 : Int32)), some (vi (-1 : Int32)), some (vi (hI h2 1 0 4)), none, none, none] [] h2 _
  exact hv
theorem v_sr_go_23 {g : mG} {d : Nat} (x1 : Int32) (x2 : Int32) (x3 : Int32) (x4 : Int32) (x5 : Int32) (o6 : Option mV) (o7 : Option mV) (o8 : Option mV) {h : mH} {Q : Option mV → mH → Prop} (hsk : mSK h) (hv : ((x2 < x5 → Q none h) ∧ (¬ x2 < x5 → mT g me_sr_go (d + 6) 0 0 29 [some (vr 3 0), some (vi x1), some (vi x2), some (vi x3), some (vi x4), some (vi x5), o6, o7, o8] [] h Q))) : mT g me_sr_go (d + 6) 0 0 23 [some (vr 3 0), some (vi x1), some (vi x2), some (vi x3), some (vi x4), some (vi x5), o6, o7, o8] [] h Q := by
  refine tr_iload (pc := 23) k_sr_go_23 rfl ?_
  refine tr_iload_n (pc := 25) 2 k_sr_go_25 rfl rfl ?_
  refine tr_icmp_gt (pc := 26) 203 k_sr_go_26 (by decide) (fun q => ?_) (fun q => ?_)
  · replace hv := hv.1 q
    refine tr_return (pc := 203) k_sr_go_203 rfl ?_
    exact hv
  · replace hv := hv.2 q
    exact hv
theorem v_sr_go_29 {g : mG} {d : Nat} (x1 : Int32) (x2 : Int32) (x3 : Int32) (x4 : Int32) (x5 : Int32) (o6 : Option mV) (o7 : Option mV) (o8 : Option mV) {h : mH} {Q : Option mV → mH → Prop} (hsk : mSK h) (hv : (((hI h 2 3 1) ≤ x3 → (((hI h 2 3 1) ≤ x3 → (((0 : Int32) = x4 → mT g me_sr_passMinute (d + 5) 0 0 0 [some (vr 3 0), none, none, none] [] h (fun v h1 => v = none ∧ mSK h1 ∧ mT g me_sr_go (d + 6) 0 0 23 [some (vr 3 0), some (vi x1), some (vi x2), some (vi x3), some (vi x4), some (vi (x5 + 1)), some (vn), some (vi (0 : Int32)), some (vn)] [] h1 Q)) ∧ (¬ (0 : Int32) = x4 → mT g me_ga_reckon (d + 5) 0 0 0 [some (vr 1 0), some (vi (0 : Int32)), some (vi (0 : Int32)), none, none] [] h (fun v h2 => v = none ∧ mSK h2 ∧ mT g me_sr_passMinute (d + 5) 0 0 0 [some (vr 3 0), none, none, none] [] h2 (fun v h3 => v = none ∧ mSK h3 ∧ mT g me_sr_go (d + 6) 0 0 23 [some (vr 3 0), some (vi x1), some (vi x2), some (vi x3), some (vi (0 : Int32)), some (vi (x5 + 1)), some (vn), some (vi (0 : Int32)), some (vn)] [] h3 Q))))) ∧ (¬ (hI h 2 3 1) ≤ x3 → (∃ n4, mGet h 3 x3 (some (9, n4)) ∧ ((x5 < (hI h 9 n4 1) → (((0 : Int32) = x4 → mT g me_sr_passMinute (d + 5) 0 0 0 [some (vr 3 0), none, none, none] [] h (fun v h5 => v = none ∧ mSK h5 ∧ mT g me_sr_go (d + 6) 0 0 23 [some (vr 3 0), some (vi x1), some (vi x2), some (vi x3), some (vi x4), some (vi (x5 + 1)), some (vn), some (vi (0 : Int32)), some (vn)] [] h5 Q)) ∧ (¬ (0 : Int32) = x4 → mT g me_ga_reckon (d + 5) 0 0 0 [some (vr 1 0), some (vi (0 : Int32)), some (vi (0 : Int32)), none, none] [] h (fun v h6 => v = none ∧ mSK h6 ∧ mT g me_sr_passMinute (d + 5) 0 0 0 [some (vr 3 0), none, none, none] [] h6 (fun v h7 => v = none ∧ mSK h7 ∧ mT g me_sr_go (d + 6) 0 0 23 [some (vr 3 0), some (vi x1), some (vi x2), some (vi x3), some (vi (0 : Int32)), some (vi (x5 + 1)), some (vn), some (vi (0 : Int32)), some (vn)] [] h7 Q))))) ∧ (¬ x5 < (hI h 9 n4 1) → (∃ n8, mGet h 3 x3 (some (9, n8)) ∧ (((hI h 9 n8 0) = x4 → mT g me_sr_lookAtRises (d + 5) 0 0 0 [some (vr 3 0), some (vr 9 n8), some (vi x1), none, none, none] [] h (fun v h9 => ∃ p10, v = some (vp p10) ∧ mSK h9 ∧ ((p10 = none → mT g me_sr_passMinute (d + 5) 0 0 0 [some (vr 3 0), none, none, none] [] h9 (fun v h12 => v = none ∧ mSK h12 ∧ mT g me_sr_go (d + 6) 0 0 23 [some (vr 3 0), some (vi x1), some (vi x2), some (vi x3), some (vi x4), some (vi (x5 + 1)), some (vr 9 n8), some (vi (hI h 9 n8 0)), some (vn)] [] h12 Q)) ∧ (∀ kq n11, p10 = some (kq, n11) → kq = 8 ∧ Q none (setI (setI (setI h9 3 0 2 x5) 3 0 3 x3) 3 0 4 (hI h9 8 n11 0)))))) ∧ (¬ (hI h 9 n8 0) = x4 → mT g me_ga_reckon (d + 5) 0 0 0 [some (vr 1 0), some (vi (hI h 9 n8 0)), some (vi (0 : Int32)), none, none] [] h (fun v h13 => v = none ∧ mSK h13 ∧ mT g me_sr_lookAtRises (d + 5) 0 0 0 [some (vr 3 0), some (vr 9 n8), some (vi x1), none, none, none] [] h13 (fun v h14 => ∃ p15, v = some (vp p15) ∧ mSK h14 ∧ ((p15 = none → mT g me_sr_passMinute (d + 5) 0 0 0 [some (vr 3 0), none, none, none] [] h14 (fun v h17 => v = none ∧ mSK h17 ∧ mT g me_sr_go (d + 6) 0 0 23 [some (vr 3 0), some (vi x1), some (vi x2), some (vi x3), some (vi (hI h 9 n8 0)), some (vi (x5 + 1)), some (vr 9 n8), some (vi (hI h 9 n8 0)), some (vn)] [] h17 Q)) ∧ (∀ kq n16, p15 = some (kq, n16) → kq = 8 ∧ Q none (setI (setI (setI h14 3 0 2 x5) 3 0 3 x3) 3 0 4 (hI h14 8 n16 0))))))))))))))) ∧ (¬ (hI h 2 3 1) ≤ x3 → (∃ n18, mGet h 3 x3 (some (9, n18)) ∧ ((x5 ≤ (hI h 9 n18 2) → (((hI h 2 3 1) ≤ x3 → (((0 : Int32) = x4 → mT g me_sr_passMinute (d + 5) 0 0 0 [some (vr 3 0), none, none, none] [] h (fun v h19 => v = none ∧ mSK h19 ∧ mT g me_sr_go (d + 6) 0 0 23 [some (vr 3 0), some (vi x1), some (vi x2), some (vi x3), some (vi x4), some (vi (x5 + 1)), some (vn), some (vi (0 : Int32)), some (vn)] [] h19 Q)) ∧ (¬ (0 : Int32) = x4 → mT g me_ga_reckon (d + 5) 0 0 0 [some (vr 1 0), some (vi (0 : Int32)), some (vi (0 : Int32)), none, none] [] h (fun v h20 => v = none ∧ mSK h20 ∧ mT g me_sr_passMinute (d + 5) 0 0 0 [some (vr 3 0), none, none, none] [] h20 (fun v h21 => v = none ∧ mSK h21 ∧ mT g me_sr_go (d + 6) 0 0 23 [some (vr 3 0), some (vi x1), some (vi x2), some (vi x3), some (vi (0 : Int32)), some (vi (x5 + 1)), some (vn), some (vi (0 : Int32)), some (vn)] [] h21 Q))))) ∧ (¬ (hI h 2 3 1) ≤ x3 → (∃ n22, mGet h 3 x3 (some (9, n22)) ∧ ((x5 < (hI h 9 n22 1) → (((0 : Int32) = x4 → mT g me_sr_passMinute (d + 5) 0 0 0 [some (vr 3 0), none, none, none] [] h (fun v h23 => v = none ∧ mSK h23 ∧ mT g me_sr_go (d + 6) 0 0 23 [some (vr 3 0), some (vi x1), some (vi x2), some (vi x3), some (vi x4), some (vi (x5 + 1)), some (vn), some (vi (0 : Int32)), some (vn)] [] h23 Q)) ∧ (¬ (0 : Int32) = x4 → mT g me_ga_reckon (d + 5) 0 0 0 [some (vr 1 0), some (vi (0 : Int32)), some (vi (0 : Int32)), none, none] [] h (fun v h24 => v = none ∧ mSK h24 ∧ mT g me_sr_passMinute (d + 5) 0 0 0 [some (vr 3 0), none, none, none] [] h24 (fun v h25 => v = none ∧ mSK h25 ∧ mT g me_sr_go (d + 6) 0 0 23 [some (vr 3 0), some (vi x1), some (vi x2), some (vi x3), some (vi (0 : Int32)), some (vi (x5 + 1)), some (vn), some (vi (0 : Int32)), some (vn)] [] h25 Q))))) ∧ (¬ x5 < (hI h 9 n22 1) → (∃ n26, mGet h 3 x3 (some (9, n26)) ∧ (((hI h 9 n26 0) = x4 → mT g me_sr_lookAtRises (d + 5) 0 0 0 [some (vr 3 0), some (vr 9 n26), some (vi x1), none, none, none] [] h (fun v h27 => ∃ p28, v = some (vp p28) ∧ mSK h27 ∧ ((p28 = none → mT g me_sr_passMinute (d + 5) 0 0 0 [some (vr 3 0), none, none, none] [] h27 (fun v h30 => v = none ∧ mSK h30 ∧ mT g me_sr_go (d + 6) 0 0 23 [some (vr 3 0), some (vi x1), some (vi x2), some (vi x3), some (vi x4), some (vi (x5 + 1)), some (vr 9 n26), some (vi (hI h 9 n26 0)), some (vn)] [] h30 Q)) ∧ (∀ kq n29, p28 = some (kq, n29) → kq = 8 ∧ Q none (setI (setI (setI h27 3 0 2 x5) 3 0 3 x3) 3 0 4 (hI h27 8 n29 0)))))) ∧ (¬ (hI h 9 n26 0) = x4 → mT g me_ga_reckon (d + 5) 0 0 0 [some (vr 1 0), some (vi (hI h 9 n26 0)), some (vi (0 : Int32)), none, none] [] h (fun v h31 => v = none ∧ mSK h31 ∧ mT g me_sr_lookAtRises (d + 5) 0 0 0 [some (vr 3 0), some (vr 9 n26), some (vi x1), none, none, none] [] h31 (fun v h32 => ∃ p33, v = some (vp p33) ∧ mSK h32 ∧ ((p33 = none → mT g me_sr_passMinute (d + 5) 0 0 0 [some (vr 3 0), none, none, none] [] h32 (fun v h35 => v = none ∧ mSK h35 ∧ mT g me_sr_go (d + 6) 0 0 23 [some (vr 3 0), some (vi x1), some (vi x2), some (vi x3), some (vi (hI h 9 n26 0)), some (vi (x5 + 1)), some (vr 9 n26), some (vi (hI h 9 n26 0)), some (vn)] [] h35 Q)) ∧ (∀ kq n34, p33 = some (kq, n34) → kq = 8 ∧ Q none (setI (setI (setI h32 3 0 2 x5) 3 0 3 x3) 3 0 4 (hI h32 8 n34 0))))))))))))))) ∧ (¬ x5 ≤ (hI h 9 n18 2) → mT g me_sr_go (d + 6) 0 0 29 [some (vr 3 0), some (vi x1), some (vi x2), some (vi (x3 + 1)), some (vi x4), some (vi x5), o6, o7, o8] [] h Q)))))) : mT g me_sr_go (d + 6) 0 0 29 [some (vr 3 0), some (vi x1), some (vi x2), some (vi x3), some (vi x4), some (vi x5), o6, o7, o8] [] h Q := by
  refine tr_iload_n (pc := 29) 3 k_sr_go_29 rfl rfl ?_
  refine tr_aload_n (pc := 30) 0 k_sr_go_30 rfl rfl ?_
  refine tr_getP (pc := 31) k_sr_go_31 fl_sr_15 rfl (Eq.trans rfl (hsk.1 3 1 _ rfl)) ?_
  refine tr_callV (pc := 34) (d' := d + 5) (mc' := 0) (ms' := 0) [] k_sr_go_34 ca_al_size ml_sr_35 ii_al_size ⟨by decide, rfl⟩ pa_al_size (by omega) (by omega) (by omega) rfl (Nat.le_of_ble_eq_true rfl) (Nat.le_of_ble_eq_true rfl) (Qk := fun v h9 => mT g me_sr_go (d + 6) 0 0 37 [some (vr 3 0), some (vi x1), some (vi x2), some (vi x3), some (vi x4), some (vi x5), o6, o7, o8] (v.toList ++ [vi x3]) h9 _) ?_ (fun _ _ z => z)
  show mT g me_al_size (d + 5) 0 0 0 [some (vr 2 3)] [] h _
  refine tr_aload_n (pc := 0) 0 k_al_size_0 rfl rfl ?_
  refine tr_getIx (pc := 1) k_al_size_1 fl_al_48 rfl rfl ?_
  refine tr_ireturn (pc := 4) k_al_size_4 rfl rfl ?_
  show mT g me_sr_go (d + 6) 0 0 37 [some (vr 3 0), some (vi x1), some (vi x2), some (vi x3), some (vi x4), some (vi x5), o6, o7, o8] [vi (hI h 2 3 1), vi x3] h _
  refine tr_icmp_ge (pc := 37) 65 k_sr_go_37 (by decide) (fun q => ?_) (fun q => ?_)
  · replace hv := hv.1 q
    refine tr_iload_n (pc := 65) 3 k_sr_go_65 rfl rfl ?_
    refine tr_aload_n (pc := 66) 0 k_sr_go_66 rfl rfl ?_
    refine tr_getP (pc := 67) k_sr_go_67 fl_sr_15 rfl (Eq.trans rfl (hsk.1 3 1 _ rfl)) ?_
    refine tr_callV (pc := 70) (d' := d + 5) (mc' := 0) (ms' := 0) [] k_sr_go_70 ca_al_size ml_sr_35 ii_al_size ⟨by decide, rfl⟩ pa_al_size (by omega) (by omega) (by omega) rfl (Nat.le_of_ble_eq_true rfl) (Nat.le_of_ble_eq_true rfl) (Qk := fun v h9 => mT g me_sr_go (d + 6) 0 0 73 [some (vr 3 0), some (vi x1), some (vi x2), some (vi x3), some (vi x4), some (vi x5), o6, o7, o8] (v.toList ++ [vi x3]) h9 _) ?_ (fun _ _ z => z)
    show mT g me_al_size (d + 5) 0 0 0 [some (vr 2 3)] [] h _
    refine tr_aload_n (pc := 0) 0 k_al_size_0 rfl rfl ?_
    refine tr_getIx (pc := 1) k_al_size_1 fl_al_48 rfl rfl ?_
    refine tr_ireturn (pc := 4) k_al_size_4 rfl rfl ?_
    show mT g me_sr_go (d + 6) 0 0 73 [some (vr 3 0), some (vi x1), some (vi x2), some (vi x3), some (vi x4), some (vi x5), o6, o7, o8] [vi (hI h 2 3 1), vi x3] h _
    refine tr_icmp_ge (pc := 73) 109 k_sr_go_73 (by decide) (fun q => ?_) (fun q => ?_)
    · replace hv := hv.1 q
      refine tr_null (pc := 109) k_sr_go_109 ?_
      refine tr_astore (pc := 110) k_sr_go_110 (by decide) rfl ?_
      show mT g me_sr_go (d + 6) 0 0 112 [some (vr 3 0), some (vi x1), some (vi x2), some (vi x3), some (vi x4), some (vi x5), some (vn), o7, o8] [] h _
      refine tr_aload (pc := 112) k_sr_go_112 rfl ?_
      refine tr_ifnonnull (pc := 114) 121 k_sr_go_114 (by decide) (fun _ => ?_) (fun _ _ q => by cases q)
      refine tr_iconst (pc := 117) (v := 0) k_sr_go_117 (by decide) ?_
      refine tr_goto (pc := 118) 126 k_sr_go_118 (by decide) ?_
      refine tr_istore (pc := 126) k_sr_go_126 (by decide) rfl ?_
      show mT g me_sr_go (d + 6) 0 0 128 [some (vr 3 0), some (vi x1), some (vi x2), some (vi x3), some (vi x4), some (vi x5), some (vn), some (vi (0 : Int32)), o8] [] h _
      refine tr_iload (pc := 128) k_sr_go_128 rfl ?_
      refine tr_iload (pc := 130) k_sr_go_130 rfl ?_
      refine tr_icmp_eq (pc := 132) 149 k_sr_go_132 (by decide) (fun q => ?_) (fun q => ?_)
      · replace hv := hv.1 q
        refine tr_aload (pc := 149) k_sr_go_149 rfl ?_
        refine tr_ifnonnull (pc := 151) 158 k_sr_go_151 (by decide) (fun _ => ?_) (fun _ _ q => by cases q)
        refine tr_null (pc := 154) k_sr_go_154 ?_
        refine tr_goto (pc := 155) 165 k_sr_go_155 (by decide) ?_
        refine tr_astore (pc := 165) k_sr_go_165 (by decide) rfl ?_
        show mT g me_sr_go (d + 6) 0 0 167 [some (vr 3 0), some (vi x1), some (vi x2), some (vi x3), some (vi x4), some (vi x5), some (vn), some (vi (0 : Int32)), some (vn)] [] h _
        refine tr_aload (pc := 167) k_sr_go_167 rfl ?_
        refine tr_ifnull (pc := 169) 193 k_sr_go_169 (by decide) (fun _ => ?_) (fun _ _ q => by cases q)
        refine tr_aload_n (pc := 193) 0 k_sr_go_193 rfl rfl ?_
        have hT := hv
        clear hv
        refine tr_callV (pc := 194) (d' := d + 5) (mc' := 0) (ms' := 0) [] k_sr_go_194 ca_sr_passMinute ml_sr_78 ii_sr_passMinute ⟨by decide, rfl⟩ pa_sr_passMinute (by omega) (by omega) (by omega) rfl (Nat.le_of_ble_eq_true rfl) (Nat.le_of_ble_eq_true rfl) hT (fun v h9 hv => ?_)
        clear hT
        obtain ⟨rfl, hv⟩ := hv
        obtain ⟨h1, eh⟩ : ∃ z, z = h9 := ⟨_, rfl⟩
        subst eh
        obtain ⟨hskh1, hv⟩ := hv
        show mT g me_sr_go (d + 6) 0 0 197 [some (vr 3 0), some (vi x1), some (vi x2), some (vi x3), some (vi x4), some (vi x5), some (vn), some (vi (0 : Int32)), some (vn)] [] h1 _
        refine tr_iinc (pc := 197) (v := (x5 + 1)) k_sr_go_197 rfl rfl (by decide) rfl ?_
        show mT g me_sr_go (d + 6) 0 0 200 [some (vr 3 0), some (vi x1), some (vi x2), some (vi x3), some (vi x4), some (vi (x5 + 1)), some (vn), some (vi (0 : Int32)), some (vn)] [] h1 _
        refine tr_goto (pc := 200) 23 k_sr_go_200 (by decide) ?_
        exact hv
      · replace hv := hv.2 q
        refine tr_aload_n (pc := 135) 0 k_sr_go_135 rfl rfl ?_
        refine tr_getP (pc := 136) k_sr_go_136 fl_sr_9 rfl (Eq.trans rfl (hsk.1 3 0 _ rfl)) ?_
        refine tr_iload (pc := 139) k_sr_go_139 rfl ?_
        refine tr_iconst (pc := 141) (v := 0) k_sr_go_141 (by decide) ?_
        have hT := hv
        clear hv
        refine tr_callV (pc := 142) (d' := d + 5) (mc' := 0) (ms' := 0) [vi (0 : Int32), vi (0 : Int32)] k_sr_go_142 ca_ga_reckon ml_sr_56 ii_ga_reckon ⟨by decide, rfl⟩ pa_ga_reckon (by omega) (by omega) (by omega) rfl (Nat.le_of_ble_eq_true rfl) (Nat.le_of_ble_eq_true rfl) hT (fun v h9 hv => ?_)
        clear hT
        obtain ⟨rfl, hv⟩ := hv
        obtain ⟨h2, eh⟩ : ∃ z, z = h9 := ⟨_, rfl⟩
        subst eh
        obtain ⟨hskh2, hv⟩ := hv
        show mT g me_sr_go (d + 6) 0 0 145 [some (vr 3 0), some (vi x1), some (vi x2), some (vi x3), some (vi x4), some (vi x5), some (vn), some (vi (0 : Int32)), o8] [] h2 _
        refine tr_iload (pc := 145) k_sr_go_145 rfl ?_
        refine tr_istore (pc := 147) k_sr_go_147 (by decide) rfl ?_
        show mT g me_sr_go (d + 6) 0 0 149 [some (vr 3 0), some (vi x1), some (vi x2), some (vi x3), some (vi (0 : Int32)), some (vi x5), some (vn), some (vi (0 : Int32)), o8] [] h2 _
        refine tr_aload (pc := 149) k_sr_go_149 rfl ?_
        refine tr_ifnonnull (pc := 151) 158 k_sr_go_151 (by decide) (fun _ => ?_) (fun _ _ q => by cases q)
        refine tr_null (pc := 154) k_sr_go_154 ?_
        refine tr_goto (pc := 155) 165 k_sr_go_155 (by decide) ?_
        refine tr_astore (pc := 165) k_sr_go_165 (by decide) rfl ?_
        show mT g me_sr_go (d + 6) 0 0 167 [some (vr 3 0), some (vi x1), some (vi x2), some (vi x3), some (vi (0 : Int32)), some (vi x5), some (vn), some (vi (0 : Int32)), some (vn)] [] h2 _
        refine tr_aload (pc := 167) k_sr_go_167 rfl ?_
        refine tr_ifnull (pc := 169) 193 k_sr_go_169 (by decide) (fun _ => ?_) (fun _ _ q => by cases q)
        refine tr_aload_n (pc := 193) 0 k_sr_go_193 rfl rfl ?_
        have hT := hv
        clear hv
        refine tr_callV (pc := 194) (d' := d + 5) (mc' := 0) (ms' := 0) [] k_sr_go_194 ca_sr_passMinute ml_sr_78 ii_sr_passMinute ⟨by decide, rfl⟩ pa_sr_passMinute (by omega) (by omega) (by omega) rfl (Nat.le_of_ble_eq_true rfl) (Nat.le_of_ble_eq_true rfl) hT (fun v h9 hv => ?_)
        clear hT
        obtain ⟨rfl, hv⟩ := hv
        obtain ⟨h3, eh⟩ : ∃ z, z = h9 := ⟨_, rfl⟩
        subst eh
        obtain ⟨hskh3, hv⟩ := hv
        show mT g me_sr_go (d + 6) 0 0 197 [some (vr 3 0), some (vi x1), some (vi x2), some (vi x3), some (vi (0 : Int32)), some (vi x5), some (vn), some (vi (0 : Int32)), some (vn)] [] h3 _
        refine tr_iinc (pc := 197) (v := (x5 + 1)) k_sr_go_197 rfl rfl (by decide) rfl ?_
        show mT g me_sr_go (d + 6) 0 0 200 [some (vr 3 0), some (vi x1), some (vi x2), some (vi x3), some (vi (0 : Int32)), some (vi (x5 + 1)), some (vn), some (vi (0 : Int32)), some (vn)] [] h3 _
        refine tr_goto (pc := 200) 23 k_sr_go_200 (by decide) ?_
        exact hv
    · replace hv := hv.2 q
      refine tr_aload_n (pc := 76) 0 k_sr_go_76 rfl rfl ?_
      refine tr_getP (pc := 77) k_sr_go_77 fl_sr_15 rfl (Eq.trans rfl (hsk.1 3 1 _ rfl)) ?_
      refine tr_iload_n (pc := 80) 3 k_sr_go_80 rfl rfl ?_
      obtain ⟨n4, hg, hv⟩ := hv
      refine tr_alget (pc := 81) k_sr_go_81 ml_sr_38 (by omega) (Nat.le_of_ble_eq_true rfl) (mGet.up hg rfl rfl) ?_
      refine tr_cast (pc := 84) k_sr_go_84 (by decide) cl_sr_42 ?_
      refine tr_getIx (pc := 87) k_sr_go_87 fl_sr_50 rfl rfl ?_
      refine tr_iload (pc := 90) k_sr_go_90 rfl ?_
      refine tr_icmp_gt (pc := 92) 109 k_sr_go_92 (by decide) (fun q => ?_) (fun q => ?_)
      · replace hv := hv.1 q
        refine tr_null (pc := 109) k_sr_go_109 ?_
        refine tr_astore (pc := 110) k_sr_go_110 (by decide) rfl ?_
        show mT g me_sr_go (d + 6) 0 0 112 [some (vr 3 0), some (vi x1), some (vi x2), some (vi x3), some (vi x4), some (vi x5), some (vn), o7, o8] [] h _
        refine tr_aload (pc := 112) k_sr_go_112 rfl ?_
        refine tr_ifnonnull (pc := 114) 121 k_sr_go_114 (by decide) (fun _ => ?_) (fun _ _ q => by cases q)
        refine tr_iconst (pc := 117) (v := 0) k_sr_go_117 (by decide) ?_
        refine tr_goto (pc := 118) 126 k_sr_go_118 (by decide) ?_
        refine tr_istore (pc := 126) k_sr_go_126 (by decide) rfl ?_
        show mT g me_sr_go (d + 6) 0 0 128 [some (vr 3 0), some (vi x1), some (vi x2), some (vi x3), some (vi x4), some (vi x5), some (vn), some (vi (0 : Int32)), o8] [] h _
        refine tr_iload (pc := 128) k_sr_go_128 rfl ?_
        refine tr_iload (pc := 130) k_sr_go_130 rfl ?_
        refine tr_icmp_eq (pc := 132) 149 k_sr_go_132 (by decide) (fun q => ?_) (fun q => ?_)
        · replace hv := hv.1 q
          refine tr_aload (pc := 149) k_sr_go_149 rfl ?_
          refine tr_ifnonnull (pc := 151) 158 k_sr_go_151 (by decide) (fun _ => ?_) (fun _ _ q => by cases q)
          refine tr_null (pc := 154) k_sr_go_154 ?_
          refine tr_goto (pc := 155) 165 k_sr_go_155 (by decide) ?_
          refine tr_astore (pc := 165) k_sr_go_165 (by decide) rfl ?_
          show mT g me_sr_go (d + 6) 0 0 167 [some (vr 3 0), some (vi x1), some (vi x2), some (vi x3), some (vi x4), some (vi x5), some (vn), some (vi (0 : Int32)), some (vn)] [] h _
          refine tr_aload (pc := 167) k_sr_go_167 rfl ?_
          refine tr_ifnull (pc := 169) 193 k_sr_go_169 (by decide) (fun _ => ?_) (fun _ _ q => by cases q)
          refine tr_aload_n (pc := 193) 0 k_sr_go_193 rfl rfl ?_
          have hT := hv
          clear hv
          refine tr_callV (pc := 194) (d' := d + 5) (mc' := 0) (ms' := 0) [] k_sr_go_194 ca_sr_passMinute ml_sr_78 ii_sr_passMinute ⟨by decide, rfl⟩ pa_sr_passMinute (by omega) (by omega) (by omega) rfl (Nat.le_of_ble_eq_true rfl) (Nat.le_of_ble_eq_true rfl) hT (fun v h9 hv => ?_)
          clear hT
          obtain ⟨rfl, hv⟩ := hv
          obtain ⟨h5, eh⟩ : ∃ z, z = h9 := ⟨_, rfl⟩
          subst eh
          obtain ⟨hskh5, hv⟩ := hv
          show mT g me_sr_go (d + 6) 0 0 197 [some (vr 3 0), some (vi x1), some (vi x2), some (vi x3), some (vi x4), some (vi x5), some (vn), some (vi (0 : Int32)), some (vn)] [] h5 _
          refine tr_iinc (pc := 197) (v := (x5 + 1)) k_sr_go_197 rfl rfl (by decide) rfl ?_
          show mT g me_sr_go (d + 6) 0 0 200 [some (vr 3 0), some (vi x1), some (vi x2), some (vi x3), some (vi x4), some (vi (x5 + 1)), some (vn), some (vi (0 : Int32)), some (vn)] [] h5 _
          refine tr_goto (pc := 200) 23 k_sr_go_200 (by decide) ?_
          exact hv
        · replace hv := hv.2 q
          refine tr_aload_n (pc := 135) 0 k_sr_go_135 rfl rfl ?_
          refine tr_getP (pc := 136) k_sr_go_136 fl_sr_9 rfl (Eq.trans rfl (hsk.1 3 0 _ rfl)) ?_
          refine tr_iload (pc := 139) k_sr_go_139 rfl ?_
          refine tr_iconst (pc := 141) (v := 0) k_sr_go_141 (by decide) ?_
          have hT := hv
          clear hv
          refine tr_callV (pc := 142) (d' := d + 5) (mc' := 0) (ms' := 0) [vi (0 : Int32), vi (0 : Int32)] k_sr_go_142 ca_ga_reckon ml_sr_56 ii_ga_reckon ⟨by decide, rfl⟩ pa_ga_reckon (by omega) (by omega) (by omega) rfl (Nat.le_of_ble_eq_true rfl) (Nat.le_of_ble_eq_true rfl) hT (fun v h9 hv => ?_)
          clear hT
          obtain ⟨rfl, hv⟩ := hv
          obtain ⟨h6, eh⟩ : ∃ z, z = h9 := ⟨_, rfl⟩
          subst eh
          obtain ⟨hskh6, hv⟩ := hv
          show mT g me_sr_go (d + 6) 0 0 145 [some (vr 3 0), some (vi x1), some (vi x2), some (vi x3), some (vi x4), some (vi x5), some (vn), some (vi (0 : Int32)), o8] [] h6 _
          refine tr_iload (pc := 145) k_sr_go_145 rfl ?_
          refine tr_istore (pc := 147) k_sr_go_147 (by decide) rfl ?_
          show mT g me_sr_go (d + 6) 0 0 149 [some (vr 3 0), some (vi x1), some (vi x2), some (vi x3), some (vi (0 : Int32)), some (vi x5), some (vn), some (vi (0 : Int32)), o8] [] h6 _
          refine tr_aload (pc := 149) k_sr_go_149 rfl ?_
          refine tr_ifnonnull (pc := 151) 158 k_sr_go_151 (by decide) (fun _ => ?_) (fun _ _ q => by cases q)
          refine tr_null (pc := 154) k_sr_go_154 ?_
          refine tr_goto (pc := 155) 165 k_sr_go_155 (by decide) ?_
          refine tr_astore (pc := 165) k_sr_go_165 (by decide) rfl ?_
          show mT g me_sr_go (d + 6) 0 0 167 [some (vr 3 0), some (vi x1), some (vi x2), some (vi x3), some (vi (0 : Int32)), some (vi x5), some (vn), some (vi (0 : Int32)), some (vn)] [] h6 _
          refine tr_aload (pc := 167) k_sr_go_167 rfl ?_
          refine tr_ifnull (pc := 169) 193 k_sr_go_169 (by decide) (fun _ => ?_) (fun _ _ q => by cases q)
          refine tr_aload_n (pc := 193) 0 k_sr_go_193 rfl rfl ?_
          have hT := hv
          clear hv
          refine tr_callV (pc := 194) (d' := d + 5) (mc' := 0) (ms' := 0) [] k_sr_go_194 ca_sr_passMinute ml_sr_78 ii_sr_passMinute ⟨by decide, rfl⟩ pa_sr_passMinute (by omega) (by omega) (by omega) rfl (Nat.le_of_ble_eq_true rfl) (Nat.le_of_ble_eq_true rfl) hT (fun v h9 hv => ?_)
          clear hT
          obtain ⟨rfl, hv⟩ := hv
          obtain ⟨h7, eh⟩ : ∃ z, z = h9 := ⟨_, rfl⟩
          subst eh
          obtain ⟨hskh7, hv⟩ := hv
          show mT g me_sr_go (d + 6) 0 0 197 [some (vr 3 0), some (vi x1), some (vi x2), some (vi x3), some (vi (0 : Int32)), some (vi x5), some (vn), some (vi (0 : Int32)), some (vn)] [] h7 _
          refine tr_iinc (pc := 197) (v := (x5 + 1)) k_sr_go_197 rfl rfl (by decide) rfl ?_
          show mT g me_sr_go (d + 6) 0 0 200 [some (vr 3 0), some (vi x1), some (vi x2), some (vi x3), some (vi (0 : Int32)), some (vi (x5 + 1)), some (vn), some (vi (0 : Int32)), some (vn)] [] h7 _
          refine tr_goto (pc := 200) 23 k_sr_go_200 (by decide) ?_
          exact hv
      · replace hv := hv.2 q
        refine tr_aload_n (pc := 95) 0 k_sr_go_95 rfl rfl ?_
        refine tr_getP (pc := 96) k_sr_go_96 fl_sr_15 rfl (Eq.trans rfl (hsk.1 3 1 _ rfl)) ?_
        refine tr_iload_n (pc := 99) 3 k_sr_go_99 rfl rfl ?_
        obtain ⟨n8, hg, hv⟩ := hv
        refine tr_alget (pc := 100) k_sr_go_100 ml_sr_38 (by omega) (Nat.le_of_ble_eq_true rfl) (mGet.up hg rfl rfl) ?_
        refine tr_cast (pc := 103) k_sr_go_103 (by decide) cl_sr_42 ?_
        refine tr_goto (pc := 106) 110 k_sr_go_106 (by decide) ?_
        refine tr_astore (pc := 110) k_sr_go_110 (by decide) rfl ?_
        show mT g me_sr_go (d + 6) 0 0 112 [some (vr 3 0), some (vi x1), some (vi x2), some (vi x3), some (vi x4), some (vi x5), some (vr 9 n8), o7, o8] [] h _
        refine tr_aload (pc := 112) k_sr_go_112 rfl ?_
        refine tr_ifnonnull (pc := 114) 121 k_sr_go_114 (by decide) (fun q => by cases q) (fun _ _ _ => ?_)
        refine tr_aload (pc := 121) k_sr_go_121 rfl ?_
        refine tr_getIx (pc := 123) k_sr_go_123 fl_sr_53 rfl rfl ?_
        refine tr_istore (pc := 126) k_sr_go_126 (by decide) rfl ?_
        show mT g me_sr_go (d + 6) 0 0 128 [some (vr 3 0), some (vi x1), some (vi x2), some (vi x3), some (vi x4), some (vi x5), some (vr 9 n8), some (vi (hI h 9 n8 0)), o8] [] h _
        refine tr_iload (pc := 128) k_sr_go_128 rfl ?_
        refine tr_iload (pc := 130) k_sr_go_130 rfl ?_
        refine tr_icmp_eq (pc := 132) 149 k_sr_go_132 (by decide) (fun q => ?_) (fun q => ?_)
        · replace hv := hv.1 q
          refine tr_aload (pc := 149) k_sr_go_149 rfl ?_
          refine tr_ifnonnull (pc := 151) 158 k_sr_go_151 (by decide) (fun q => by cases q) (fun _ _ _ => ?_)
          refine tr_aload_n (pc := 158) 0 k_sr_go_158 rfl rfl ?_
          refine tr_aload (pc := 159) k_sr_go_159 rfl ?_
          refine tr_iload_n (pc := 161) 1 k_sr_go_161 rfl rfl ?_
          have hT := hv
          clear hv
          refine tr_callV (pc := 162) (d' := d + 5) (mc' := 0) (ms' := 0) [vr 9 n8, vi x1] k_sr_go_162 ca_sr_lookAtRises ml_sr_60 ii_sr_lookAtRises ⟨by decide, rfl⟩ pa_sr_lookAtRises (by omega) (by omega) (by omega) rfl (Nat.le_of_ble_eq_true rfl) (Nat.le_of_ble_eq_true rfl) hT (fun v h9 hv => ?_)
          clear hT
          obtain ⟨p10, rfl, hv⟩ := hv
          obtain ⟨h9, eh⟩ : ∃ z, z = h9 := ⟨_, rfl⟩
          subst eh
          obtain ⟨hskh9, hv⟩ := hv
          show mT g me_sr_go (d + 6) 0 0 165 [some (vr 3 0), some (vi x1), some (vi x2), some (vi x3), some (vi x4), some (vi x5), some (vr 9 n8), some (vi (hI h 9 n8 0)), o8] [vp p10] h9 _
          refine tr_astore (pc := 165) k_sr_go_165 (by decide) rfl ?_
          show mT g me_sr_go (d + 6) 0 0 167 [some (vr 3 0), some (vi x1), some (vi x2), some (vi x3), some (vi x4), some (vi x5), some (vr 9 n8), some (vi (hI h 9 n8 0)), some (vp p10)] [] h9 _
          refine tr_aload (pc := 167) k_sr_go_167 rfl ?_
          rcases p10 with _ | ⟨kq, n11⟩
          · replace hv := hv.1 rfl
            refine tr_ifnull (pc := 169) 193 k_sr_go_169 (by decide) (fun _ => ?_) (fun _ _ q => by cases q)
            refine tr_aload_n (pc := 193) 0 k_sr_go_193 rfl rfl ?_
            have hT := hv
            clear hv
            refine tr_callV (pc := 194) (d' := d + 5) (mc' := 0) (ms' := 0) [] k_sr_go_194 ca_sr_passMinute ml_sr_78 ii_sr_passMinute ⟨by decide, rfl⟩ pa_sr_passMinute (by omega) (by omega) (by omega) rfl (Nat.le_of_ble_eq_true rfl) (Nat.le_of_ble_eq_true rfl) hT (fun v h9 hv => ?_)
            clear hT
            obtain ⟨rfl, hv⟩ := hv
            obtain ⟨h12, eh⟩ : ∃ z, z = h9 := ⟨_, rfl⟩
            subst eh
            obtain ⟨hskh12, hv⟩ := hv
            show mT g me_sr_go (d + 6) 0 0 197 [some (vr 3 0), some (vi x1), some (vi x2), some (vi x3), some (vi x4), some (vi x5), some (vr 9 n8), some (vi (hI h 9 n8 0)), some (vn)] [] h12 _
            refine tr_iinc (pc := 197) (v := (x5 + 1)) k_sr_go_197 rfl rfl (by decide) rfl ?_
            show mT g me_sr_go (d + 6) 0 0 200 [some (vr 3 0), some (vi x1), some (vi x2), some (vi x3), some (vi x4), some (vi (x5 + 1)), some (vr 9 n8), some (vi (hI h 9 n8 0)), some (vn)] [] h12 _
            refine tr_goto (pc := 200) 23 k_sr_go_200 (by decide) ?_
            exact hv
          · have hw := hv.2 kq n11 rfl
            clear hv
            obtain ⟨tq, hv⟩ := hw
            subst tq
            refine tr_ifnull (pc := 169) 193 k_sr_go_169 (by decide) (fun q => by cases q) (fun _ _ _ => ?_)
            refine tr_aload_n (pc := 172) 0 k_sr_go_172 rfl rfl ?_
            refine tr_iload (pc := 173) k_sr_go_173 rfl ?_
            refine tr_putI (pc := 175) k_sr_go_175 fl_sr_64 (Or.inl rfl) rfl ⟨rfl, rfl⟩ ?_
            refine tr_aload_n (pc := 178) 0 k_sr_go_178 rfl rfl ?_
            refine tr_iload_n (pc := 179) 3 k_sr_go_179 rfl rfl ?_
            refine tr_putI (pc := 180) k_sr_go_180 fl_sr_67 (Or.inl rfl) rfl ⟨rfl, rfl⟩ ?_
            refine tr_aload_n (pc := 183) 0 k_sr_go_183 rfl rfl ?_
            refine tr_aload (pc := 184) k_sr_go_184 rfl ?_
            refine tr_getIx (pc := 186) k_sr_go_186 fl_sr_70 rfl (Eq.trans (hI_nk (by decide)) (hI_nk (by decide))) ?_
            refine tr_putI (pc := 189) k_sr_go_189 fl_sr_75 (Or.inl rfl) rfl ⟨rfl, rfl⟩ ?_
            refine tr_return (pc := 192) k_sr_go_192 rfl ?_
            exact hv
        · replace hv := hv.2 q
          refine tr_aload_n (pc := 135) 0 k_sr_go_135 rfl rfl ?_
          refine tr_getP (pc := 136) k_sr_go_136 fl_sr_9 rfl (Eq.trans rfl (hsk.1 3 0 _ rfl)) ?_
          refine tr_iload (pc := 139) k_sr_go_139 rfl ?_
          refine tr_iconst (pc := 141) (v := 0) k_sr_go_141 (by decide) ?_
          have hT := hv
          clear hv
          refine tr_callV (pc := 142) (d' := d + 5) (mc' := 0) (ms' := 0) [vi (hI h 9 n8 0), vi (0 : Int32)] k_sr_go_142 ca_ga_reckon ml_sr_56 ii_ga_reckon ⟨by decide, rfl⟩ pa_ga_reckon (by omega) (by omega) (by omega) rfl (Nat.le_of_ble_eq_true rfl) (Nat.le_of_ble_eq_true rfl) hT (fun v h9 hv => ?_)
          clear hT
          obtain ⟨rfl, hv⟩ := hv
          obtain ⟨h13, eh⟩ : ∃ z, z = h9 := ⟨_, rfl⟩
          subst eh
          obtain ⟨hskh13, hv⟩ := hv
          show mT g me_sr_go (d + 6) 0 0 145 [some (vr 3 0), some (vi x1), some (vi x2), some (vi x3), some (vi x4), some (vi x5), some (vr 9 n8), some (vi (hI h 9 n8 0)), o8] [] h13 _
          refine tr_iload (pc := 145) k_sr_go_145 rfl ?_
          refine tr_istore (pc := 147) k_sr_go_147 (by decide) rfl ?_
          show mT g me_sr_go (d + 6) 0 0 149 [some (vr 3 0), some (vi x1), some (vi x2), some (vi x3), some (vi (hI h 9 n8 0)), some (vi x5), some (vr 9 n8), some (vi (hI h 9 n8 0)), o8] [] h13 _
          refine tr_aload (pc := 149) k_sr_go_149 rfl ?_
          refine tr_ifnonnull (pc := 151) 158 k_sr_go_151 (by decide) (fun q => by cases q) (fun _ _ _ => ?_)
          refine tr_aload_n (pc := 158) 0 k_sr_go_158 rfl rfl ?_
          refine tr_aload (pc := 159) k_sr_go_159 rfl ?_
          refine tr_iload_n (pc := 161) 1 k_sr_go_161 rfl rfl ?_
          have hT := hv
          clear hv
          refine tr_callV (pc := 162) (d' := d + 5) (mc' := 0) (ms' := 0) [vr 9 n8, vi x1] k_sr_go_162 ca_sr_lookAtRises ml_sr_60 ii_sr_lookAtRises ⟨by decide, rfl⟩ pa_sr_lookAtRises (by omega) (by omega) (by omega) rfl (Nat.le_of_ble_eq_true rfl) (Nat.le_of_ble_eq_true rfl) hT (fun v h9 hv => ?_)
          clear hT
          obtain ⟨p15, rfl, hv⟩ := hv
          obtain ⟨h14, eh⟩ : ∃ z, z = h9 := ⟨_, rfl⟩
          subst eh
          obtain ⟨hskh14, hv⟩ := hv
          show mT g me_sr_go (d + 6) 0 0 165 [some (vr 3 0), some (vi x1), some (vi x2), some (vi x3), some (vi (hI h 9 n8 0)), some (vi x5), some (vr 9 n8), some (vi (hI h 9 n8 0)), o8] [vp p15] h14 _
          refine tr_astore (pc := 165) k_sr_go_165 (by decide) rfl ?_
          show mT g me_sr_go (d + 6) 0 0 167 [some (vr 3 0), some (vi x1), some (vi x2), some (vi x3), some (vi (hI h 9 n8 0)), some (vi x5), some (vr 9 n8), some (vi (hI h 9 n8 0)), some (vp p15)] [] h14 _
          refine tr_aload (pc := 167) k_sr_go_167 rfl ?_
          rcases p15 with _ | ⟨kq, n16⟩
          · replace hv := hv.1 rfl
            refine tr_ifnull (pc := 169) 193 k_sr_go_169 (by decide) (fun _ => ?_) (fun _ _ q => by cases q)
            refine tr_aload_n (pc := 193) 0 k_sr_go_193 rfl rfl ?_
            have hT := hv
            clear hv
            refine tr_callV (pc := 194) (d' := d + 5) (mc' := 0) (ms' := 0) [] k_sr_go_194 ca_sr_passMinute ml_sr_78 ii_sr_passMinute ⟨by decide, rfl⟩ pa_sr_passMinute (by omega) (by omega) (by omega) rfl (Nat.le_of_ble_eq_true rfl) (Nat.le_of_ble_eq_true rfl) hT (fun v h9 hv => ?_)
            clear hT
            obtain ⟨rfl, hv⟩ := hv
            obtain ⟨h17, eh⟩ : ∃ z, z = h9 := ⟨_, rfl⟩
            subst eh
            obtain ⟨hskh17, hv⟩ := hv
            show mT g me_sr_go (d + 6) 0 0 197 [some (vr 3 0), some (vi x1), some (vi x2), some (vi x3), some (vi (hI h 9 n8 0)), some (vi x5), some (vr 9 n8), some (vi (hI h 9 n8 0)), some (vn)] [] h17 _
            refine tr_iinc (pc := 197) (v := (x5 + 1)) k_sr_go_197 rfl rfl (by decide) rfl ?_
            show mT g me_sr_go (d + 6) 0 0 200 [some (vr 3 0), some (vi x1), some (vi x2), some (vi x3), some (vi (hI h 9 n8 0)), some (vi (x5 + 1)), some (vr 9 n8), some (vi (hI h 9 n8 0)), some (vn)] [] h17 _
            refine tr_goto (pc := 200) 23 k_sr_go_200 (by decide) ?_
            exact hv
          · have hw := hv.2 kq n16 rfl
            clear hv
            obtain ⟨tq, hv⟩ := hw
            subst tq
            refine tr_ifnull (pc := 169) 193 k_sr_go_169 (by decide) (fun q => by cases q) (fun _ _ _ => ?_)
            refine tr_aload_n (pc := 172) 0 k_sr_go_172 rfl rfl ?_
            refine tr_iload (pc := 173) k_sr_go_173 rfl ?_
            refine tr_putI (pc := 175) k_sr_go_175 fl_sr_64 (Or.inl rfl) rfl ⟨rfl, rfl⟩ ?_
            refine tr_aload_n (pc := 178) 0 k_sr_go_178 rfl rfl ?_
            refine tr_iload_n (pc := 179) 3 k_sr_go_179 rfl rfl ?_
            refine tr_putI (pc := 180) k_sr_go_180 fl_sr_67 (Or.inl rfl) rfl ⟨rfl, rfl⟩ ?_
            refine tr_aload_n (pc := 183) 0 k_sr_go_183 rfl rfl ?_
            refine tr_aload (pc := 184) k_sr_go_184 rfl ?_
            refine tr_getIx (pc := 186) k_sr_go_186 fl_sr_70 rfl (Eq.trans (hI_nk (by decide)) (hI_nk (by decide))) ?_
            refine tr_putI (pc := 189) k_sr_go_189 fl_sr_75 (Or.inl rfl) rfl ⟨rfl, rfl⟩ ?_
            refine tr_return (pc := 192) k_sr_go_192 rfl ?_
            exact hv
  · replace hv := hv.2 q
    refine tr_aload_n (pc := 40) 0 k_sr_go_40 rfl rfl ?_
    refine tr_getP (pc := 41) k_sr_go_41 fl_sr_15 rfl (Eq.trans rfl (hsk.1 3 1 _ rfl)) ?_
    refine tr_iload_n (pc := 44) 3 k_sr_go_44 rfl rfl ?_
    obtain ⟨n18, hg, hv⟩ := hv
    refine tr_alget (pc := 45) k_sr_go_45 ml_sr_38 (by omega) (Nat.le_of_ble_eq_true rfl) (mGet.up hg rfl rfl) ?_
    refine tr_cast (pc := 48) k_sr_go_48 (by decide) cl_sr_42 ?_
    refine tr_getIx (pc := 51) k_sr_go_51 fl_sr_44 rfl rfl ?_
    refine tr_iload (pc := 54) k_sr_go_54 rfl ?_
    refine tr_icmp_ge (pc := 56) 65 k_sr_go_56 (by decide) (fun q => ?_) (fun q => ?_)
    · replace hv := hv.1 q
      refine tr_iload_n (pc := 65) 3 k_sr_go_65 rfl rfl ?_
      refine tr_aload_n (pc := 66) 0 k_sr_go_66 rfl rfl ?_
      refine tr_getP (pc := 67) k_sr_go_67 fl_sr_15 rfl (Eq.trans rfl (hsk.1 3 1 _ rfl)) ?_
      refine tr_callV (pc := 70) (d' := d + 5) (mc' := 0) (ms' := 0) [] k_sr_go_70 ca_al_size ml_sr_35 ii_al_size ⟨by decide, rfl⟩ pa_al_size (by omega) (by omega) (by omega) rfl (Nat.le_of_ble_eq_true rfl) (Nat.le_of_ble_eq_true rfl) (Qk := fun v h9 => mT g me_sr_go (d + 6) 0 0 73 [some (vr 3 0), some (vi x1), some (vi x2), some (vi x3), some (vi x4), some (vi x5), o6, o7, o8] (v.toList ++ [vi x3]) h9 _) ?_ (fun _ _ z => z)
      show mT g me_al_size (d + 5) 0 0 0 [some (vr 2 3)] [] h _
      refine tr_aload_n (pc := 0) 0 k_al_size_0 rfl rfl ?_
      refine tr_getIx (pc := 1) k_al_size_1 fl_al_48 rfl rfl ?_
      refine tr_ireturn (pc := 4) k_al_size_4 rfl rfl ?_
      show mT g me_sr_go (d + 6) 0 0 73 [some (vr 3 0), some (vi x1), some (vi x2), some (vi x3), some (vi x4), some (vi x5), o6, o7, o8] [vi (hI h 2 3 1), vi x3] h _
      refine tr_icmp_ge (pc := 73) 109 k_sr_go_73 (by decide) (fun q => ?_) (fun q => ?_)
      · replace hv := hv.1 q
        refine tr_null (pc := 109) k_sr_go_109 ?_
        refine tr_astore (pc := 110) k_sr_go_110 (by decide) rfl ?_
        show mT g me_sr_go (d + 6) 0 0 112 [some (vr 3 0), some (vi x1), some (vi x2), some (vi x3), some (vi x4), some (vi x5), some (vn), o7, o8] [] h _
        refine tr_aload (pc := 112) k_sr_go_112 rfl ?_
        refine tr_ifnonnull (pc := 114) 121 k_sr_go_114 (by decide) (fun _ => ?_) (fun _ _ q => by cases q)
        refine tr_iconst (pc := 117) (v := 0) k_sr_go_117 (by decide) ?_
        refine tr_goto (pc := 118) 126 k_sr_go_118 (by decide) ?_
        refine tr_istore (pc := 126) k_sr_go_126 (by decide) rfl ?_
        show mT g me_sr_go (d + 6) 0 0 128 [some (vr 3 0), some (vi x1), some (vi x2), some (vi x3), some (vi x4), some (vi x5), some (vn), some (vi (0 : Int32)), o8] [] h _
        refine tr_iload (pc := 128) k_sr_go_128 rfl ?_
        refine tr_iload (pc := 130) k_sr_go_130 rfl ?_
        refine tr_icmp_eq (pc := 132) 149 k_sr_go_132 (by decide) (fun q => ?_) (fun q => ?_)
        · replace hv := hv.1 q
          refine tr_aload (pc := 149) k_sr_go_149 rfl ?_
          refine tr_ifnonnull (pc := 151) 158 k_sr_go_151 (by decide) (fun _ => ?_) (fun _ _ q => by cases q)
          refine tr_null (pc := 154) k_sr_go_154 ?_
          refine tr_goto (pc := 155) 165 k_sr_go_155 (by decide) ?_
          refine tr_astore (pc := 165) k_sr_go_165 (by decide) rfl ?_
          show mT g me_sr_go (d + 6) 0 0 167 [some (vr 3 0), some (vi x1), some (vi x2), some (vi x3), some (vi x4), some (vi x5), some (vn), some (vi (0 : Int32)), some (vn)] [] h _
          refine tr_aload (pc := 167) k_sr_go_167 rfl ?_
          refine tr_ifnull (pc := 169) 193 k_sr_go_169 (by decide) (fun _ => ?_) (fun _ _ q => by cases q)
          refine tr_aload_n (pc := 193) 0 k_sr_go_193 rfl rfl ?_
          have hT := hv
          clear hv
          refine tr_callV (pc := 194) (d' := d + 5) (mc' := 0) (ms' := 0) [] k_sr_go_194 ca_sr_passMinute ml_sr_78 ii_sr_passMinute ⟨by decide, rfl⟩ pa_sr_passMinute (by omega) (by omega) (by omega) rfl (Nat.le_of_ble_eq_true rfl) (Nat.le_of_ble_eq_true rfl) hT (fun v h9 hv => ?_)
          clear hT
          obtain ⟨rfl, hv⟩ := hv
          obtain ⟨h19, eh⟩ : ∃ z, z = h9 := ⟨_, rfl⟩
          subst eh
          obtain ⟨hskh19, hv⟩ := hv
          show mT g me_sr_go (d + 6) 0 0 197 [some (vr 3 0), some (vi x1), some (vi x2), some (vi x3), some (vi x4), some (vi x5), some (vn), some (vi (0 : Int32)), some (vn)] [] h19 _
          refine tr_iinc (pc := 197) (v := (x5 + 1)) k_sr_go_197 rfl rfl (by decide) rfl ?_
          show mT g me_sr_go (d + 6) 0 0 200 [some (vr 3 0), some (vi x1), some (vi x2), some (vi x3), some (vi x4), some (vi (x5 + 1)), some (vn), some (vi (0 : Int32)), some (vn)] [] h19 _
          refine tr_goto (pc := 200) 23 k_sr_go_200 (by decide) ?_
          exact hv
        · replace hv := hv.2 q
          refine tr_aload_n (pc := 135) 0 k_sr_go_135 rfl rfl ?_
          refine tr_getP (pc := 136) k_sr_go_136 fl_sr_9 rfl (Eq.trans rfl (hsk.1 3 0 _ rfl)) ?_
          refine tr_iload (pc := 139) k_sr_go_139 rfl ?_
          refine tr_iconst (pc := 141) (v := 0) k_sr_go_141 (by decide) ?_
          have hT := hv
          clear hv
          refine tr_callV (pc := 142) (d' := d + 5) (mc' := 0) (ms' := 0) [vi (0 : Int32), vi (0 : Int32)] k_sr_go_142 ca_ga_reckon ml_sr_56 ii_ga_reckon ⟨by decide, rfl⟩ pa_ga_reckon (by omega) (by omega) (by omega) rfl (Nat.le_of_ble_eq_true rfl) (Nat.le_of_ble_eq_true rfl) hT (fun v h9 hv => ?_)
          clear hT
          obtain ⟨rfl, hv⟩ := hv
          obtain ⟨h20, eh⟩ : ∃ z, z = h9 := ⟨_, rfl⟩
          subst eh
          obtain ⟨hskh20, hv⟩ := hv
          show mT g me_sr_go (d + 6) 0 0 145 [some (vr 3 0), some (vi x1), some (vi x2), some (vi x3), some (vi x4), some (vi x5), some (vn), some (vi (0 : Int32)), o8] [] h20 _
          refine tr_iload (pc := 145) k_sr_go_145 rfl ?_
          refine tr_istore (pc := 147) k_sr_go_147 (by decide) rfl ?_
          show mT g me_sr_go (d + 6) 0 0 149 [some (vr 3 0), some (vi x1), some (vi x2), some (vi x3), some (vi (0 : Int32)), some (vi x5), some (vn), some (vi (0 : Int32)), o8] [] h20 _
          refine tr_aload (pc := 149) k_sr_go_149 rfl ?_
          refine tr_ifnonnull (pc := 151) 158 k_sr_go_151 (by decide) (fun _ => ?_) (fun _ _ q => by cases q)
          refine tr_null (pc := 154) k_sr_go_154 ?_
          refine tr_goto (pc := 155) 165 k_sr_go_155 (by decide) ?_
          refine tr_astore (pc := 165) k_sr_go_165 (by decide) rfl ?_
          show mT g me_sr_go (d + 6) 0 0 167 [some (vr 3 0), some (vi x1), some (vi x2), some (vi x3), some (vi (0 : Int32)), some (vi x5), some (vn), some (vi (0 : Int32)), some (vn)] [] h20 _
          refine tr_aload (pc := 167) k_sr_go_167 rfl ?_
          refine tr_ifnull (pc := 169) 193 k_sr_go_169 (by decide) (fun _ => ?_) (fun _ _ q => by cases q)
          refine tr_aload_n (pc := 193) 0 k_sr_go_193 rfl rfl ?_
          have hT := hv
          clear hv
          refine tr_callV (pc := 194) (d' := d + 5) (mc' := 0) (ms' := 0) [] k_sr_go_194 ca_sr_passMinute ml_sr_78 ii_sr_passMinute ⟨by decide, rfl⟩ pa_sr_passMinute (by omega) (by omega) (by omega) rfl (Nat.le_of_ble_eq_true rfl) (Nat.le_of_ble_eq_true rfl) hT (fun v h9 hv => ?_)
          clear hT
          obtain ⟨rfl, hv⟩ := hv
          obtain ⟨h21, eh⟩ : ∃ z, z = h9 := ⟨_, rfl⟩
          subst eh
          obtain ⟨hskh21, hv⟩ := hv
          show mT g me_sr_go (d + 6) 0 0 197 [some (vr 3 0), some (vi x1), some (vi x2), some (vi x3), some (vi (0 : Int32)), some (vi x5), some (vn), some (vi (0 : Int32)), some (vn)] [] h21 _
          refine tr_iinc (pc := 197) (v := (x5 + 1)) k_sr_go_197 rfl rfl (by decide) rfl ?_
          show mT g me_sr_go (d + 6) 0 0 200 [some (vr 3 0), some (vi x1), some (vi x2), some (vi x3), some (vi (0 : Int32)), some (vi (x5 + 1)), some (vn), some (vi (0 : Int32)), some (vn)] [] h21 _
          refine tr_goto (pc := 200) 23 k_sr_go_200 (by decide) ?_
          exact hv
      · replace hv := hv.2 q
        refine tr_aload_n (pc := 76) 0 k_sr_go_76 rfl rfl ?_
        refine tr_getP (pc := 77) k_sr_go_77 fl_sr_15 rfl (Eq.trans rfl (hsk.1 3 1 _ rfl)) ?_
        refine tr_iload_n (pc := 80) 3 k_sr_go_80 rfl rfl ?_
        obtain ⟨n22, hg, hv⟩ := hv
        refine tr_alget (pc := 81) k_sr_go_81 ml_sr_38 (by omega) (Nat.le_of_ble_eq_true rfl) (mGet.up hg rfl rfl) ?_
        refine tr_cast (pc := 84) k_sr_go_84 (by decide) cl_sr_42 ?_
        refine tr_getIx (pc := 87) k_sr_go_87 fl_sr_50 rfl rfl ?_
        refine tr_iload (pc := 90) k_sr_go_90 rfl ?_
        refine tr_icmp_gt (pc := 92) 109 k_sr_go_92 (by decide) (fun q => ?_) (fun q => ?_)
        · replace hv := hv.1 q
          refine tr_null (pc := 109) k_sr_go_109 ?_
          refine tr_astore (pc := 110) k_sr_go_110 (by decide) rfl ?_
          show mT g me_sr_go (d + 6) 0 0 112 [some (vr 3 0), some (vi x1), some (vi x2), some (vi x3), some (vi x4), some (vi x5), some (vn), o7, o8] [] h _
          refine tr_aload (pc := 112) k_sr_go_112 rfl ?_
          refine tr_ifnonnull (pc := 114) 121 k_sr_go_114 (by decide) (fun _ => ?_) (fun _ _ q => by cases q)
          refine tr_iconst (pc := 117) (v := 0) k_sr_go_117 (by decide) ?_
          refine tr_goto (pc := 118) 126 k_sr_go_118 (by decide) ?_
          refine tr_istore (pc := 126) k_sr_go_126 (by decide) rfl ?_
          show mT g me_sr_go (d + 6) 0 0 128 [some (vr 3 0), some (vi x1), some (vi x2), some (vi x3), some (vi x4), some (vi x5), some (vn), some (vi (0 : Int32)), o8] [] h _
          refine tr_iload (pc := 128) k_sr_go_128 rfl ?_
          refine tr_iload (pc := 130) k_sr_go_130 rfl ?_
          refine tr_icmp_eq (pc := 132) 149 k_sr_go_132 (by decide) (fun q => ?_) (fun q => ?_)
          · replace hv := hv.1 q
            refine tr_aload (pc := 149) k_sr_go_149 rfl ?_
            refine tr_ifnonnull (pc := 151) 158 k_sr_go_151 (by decide) (fun _ => ?_) (fun _ _ q => by cases q)
            refine tr_null (pc := 154) k_sr_go_154 ?_
            refine tr_goto (pc := 155) 165 k_sr_go_155 (by decide) ?_
            refine tr_astore (pc := 165) k_sr_go_165 (by decide) rfl ?_
            show mT g me_sr_go (d + 6) 0 0 167 [some (vr 3 0), some (vi x1), some (vi x2), some (vi x3), some (vi x4), some (vi x5), some (vn), some (vi (0 : Int32)), some (vn)] [] h _
            refine tr_aload (pc := 167) k_sr_go_167 rfl ?_
            refine tr_ifnull (pc := 169) 193 k_sr_go_169 (by decide) (fun _ => ?_) (fun _ _ q => by cases q)
            refine tr_aload_n (pc := 193) 0 k_sr_go_193 rfl rfl ?_
            have hT := hv
            clear hv
            refine tr_callV (pc := 194) (d' := d + 5) (mc' := 0) (ms' := 0) [] k_sr_go_194 ca_sr_passMinute ml_sr_78 ii_sr_passMinute ⟨by decide, rfl⟩ pa_sr_passMinute (by omega) (by omega) (by omega) rfl (Nat.le_of_ble_eq_true rfl) (Nat.le_of_ble_eq_true rfl) hT (fun v h9 hv => ?_)
            clear hT
            obtain ⟨rfl, hv⟩ := hv
            obtain ⟨h23, eh⟩ : ∃ z, z = h9 := ⟨_, rfl⟩
            subst eh
            obtain ⟨hskh23, hv⟩ := hv
            show mT g me_sr_go (d + 6) 0 0 197 [some (vr 3 0), some (vi x1), some (vi x2), some (vi x3), some (vi x4), some (vi x5), some (vn), some (vi (0 : Int32)), some (vn)] [] h23 _
            refine tr_iinc (pc := 197) (v := (x5 + 1)) k_sr_go_197 rfl rfl (by decide) rfl ?_
            show mT g me_sr_go (d + 6) 0 0 200 [some (vr 3 0), some (vi x1), some (vi x2), some (vi x3), some (vi x4), some (vi (x5 + 1)), some (vn), some (vi (0 : Int32)), some (vn)] [] h23 _
            refine tr_goto (pc := 200) 23 k_sr_go_200 (by decide) ?_
            exact hv
          · replace hv := hv.2 q
            refine tr_aload_n (pc := 135) 0 k_sr_go_135 rfl rfl ?_
            refine tr_getP (pc := 136) k_sr_go_136 fl_sr_9 rfl (Eq.trans rfl (hsk.1 3 0 _ rfl)) ?_
            refine tr_iload (pc := 139) k_sr_go_139 rfl ?_
            refine tr_iconst (pc := 141) (v := 0) k_sr_go_141 (by decide) ?_
            have hT := hv
            clear hv
            refine tr_callV (pc := 142) (d' := d + 5) (mc' := 0) (ms' := 0) [vi (0 : Int32), vi (0 : Int32)] k_sr_go_142 ca_ga_reckon ml_sr_56 ii_ga_reckon ⟨by decide, rfl⟩ pa_ga_reckon (by omega) (by omega) (by omega) rfl (Nat.le_of_ble_eq_true rfl) (Nat.le_of_ble_eq_true rfl) hT (fun v h9 hv => ?_)
            clear hT
            obtain ⟨rfl, hv⟩ := hv
            obtain ⟨h24, eh⟩ : ∃ z, z = h9 := ⟨_, rfl⟩
            subst eh
            obtain ⟨hskh24, hv⟩ := hv
            show mT g me_sr_go (d + 6) 0 0 145 [some (vr 3 0), some (vi x1), some (vi x2), some (vi x3), some (vi x4), some (vi x5), some (vn), some (vi (0 : Int32)), o8] [] h24 _
            refine tr_iload (pc := 145) k_sr_go_145 rfl ?_
            refine tr_istore (pc := 147) k_sr_go_147 (by decide) rfl ?_
            show mT g me_sr_go (d + 6) 0 0 149 [some (vr 3 0), some (vi x1), some (vi x2), some (vi x3), some (vi (0 : Int32)), some (vi x5), some (vn), some (vi (0 : Int32)), o8] [] h24 _
            refine tr_aload (pc := 149) k_sr_go_149 rfl ?_
            refine tr_ifnonnull (pc := 151) 158 k_sr_go_151 (by decide) (fun _ => ?_) (fun _ _ q => by cases q)
            refine tr_null (pc := 154) k_sr_go_154 ?_
            refine tr_goto (pc := 155) 165 k_sr_go_155 (by decide) ?_
            refine tr_astore (pc := 165) k_sr_go_165 (by decide) rfl ?_
            show mT g me_sr_go (d + 6) 0 0 167 [some (vr 3 0), some (vi x1), some (vi x2), some (vi x3), some (vi (0 : Int32)), some (vi x5), some (vn), some (vi (0 : Int32)), some (vn)] [] h24 _
            refine tr_aload (pc := 167) k_sr_go_167 rfl ?_
            refine tr_ifnull (pc := 169) 193 k_sr_go_169 (by decide) (fun _ => ?_) (fun _ _ q => by cases q)
            refine tr_aload_n (pc := 193) 0 k_sr_go_193 rfl rfl ?_
            have hT := hv
            clear hv
            refine tr_callV (pc := 194) (d' := d + 5) (mc' := 0) (ms' := 0) [] k_sr_go_194 ca_sr_passMinute ml_sr_78 ii_sr_passMinute ⟨by decide, rfl⟩ pa_sr_passMinute (by omega) (by omega) (by omega) rfl (Nat.le_of_ble_eq_true rfl) (Nat.le_of_ble_eq_true rfl) hT (fun v h9 hv => ?_)
            clear hT
            obtain ⟨rfl, hv⟩ := hv
            obtain ⟨h25, eh⟩ : ∃ z, z = h9 := ⟨_, rfl⟩
            subst eh
            obtain ⟨hskh25, hv⟩ := hv
            show mT g me_sr_go (d + 6) 0 0 197 [some (vr 3 0), some (vi x1), some (vi x2), some (vi x3), some (vi (0 : Int32)), some (vi x5), some (vn), some (vi (0 : Int32)), some (vn)] [] h25 _
            refine tr_iinc (pc := 197) (v := (x5 + 1)) k_sr_go_197 rfl rfl (by decide) rfl ?_
            show mT g me_sr_go (d + 6) 0 0 200 [some (vr 3 0), some (vi x1), some (vi x2), some (vi x3), some (vi (0 : Int32)), some (vi (x5 + 1)), some (vn), some (vi (0 : Int32)), some (vn)] [] h25 _
            refine tr_goto (pc := 200) 23 k_sr_go_200 (by decide) ?_
            exact hv
        · replace hv := hv.2 q
          refine tr_aload_n (pc := 95) 0 k_sr_go_95 rfl rfl ?_
          refine tr_getP (pc := 96) k_sr_go_96 fl_sr_15 rfl (Eq.trans rfl (hsk.1 3 1 _ rfl)) ?_
          refine tr_iload_n (pc := 99) 3 k_sr_go_99 rfl rfl ?_
          obtain ⟨n26, hg, hv⟩ := hv
          refine tr_alget (pc := 100) k_sr_go_100 ml_sr_38 (by omega) (Nat.le_of_ble_eq_true rfl) (mGet.up hg rfl rfl) ?_
          refine tr_cast (pc := 103) k_sr_go_103 (by decide) cl_sr_42 ?_
          refine tr_goto (pc := 106) 110 k_sr_go_106 (by decide) ?_
          refine tr_astore (pc := 110) k_sr_go_110 (by decide) rfl ?_
          show mT g me_sr_go (d + 6) 0 0 112 [some (vr 3 0), some (vi x1), some (vi x2), some (vi x3), some (vi x4), some (vi x5), some (vr 9 n26), o7, o8] [] h _
          refine tr_aload (pc := 112) k_sr_go_112 rfl ?_
          refine tr_ifnonnull (pc := 114) 121 k_sr_go_114 (by decide) (fun q => by cases q) (fun _ _ _ => ?_)
          refine tr_aload (pc := 121) k_sr_go_121 rfl ?_
          refine tr_getIx (pc := 123) k_sr_go_123 fl_sr_53 rfl rfl ?_
          refine tr_istore (pc := 126) k_sr_go_126 (by decide) rfl ?_
          show mT g me_sr_go (d + 6) 0 0 128 [some (vr 3 0), some (vi x1), some (vi x2), some (vi x3), some (vi x4), some (vi x5), some (vr 9 n26), some (vi (hI h 9 n26 0)), o8] [] h _
          refine tr_iload (pc := 128) k_sr_go_128 rfl ?_
          refine tr_iload (pc := 130) k_sr_go_130 rfl ?_
          refine tr_icmp_eq (pc := 132) 149 k_sr_go_132 (by decide) (fun q => ?_) (fun q => ?_)
          · replace hv := hv.1 q
            refine tr_aload (pc := 149) k_sr_go_149 rfl ?_
            refine tr_ifnonnull (pc := 151) 158 k_sr_go_151 (by decide) (fun q => by cases q) (fun _ _ _ => ?_)
            refine tr_aload_n (pc := 158) 0 k_sr_go_158 rfl rfl ?_
            refine tr_aload (pc := 159) k_sr_go_159 rfl ?_
            refine tr_iload_n (pc := 161) 1 k_sr_go_161 rfl rfl ?_
            have hT := hv
            clear hv
            refine tr_callV (pc := 162) (d' := d + 5) (mc' := 0) (ms' := 0) [vr 9 n26, vi x1] k_sr_go_162 ca_sr_lookAtRises ml_sr_60 ii_sr_lookAtRises ⟨by decide, rfl⟩ pa_sr_lookAtRises (by omega) (by omega) (by omega) rfl (Nat.le_of_ble_eq_true rfl) (Nat.le_of_ble_eq_true rfl) hT (fun v h9 hv => ?_)
            clear hT
            obtain ⟨p28, rfl, hv⟩ := hv
            obtain ⟨h27, eh⟩ : ∃ z, z = h9 := ⟨_, rfl⟩
            subst eh
            obtain ⟨hskh27, hv⟩ := hv
            show mT g me_sr_go (d + 6) 0 0 165 [some (vr 3 0), some (vi x1), some (vi x2), some (vi x3), some (vi x4), some (vi x5), some (vr 9 n26), some (vi (hI h 9 n26 0)), o8] [vp p28] h27 _
            refine tr_astore (pc := 165) k_sr_go_165 (by decide) rfl ?_
            show mT g me_sr_go (d + 6) 0 0 167 [some (vr 3 0), some (vi x1), some (vi x2), some (vi x3), some (vi x4), some (vi x5), some (vr 9 n26), some (vi (hI h 9 n26 0)), some (vp p28)] [] h27 _
            refine tr_aload (pc := 167) k_sr_go_167 rfl ?_
            rcases p28 with _ | ⟨kq, n29⟩
            · replace hv := hv.1 rfl
              refine tr_ifnull (pc := 169) 193 k_sr_go_169 (by decide) (fun _ => ?_) (fun _ _ q => by cases q)
              refine tr_aload_n (pc := 193) 0 k_sr_go_193 rfl rfl ?_
              have hT := hv
              clear hv
              refine tr_callV (pc := 194) (d' := d + 5) (mc' := 0) (ms' := 0) [] k_sr_go_194 ca_sr_passMinute ml_sr_78 ii_sr_passMinute ⟨by decide, rfl⟩ pa_sr_passMinute (by omega) (by omega) (by omega) rfl (Nat.le_of_ble_eq_true rfl) (Nat.le_of_ble_eq_true rfl) hT (fun v h9 hv => ?_)
              clear hT
              obtain ⟨rfl, hv⟩ := hv
              obtain ⟨h30, eh⟩ : ∃ z, z = h9 := ⟨_, rfl⟩
              subst eh
              obtain ⟨hskh30, hv⟩ := hv
              show mT g me_sr_go (d + 6) 0 0 197 [some (vr 3 0), some (vi x1), some (vi x2), some (vi x3), some (vi x4), some (vi x5), some (vr 9 n26), some (vi (hI h 9 n26 0)), some (vn)] [] h30 _
              refine tr_iinc (pc := 197) (v := (x5 + 1)) k_sr_go_197 rfl rfl (by decide) rfl ?_
              show mT g me_sr_go (d + 6) 0 0 200 [some (vr 3 0), some (vi x1), some (vi x2), some (vi x3), some (vi x4), some (vi (x5 + 1)), some (vr 9 n26), some (vi (hI h 9 n26 0)), some (vn)] [] h30 _
              refine tr_goto (pc := 200) 23 k_sr_go_200 (by decide) ?_
              exact hv
            · have hw := hv.2 kq n29 rfl
              clear hv
              obtain ⟨tq, hv⟩ := hw
              subst tq
              refine tr_ifnull (pc := 169) 193 k_sr_go_169 (by decide) (fun q => by cases q) (fun _ _ _ => ?_)
              refine tr_aload_n (pc := 172) 0 k_sr_go_172 rfl rfl ?_
              refine tr_iload (pc := 173) k_sr_go_173 rfl ?_
              refine tr_putI (pc := 175) k_sr_go_175 fl_sr_64 (Or.inl rfl) rfl ⟨rfl, rfl⟩ ?_
              refine tr_aload_n (pc := 178) 0 k_sr_go_178 rfl rfl ?_
              refine tr_iload_n (pc := 179) 3 k_sr_go_179 rfl rfl ?_
              refine tr_putI (pc := 180) k_sr_go_180 fl_sr_67 (Or.inl rfl) rfl ⟨rfl, rfl⟩ ?_
              refine tr_aload_n (pc := 183) 0 k_sr_go_183 rfl rfl ?_
              refine tr_aload (pc := 184) k_sr_go_184 rfl ?_
              refine tr_getIx (pc := 186) k_sr_go_186 fl_sr_70 rfl (Eq.trans (hI_nk (by decide)) (hI_nk (by decide))) ?_
              refine tr_putI (pc := 189) k_sr_go_189 fl_sr_75 (Or.inl rfl) rfl ⟨rfl, rfl⟩ ?_
              refine tr_return (pc := 192) k_sr_go_192 rfl ?_
              exact hv
          · replace hv := hv.2 q
            refine tr_aload_n (pc := 135) 0 k_sr_go_135 rfl rfl ?_
            refine tr_getP (pc := 136) k_sr_go_136 fl_sr_9 rfl (Eq.trans rfl (hsk.1 3 0 _ rfl)) ?_
            refine tr_iload (pc := 139) k_sr_go_139 rfl ?_
            refine tr_iconst (pc := 141) (v := 0) k_sr_go_141 (by decide) ?_
            have hT := hv
            clear hv
            refine tr_callV (pc := 142) (d' := d + 5) (mc' := 0) (ms' := 0) [vi (hI h 9 n26 0), vi (0 : Int32)] k_sr_go_142 ca_ga_reckon ml_sr_56 ii_ga_reckon ⟨by decide, rfl⟩ pa_ga_reckon (by omega) (by omega) (by omega) rfl (Nat.le_of_ble_eq_true rfl) (Nat.le_of_ble_eq_true rfl) hT (fun v h9 hv => ?_)
            clear hT
            obtain ⟨rfl, hv⟩ := hv
            obtain ⟨h31, eh⟩ : ∃ z, z = h9 := ⟨_, rfl⟩
            subst eh
            obtain ⟨hskh31, hv⟩ := hv
            show mT g me_sr_go (d + 6) 0 0 145 [some (vr 3 0), some (vi x1), some (vi x2), some (vi x3), some (vi x4), some (vi x5), some (vr 9 n26), some (vi (hI h 9 n26 0)), o8] [] h31 _
            refine tr_iload (pc := 145) k_sr_go_145 rfl ?_
            refine tr_istore (pc := 147) k_sr_go_147 (by decide) rfl ?_
            show mT g me_sr_go (d + 6) 0 0 149 [some (vr 3 0), some (vi x1), some (vi x2), some (vi x3), some (vi (hI h 9 n26 0)), some (vi x5), some (vr 9 n26), some (vi (hI h 9 n26 0)), o8] [] h31 _
            refine tr_aload (pc := 149) k_sr_go_149 rfl ?_
            refine tr_ifnonnull (pc := 151) 158 k_sr_go_151 (by decide) (fun q => by cases q) (fun _ _ _ => ?_)
            refine tr_aload_n (pc := 158) 0 k_sr_go_158 rfl rfl ?_
            refine tr_aload (pc := 159) k_sr_go_159 rfl ?_
            refine tr_iload_n (pc := 161) 1 k_sr_go_161 rfl rfl ?_
            have hT := hv
            clear hv
            refine tr_callV (pc := 162) (d' := d + 5) (mc' := 0) (ms' := 0) [vr 9 n26, vi x1] k_sr_go_162 ca_sr_lookAtRises ml_sr_60 ii_sr_lookAtRises ⟨by decide, rfl⟩ pa_sr_lookAtRises (by omega) (by omega) (by omega) rfl (Nat.le_of_ble_eq_true rfl) (Nat.le_of_ble_eq_true rfl) hT (fun v h9 hv => ?_)
            clear hT
            obtain ⟨p33, rfl, hv⟩ := hv
            obtain ⟨h32, eh⟩ : ∃ z, z = h9 := ⟨_, rfl⟩
            subst eh
            obtain ⟨hskh32, hv⟩ := hv
            show mT g me_sr_go (d + 6) 0 0 165 [some (vr 3 0), some (vi x1), some (vi x2), some (vi x3), some (vi (hI h 9 n26 0)), some (vi x5), some (vr 9 n26), some (vi (hI h 9 n26 0)), o8] [vp p33] h32 _
            refine tr_astore (pc := 165) k_sr_go_165 (by decide) rfl ?_
            show mT g me_sr_go (d + 6) 0 0 167 [some (vr 3 0), some (vi x1), some (vi x2), some (vi x3), some (vi (hI h 9 n26 0)), some (vi x5), some (vr 9 n26), some (vi (hI h 9 n26 0)), some (vp p33)] [] h32 _
            refine tr_aload (pc := 167) k_sr_go_167 rfl ?_
            rcases p33 with _ | ⟨kq, n34⟩
            · replace hv := hv.1 rfl
              refine tr_ifnull (pc := 169) 193 k_sr_go_169 (by decide) (fun _ => ?_) (fun _ _ q => by cases q)
              refine tr_aload_n (pc := 193) 0 k_sr_go_193 rfl rfl ?_
              have hT := hv
              clear hv
              refine tr_callV (pc := 194) (d' := d + 5) (mc' := 0) (ms' := 0) [] k_sr_go_194 ca_sr_passMinute ml_sr_78 ii_sr_passMinute ⟨by decide, rfl⟩ pa_sr_passMinute (by omega) (by omega) (by omega) rfl (Nat.le_of_ble_eq_true rfl) (Nat.le_of_ble_eq_true rfl) hT (fun v h9 hv => ?_)
              clear hT
              obtain ⟨rfl, hv⟩ := hv
              obtain ⟨h35, eh⟩ : ∃ z, z = h9 := ⟨_, rfl⟩
              subst eh
              obtain ⟨hskh35, hv⟩ := hv
              show mT g me_sr_go (d + 6) 0 0 197 [some (vr 3 0), some (vi x1), some (vi x2), some (vi x3), some (vi (hI h 9 n26 0)), some (vi x5), some (vr 9 n26), some (vi (hI h 9 n26 0)), some (vn)] [] h35 _
              refine tr_iinc (pc := 197) (v := (x5 + 1)) k_sr_go_197 rfl rfl (by decide) rfl ?_
              show mT g me_sr_go (d + 6) 0 0 200 [some (vr 3 0), some (vi x1), some (vi x2), some (vi x3), some (vi (hI h 9 n26 0)), some (vi (x5 + 1)), some (vr 9 n26), some (vi (hI h 9 n26 0)), some (vn)] [] h35 _
              refine tr_goto (pc := 200) 23 k_sr_go_200 (by decide) ?_
              exact hv
            · have hw := hv.2 kq n34 rfl
              clear hv
              obtain ⟨tq, hv⟩ := hw
              subst tq
              refine tr_ifnull (pc := 169) 193 k_sr_go_169 (by decide) (fun q => by cases q) (fun _ _ _ => ?_)
              refine tr_aload_n (pc := 172) 0 k_sr_go_172 rfl rfl ?_
              refine tr_iload (pc := 173) k_sr_go_173 rfl ?_
              refine tr_putI (pc := 175) k_sr_go_175 fl_sr_64 (Or.inl rfl) rfl ⟨rfl, rfl⟩ ?_
              refine tr_aload_n (pc := 178) 0 k_sr_go_178 rfl rfl ?_
              refine tr_iload_n (pc := 179) 3 k_sr_go_179 rfl rfl ?_
              refine tr_putI (pc := 180) k_sr_go_180 fl_sr_67 (Or.inl rfl) rfl ⟨rfl, rfl⟩ ?_
              refine tr_aload_n (pc := 183) 0 k_sr_go_183 rfl rfl ?_
              refine tr_aload (pc := 184) k_sr_go_184 rfl ?_
              refine tr_getIx (pc := 186) k_sr_go_186 fl_sr_70 rfl (Eq.trans (hI_nk (by decide)) (hI_nk (by decide))) ?_
              refine tr_putI (pc := 189) k_sr_go_189 fl_sr_75 (Or.inl rfl) rfl ⟨rfl, rfl⟩ ?_
              refine tr_return (pc := 192) k_sr_go_192 rfl ?_
              exact hv
    · replace hv := hv.2 q
      refine tr_iinc (pc := 59) (v := (x3 + 1)) k_sr_go_59 rfl rfl (by decide) rfl ?_
      show mT g me_sr_go (d + 6) 0 0 62 [some (vr 3 0), some (vi x1), some (vi x2), some (vi (x3 + 1)), some (vi x4), some (vi x5), o6, o7, o8] [] h _
      refine tr_goto (pc := 62) 29 k_sr_go_62 (by decide) ?_
      exact hv
theorem v_sr_begin_0 {g : mG} {d : Nat}  {h : mH} {Q : Option mV → mH → Prop} (hsk : mSK h) (hv : mT g me_sr_begin (d + 4) 0 0 38 [some (vr 3 0), some (vi (0 : Int32)), none] [] (setI (setI (setI (setI (setI (setI h 3 0 2 (-9 : Int32)) 3 0 3 (-9 : Int32)) 3 0 4 (-9 : Int32)) 3 0 5 (0 : Int32)) 3 0 6 (60000 : Int32)) 3 0 7 (500 : Int32)) Q) : mT g me_sr_begin (d + 4) 0 0 0 [some (vr 3 0), none, none] [] h Q := by
  refine tr_aload_n (pc := 0) 0 k_sr_begin_0 rfl rfl ?_
  refine tr_bipush (pc := 1) (v := -9) k_sr_begin_1 (by decide) ?_
  refine tr_putI (pc := 3) k_sr_begin_3 fl_sr_64 (Or.inl rfl) rfl ⟨rfl, rfl⟩ ?_
  refine tr_aload_n (pc := 6) 0 k_sr_begin_6 rfl rfl ?_
  refine tr_bipush (pc := 7) (v := -9) k_sr_begin_7 (by decide) ?_
  refine tr_putI (pc := 9) k_sr_begin_9 fl_sr_67 (Or.inl rfl) rfl ⟨rfl, rfl⟩ ?_
  refine tr_aload_n (pc := 12) 0 k_sr_begin_12 rfl rfl ?_
  refine tr_bipush (pc := 13) (v := -9) k_sr_begin_13 (by decide) ?_
  refine tr_putI (pc := 15) k_sr_begin_15 fl_sr_75 (Or.inl rfl) rfl ⟨rfl, rfl⟩ ?_
  refine tr_aload_n (pc := 18) 0 k_sr_begin_18 rfl rfl ?_
  refine tr_iconst (pc := 19) (v := 0) k_sr_begin_19 (by decide) ?_
  refine tr_putI (pc := 20) k_sr_begin_20 fl_sr_81 (Or.inl rfl) rfl ⟨rfl, rfl⟩ ?_
  refine tr_aload_n (pc := 23) 0 k_sr_begin_23 rfl rfl ?_
  refine tr_ldc (pc := 24) (v := 60000) k_sr_begin_24 co_sr_84 ?_
  refine tr_putI (pc := 26) k_sr_begin_26 fl_sr_85 (Or.inl rfl) rfl ⟨rfl, rfl⟩ ?_
  refine tr_aload_n (pc := 29) 0 k_sr_begin_29 rfl rfl ?_
  refine tr_sipush (pc := 30) (v := 500) k_sr_begin_30 (by decide) ?_
  refine tr_putI (pc := 33) k_sr_begin_33 fl_sr_88 (Or.inl rfl) rfl ⟨rfl, rfl⟩ ?_
  refine tr_iconst (pc := 36) (v := 0) k_sr_begin_36 (by decide) ?_
  refine tr_istore_n (pc := 37) 1 k_sr_begin_37 rfl (by decide) rfl ?_
  show mT g me_sr_begin (d + 4) 0 0 38 [some (vr 3 0), some (vi (0 : Int32)), none] [] (setI (setI (setI (setI (setI (setI h 3 0 2 (-9 : Int32)) 3 0 3 (-9 : Int32)) 3 0 4 (-9 : Int32)) 3 0 5 (0 : Int32)) 3 0 6 (60000 : Int32)) 3 0 7 (500 : Int32)) _
  exact hv
theorem v_sr_begin_38 {g : mG} {d : Nat} (x1 : Int32) (o2 : Option mV) {h : mH} {Q : Option mV → mH → Prop} (hsk : mSK h) (hv : (((hI h 2 0 1) ≤ x1 → Q none h) ∧ (¬ (hI h 2 0 1) ≤ x1 → (∃ n1, mGet h 0 x1 (some (6, n1)) ∧ mT g me_sr_begin (d + 4) 0 0 38 [some (vr 3 0), some (vi (x1 + 1)), some (vr 6 n1)] [] (setI (setI h 6 n1 9 (hI h 6 n1 5)) 3 0 6 (if (hI h 6 n1 5) < (hI h 3 0 6) then (hI h 6 n1 5) else (hI h 3 0 6))) Q)))) : mT g me_sr_begin (d + 4) 0 0 38 [some (vr 3 0), some (vi x1), o2] [] h Q := by
  refine tr_iload_n (pc := 38) 1 k_sr_begin_38 rfl rfl ?_
  refine tr_aload_n (pc := 39) 0 k_sr_begin_39 rfl rfl ?_
  refine tr_getP (pc := 40) k_sr_begin_40 fl_sr_9 rfl (Eq.trans rfl (hsk.1 3 0 _ rfl)) ?_
  refine tr_getP (pc := 43) k_sr_begin_43 fl_sr_91 rfl (Eq.trans rfl (hsk.1 1 0 _ rfl)) ?_
  refine tr_callV (pc := 46) (d' := d + 3) (mc' := 0) (ms' := 0) [] k_sr_begin_46 ca_al_size ml_sr_35 ii_al_size ⟨by decide, rfl⟩ pa_al_size (by omega) (by omega) (by omega) rfl (Nat.le_of_ble_eq_true rfl) (Nat.le_of_ble_eq_true rfl) (Qk := fun v h9 => mT g me_sr_begin (d + 4) 0 0 49 [some (vr 3 0), some (vi x1), o2] (v.toList ++ [vi x1]) h9 _) ?_ (fun _ _ z => z)
  show mT g me_al_size (d + 3) 0 0 0 [some (vr 2 0)] [] h _
  refine tr_aload_n (pc := 0) 0 k_al_size_0 rfl rfl ?_
  refine tr_getIx (pc := 1) k_al_size_1 fl_al_48 rfl rfl ?_
  refine tr_ireturn (pc := 4) k_al_size_4 rfl rfl ?_
  show mT g me_sr_begin (d + 4) 0 0 49 [some (vr 3 0), some (vi x1), o2] [vi (hI h 2 0 1), vi x1] h _
  refine tr_icmp_ge (pc := 49) 96 k_sr_begin_49 (by decide) (fun q => ?_) (fun q => ?_)
  · replace hv := hv.1 q
    refine tr_return (pc := 96) k_sr_begin_96 rfl ?_
    exact hv
  · replace hv := hv.2 q
    refine tr_aload_n (pc := 52) 0 k_sr_begin_52 rfl rfl ?_
    refine tr_getP (pc := 53) k_sr_begin_53 fl_sr_9 rfl (Eq.trans rfl (hsk.1 3 0 _ rfl)) ?_
    refine tr_getP (pc := 56) k_sr_begin_56 fl_sr_91 rfl (Eq.trans rfl (hsk.1 1 0 _ rfl)) ?_
    refine tr_iload_n (pc := 59) 1 k_sr_begin_59 rfl rfl ?_
    obtain ⟨n1, hg, hv⟩ := hv
    refine tr_alget (pc := 60) k_sr_begin_60 ml_sr_38 (by omega) (Nat.le_of_ble_eq_true rfl) (mGet.up hg rfl rfl) ?_
    refine tr_cast (pc := 63) k_sr_begin_63 (by decide) cl_sr_94 ?_
    refine tr_astore_n (pc := 66) 2 k_sr_begin_66 rfl (by decide) rfl ?_
    show mT g me_sr_begin (d + 4) 0 0 67 [some (vr 3 0), some (vi x1), some (vr 6 n1)] [] h _
    refine tr_aload_n (pc := 67) 2 k_sr_begin_67 rfl rfl ?_
    refine tr_aload_n (pc := 68) 2 k_sr_begin_68 rfl rfl ?_
    refine tr_getIx (pc := 69) k_sr_begin_69 fl_sr_96 rfl rfl ?_
    refine tr_putI (pc := 72) k_sr_begin_72 fl_sr_99 (Or.inl rfl) rfl ⟨rfl, rfl⟩ ?_
    refine tr_aload_n (pc := 75) 0 k_sr_begin_75 rfl rfl ?_
    refine tr_aload_n (pc := 76) 0 k_sr_begin_76 rfl rfl ?_
    refine tr_getIx (pc := 77) k_sr_begin_77 fl_sr_85 rfl (hI_nk (by decide)) ?_
    refine tr_aload_n (pc := 80) 2 k_sr_begin_80 rfl rfl ?_
    refine tr_getIx (pc := 81) k_sr_begin_81 fl_sr_96 rfl (hI_nf (by decide)) ?_
    refine tr_min (pc := 84) k_sr_begin_84 ml_sr_102 (by omega) (Nat.le_of_ble_eq_true rfl) ?_
    refine tr_putI (pc := 87) k_sr_begin_87 fl_sr_85 (Or.inl rfl) rfl ⟨rfl, rfl⟩ ?_
    refine tr_iinc (pc := 90) (v := (x1 + 1)) k_sr_begin_90 rfl rfl (by decide) rfl ?_
    show mT g me_sr_begin (d + 4) 0 0 93 [some (vr 3 0), some (vi (x1 + 1)), some (vr 6 n1)] [] (setI (setI h 6 n1 9 (hI h 6 n1 5)) 3 0 6 (if (hI h 6 n1 5) < (hI h 3 0 6) then (hI h 6 n1 5) else (hI h 3 0 6))) _
    refine tr_goto (pc := 93) 38 k_sr_begin_93 (by decide) ?_
    exact hv
theorem v_sr_lookAtRises_0 {g : mG} {d : Nat} (a1 : Nat) (x2 : Int32) {h : mH} {Q : Option mV → mH → Prop} (hsk : mSK h) (hv : mT g me_sr_lookAtRises (d + 4) 0 0 2 [some (vr 3 0), some (vr 9 a1), some (vi x2), some (vi (0 : Int32)), none, none] [] h Q) : mT g me_sr_lookAtRises (d + 4) 0 0 0 [some (vr 3 0), some (vr 9 a1), some (vi x2), none, none, none] [] h Q := by
  refine tr_iconst (pc := 0) (v := 0) k_sr_lookAtRises_0 (by decide) ?_
  refine tr_istore_n (pc := 1) 3 k_sr_lookAtRises_1 rfl (by decide) rfl ?_
  show mT g me_sr_lookAtRises (d + 4) 0 0 2 [some (vr 3 0), some (vr 9 a1), some (vi x2), some (vi (0 : Int32)), none, none] [] h _
  exact hv
theorem v_sr_lookAtRises_2 {g : mG} {d : Nat} (a1 : Nat) (x2 : Int32) (x3 : Int32) (o4 : Option mV) (o5 : Option mV) {h : mH} {Q : Option mV → mH → Prop} (hsk : mSK h) (hv : (((hI h 2 2 1) ≤ x3 → Q (some (vn)) h) ∧ (¬ (hI h 2 2 1) ≤ x3 → (∃ n1, mGet h 2 x3 (some (8, n1)) ∧ ((((hI h 9 a1 0) &&& (hI h 8 n1 1)) = 0 → mT g me_sr_lookAtRises (d + 4) 0 0 2 [some (vr 3 0), some (vr 9 a1), some (vi x2), some (vi (x3 + 1)), some (vr 8 n1), o5] [] h Q) ∧ (¬ ((hI h 9 a1 0) &&& (hI h 8 n1 1)) = 0 → (∃ n2, hP h 8 n1 2 = some (7, n2) ∧ (∃ n4, hP h 7 n2 1 = some (6, n4) ∧ mT g me_je_riseAmong (d + 3) 0 0 0 [some (vr 8 n1), some (vi (hI h 9 a1 0)), some (vi (hI h 6 n4 9))] [] h (fun v h6 => ∃ y7, v = some (vi y7) ∧ mSK h6 ∧ ((x2 = 0 → mT g me_sr_lookAtRises (d + 4) 0 0 2 [some (vr 3 0), some (vr 9 a1), some (vi x2), some (vi (x3 + 1)), some (vr 8 n1), some (vi y7)] [] (setI h6 3 0 7 (if y7 < (hI h6 3 0 7) then y7 else (hI h6 3 0 7))) Q) ∧ (¬ x2 = 0 → (((hI h6 9 a1 3) ≤ y7 → mT g me_sr_lookAtRises (d + 4) 0 0 2 [some (vr 3 0), some (vr 9 a1), some (vi x2), some (vi (x3 + 1)), some (vr 8 n1), some (vi y7)] [] (setI h6 3 0 7 (if y7 < (hI h6 3 0 7) then y7 else (hI h6 3 0 7))) Q) ∧ (¬ (hI h6 9 a1 3) ≤ y7 → Q (some (vr 8 n1)) (setI h6 3 0 7 (if y7 < (hI h6 3 0 7) then y7 else (hI h6 3 0 7)))))))))))))))) : mT g me_sr_lookAtRises (d + 4) 0 0 2 [some (vr 3 0), some (vr 9 a1), some (vi x2), some (vi x3), o4, o5] [] h Q := by
  refine tr_iload_n (pc := 2) 3 k_sr_lookAtRises_2 rfl rfl ?_
  refine tr_aload_n (pc := 3) 0 k_sr_lookAtRises_3 rfl rfl ?_
  refine tr_getP (pc := 4) k_sr_lookAtRises_4 fl_sr_9 rfl (Eq.trans rfl (hsk.1 3 0 _ rfl)) ?_
  refine tr_getP (pc := 7) k_sr_lookAtRises_7 fl_sr_108 rfl (Eq.trans rfl (hsk.1 1 2 _ rfl)) ?_
  refine tr_callV (pc := 10) (d' := d + 3) (mc' := 0) (ms' := 0) [] k_sr_lookAtRises_10 ca_al_size ml_sr_35 ii_al_size ⟨by decide, rfl⟩ pa_al_size (by omega) (by omega) (by omega) rfl (Nat.le_of_ble_eq_true rfl) (Nat.le_of_ble_eq_true rfl) (Qk := fun v h9 => mT g me_sr_lookAtRises (d + 4) 0 0 13 [some (vr 3 0), some (vr 9 a1), some (vi x2), some (vi x3), o4, o5] (v.toList ++ [vi x3]) h9 _) ?_ (fun _ _ z => z)
  show mT g me_al_size (d + 3) 0 0 0 [some (vr 2 2)] [] h _
  refine tr_aload_n (pc := 0) 0 k_al_size_0 rfl rfl ?_
  refine tr_getIx (pc := 1) k_al_size_1 fl_al_48 rfl rfl ?_
  refine tr_ireturn (pc := 4) k_al_size_4 rfl rfl ?_
  show mT g me_sr_lookAtRises (d + 4) 0 0 13 [some (vr 3 0), some (vr 9 a1), some (vi x2), some (vi x3), o4, o5] [vi (hI h 2 2 1), vi x3] h _
  refine tr_icmp_ge (pc := 13) 101 k_sr_lookAtRises_13 (by decide) (fun q => ?_) (fun q => ?_)
  · replace hv := hv.1 q
    refine tr_null (pc := 101) k_sr_lookAtRises_101 ?_
    refine tr_areturn (pc := 102) k_sr_lookAtRises_102 rfl rfl ?_
    exact hv
  · replace hv := hv.2 q
    refine tr_aload_n (pc := 16) 0 k_sr_lookAtRises_16 rfl rfl ?_
    refine tr_getP (pc := 17) k_sr_lookAtRises_17 fl_sr_9 rfl (Eq.trans rfl (hsk.1 3 0 _ rfl)) ?_
    refine tr_getP (pc := 20) k_sr_lookAtRises_20 fl_sr_108 rfl (Eq.trans rfl (hsk.1 1 2 _ rfl)) ?_
    refine tr_iload_n (pc := 23) 3 k_sr_lookAtRises_23 rfl rfl ?_
    obtain ⟨n1, hg, hv⟩ := hv
    refine tr_alget (pc := 24) k_sr_lookAtRises_24 ml_sr_38 (by omega) (Nat.le_of_ble_eq_true rfl) (mGet.up hg rfl rfl) ?_
    refine tr_cast (pc := 27) k_sr_lookAtRises_27 (by decide) cl_sr_71 ?_
    refine tr_astore (pc := 30) k_sr_lookAtRises_30 (by decide) rfl ?_
    show mT g me_sr_lookAtRises (d + 4) 0 0 32 [some (vr 3 0), some (vr 9 a1), some (vi x2), some (vi x3), some (vr 8 n1), o5] [] h _
    refine tr_aload (pc := 32) k_sr_lookAtRises_32 rfl ?_
    refine tr_aload_n (pc := 34) 1 k_sr_lookAtRises_34 rfl rfl ?_
    refine tr_getIx (pc := 35) k_sr_lookAtRises_35 fl_sr_53 rfl rfl ?_
    refine tr_callV (pc := 38) (d' := d + 3) (mc' := 0) (ms' := 0) [vi (hI h 9 a1 0)] k_sr_lookAtRises_38 ca_je_isIn ml_sr_111 ii_je_isIn ⟨by decide, rfl⟩ pa_je_isIn (by omega) (by omega) (by omega) rfl (Nat.le_of_ble_eq_true rfl) (Nat.le_of_ble_eq_true rfl) (Qk := fun v h9 => mT g me_sr_lookAtRises (d + 4) 0 0 41 [some (vr 3 0), some (vr 9 a1), some (vi x2), some (vi x3), some (vr 8 n1), o5] (v.toList ++ []) h9 _) ?_ (fun _ _ z => z)
    show mT g me_je_isIn (d + 3) 0 0 0 [some (vr 8 n1), some (vi (hI h 9 a1 0))] [] h _
    refine tr_iload_n (pc := 0) 1 k_je_isIn_0 rfl rfl ?_
    refine tr_aload_n (pc := 1) 0 k_je_isIn_1 rfl rfl ?_
    refine tr_getIx (pc := 2) k_je_isIn_2 fl_je_13 rfl rfl ?_
    refine tr_iand (pc := 5) k_je_isIn_5 ?_
    refine tr_if_eq (pc := 6) 13 k_je_isIn_6 (by decide) (fun q => ?_) (fun q => ?_)
    · replace hv := hv.1 q
      refine tr_iconst (pc := 13) (v := 0) k_je_isIn_13 (by decide) ?_
      refine tr_ireturn (pc := 14) k_je_isIn_14 rfl rfl ?_
      show mT g me_sr_lookAtRises (d + 4) 0 0 41 [some (vr 3 0), some (vr 9 a1), some (vi x2), some (vi x3), some (vr 8 n1), o5] [vi (0 : Int32)] h _
      refine tr_if_eq (pc := 41) 95 k_sr_lookAtRises_41 (by decide) (fun _ => ?_) (fun q => absurd q (by decide))
      refine tr_iinc (pc := 95) (v := (x3 + 1)) k_sr_lookAtRises_95 rfl rfl (by decide) rfl ?_
      show mT g me_sr_lookAtRises (d + 4) 0 0 98 [some (vr 3 0), some (vr 9 a1), some (vi x2), some (vi (x3 + 1)), some (vr 8 n1), o5] [] h _
      refine tr_goto (pc := 98) 2 k_sr_lookAtRises_98 (by decide) ?_
      exact hv
    · replace hv := hv.2 q
      refine tr_iconst (pc := 9) (v := 1) k_je_isIn_9 (by decide) ?_
      refine tr_goto (pc := 10) 14 k_je_isIn_10 (by decide) ?_
      refine tr_ireturn (pc := 14) k_je_isIn_14 rfl rfl ?_
      show mT g me_sr_lookAtRises (d + 4) 0 0 41 [some (vr 3 0), some (vr 9 a1), some (vi x2), some (vi x3), some (vr 8 n1), o5] [vi (1 : Int32)] h _
      refine tr_if_eq (pc := 41) 95 k_sr_lookAtRises_41 (by decide) (fun q => absurd q (by decide)) (fun _ => ?_)
      refine tr_aload (pc := 44) k_sr_lookAtRises_44 rfl ?_
      refine tr_aload_n (pc := 46) 1 k_sr_lookAtRises_46 rfl rfl ?_
      refine tr_getIx (pc := 47) k_sr_lookAtRises_47 fl_sr_53 rfl rfl ?_
      refine tr_aload (pc := 50) k_sr_lookAtRises_50 rfl ?_
      obtain ⟨n2, e3, hv⟩ := hv
      refine tr_getP (pc := 52) k_sr_lookAtRises_52 fl_sr_115 rfl (Eq.trans rfl e3) ?_
      obtain ⟨n4, e5, hv⟩ := hv
      refine tr_getP (pc := 55) k_sr_lookAtRises_55 fl_sr_119 rfl (Eq.trans rfl e5) ?_
      refine tr_getIx (pc := 58) k_sr_lookAtRises_58 fl_sr_99 rfl rfl ?_
      have hT := hv
      clear hv
      refine tr_callV (pc := 61) (d' := d + 3) (mc' := 0) (ms' := 0) [vi (hI h 9 a1 0), vi (hI h 6 n4 9)] k_sr_lookAtRises_61 ca_je_riseAmong ml_sr_125 ii_je_riseAmong ⟨by decide, rfl⟩ pa_je_riseAmong (by omega) (by omega) (by omega) rfl (Nat.le_of_ble_eq_true rfl) (Nat.le_of_ble_eq_true rfl) hT (fun v h9 hv => ?_)
      clear hT
      obtain ⟨y7, rfl, hv⟩ := hv
      obtain ⟨h6, eh⟩ : ∃ z, z = h9 := ⟨_, rfl⟩
      subst eh
      obtain ⟨hskh6, hv⟩ := hv
      show mT g me_sr_lookAtRises (d + 4) 0 0 64 [some (vr 3 0), some (vr 9 a1), some (vi x2), some (vi x3), some (vr 8 n1), o5] [vi y7] h6 _
      refine tr_istore (pc := 64) k_sr_lookAtRises_64 (by decide) rfl ?_
      show mT g me_sr_lookAtRises (d + 4) 0 0 66 [some (vr 3 0), some (vr 9 a1), some (vi x2), some (vi x3), some (vr 8 n1), some (vi y7)] [] h6 _
      refine tr_aload_n (pc := 66) 0 k_sr_lookAtRises_66 rfl rfl ?_
      refine tr_aload_n (pc := 67) 0 k_sr_lookAtRises_67 rfl rfl ?_
      refine tr_getIx (pc := 68) k_sr_lookAtRises_68 fl_sr_88 rfl rfl ?_
      refine tr_iload (pc := 71) k_sr_lookAtRises_71 rfl ?_
      refine tr_min (pc := 73) k_sr_lookAtRises_73 ml_sr_102 (by omega) (Nat.le_of_ble_eq_true rfl) ?_
      refine tr_putI (pc := 76) k_sr_lookAtRises_76 fl_sr_88 (Or.inl rfl) rfl ⟨rfl, rfl⟩ ?_
      refine tr_iload_n (pc := 79) 2 k_sr_lookAtRises_79 rfl rfl ?_
      refine tr_if_eq (pc := 80) 95 k_sr_lookAtRises_80 (by decide) (fun q => ?_) (fun q => ?_)
      · replace hv := hv.1 q
        refine tr_iinc (pc := 95) (v := (x3 + 1)) k_sr_lookAtRises_95 rfl rfl (by decide) rfl ?_
        show mT g me_sr_lookAtRises (d + 4) 0 0 98 [some (vr 3 0), some (vr 9 a1), some (vi x2), some (vi (x3 + 1)), some (vr 8 n1), some (vi y7)] [] (setI h6 3 0 7 (if y7 < (hI h6 3 0 7) then y7 else (hI h6 3 0 7))) _
        refine tr_goto (pc := 98) 2 k_sr_lookAtRises_98 (by decide) ?_
        exact hv
      · replace hv := hv.2 q
        refine tr_iload (pc := 83) k_sr_lookAtRises_83 rfl ?_
        refine tr_aload_n (pc := 85) 1 k_sr_lookAtRises_85 rfl rfl ?_
        refine tr_getIx (pc := 86) k_sr_lookAtRises_86 fl_sr_128 rfl (hI_nk (by decide)) ?_
        refine tr_icmp_ge (pc := 89) 95 k_sr_lookAtRises_89 (by decide) (fun q => ?_) (fun q => ?_)
        · replace hv := hv.1 q
          refine tr_iinc (pc := 95) (v := (x3 + 1)) k_sr_lookAtRises_95 rfl rfl (by decide) rfl ?_
          show mT g me_sr_lookAtRises (d + 4) 0 0 98 [some (vr 3 0), some (vr 9 a1), some (vi x2), some (vi (x3 + 1)), some (vr 8 n1), some (vi y7)] [] (setI h6 3 0 7 (if y7 < (hI h6 3 0 7) then y7 else (hI h6 3 0 7))) _
          refine tr_goto (pc := 98) 2 k_sr_lookAtRises_98 (by decide) ?_
          exact hv
        · replace hv := hv.2 q
          refine tr_aload (pc := 92) k_sr_lookAtRises_92 rfl ?_
          refine tr_areturn (pc := 94) k_sr_lookAtRises_94 rfl rfl ?_
          exact hv
theorem v_sr_passMinute_0 {g : mG} {d : Nat}  {h : mH} {Q : Option mV → mH → Prop} (hsk : mSK h) (hv : mT g me_sr_passMinute (d + 4) 0 0 2 [some (vr 3 0), some (vi (0 : Int32)), none, none] [] h Q) : mT g me_sr_passMinute (d + 4) 0 0 0 [some (vr 3 0), none, none, none] [] h Q := by
  refine tr_iconst (pc := 0) (v := 0) k_sr_passMinute_0 (by decide) ?_
  refine tr_istore_n (pc := 1) 1 k_sr_passMinute_1 rfl (by decide) rfl ?_
  show mT g me_sr_passMinute (d + 4) 0 0 2 [some (vr 3 0), some (vi (0 : Int32)), none, none] [] h _
  exact hv
theorem v_sr_passMinute_2 {g : mG} {d : Nat} (x1 : Int32) (o2 : Option mV) (o3 : Option mV) {h : mH} {Q : Option mV → mH → Prop} (hsk : mSK h) (hv : (((hI h 2 0 1) ≤ x1 → Q none h) ∧ (¬ (hI h 2 0 1) ≤ x1 → (∃ n1, mGet h 0 x1 (some (6, n1)) ∧ mT g me_sr_passMinute (d + 4) 0 0 2 [some (vr 3 0), some (vi (x1 + 1)), some (vr 6 n1), some (vi (if ((hI h 6 n1 2) * (hI h 6 n1 3)) < ((hI h 6 n1 9) + (hI h 6 n1 4)) then ((hI h 6 n1 2) * (hI h 6 n1 3)) else ((hI h 6 n1 9) + (hI h 6 n1 4))))] [] (setI (setI (setI h 6 n1 9 (if ((if ((hI h 6 n1 2) * (hI h 6 n1 3)) < ((hI h 6 n1 9) + (hI h 6 n1 4)) then ((hI h 6 n1 2) * (hI h 6 n1 3)) else ((hI h 6 n1 9) + (hI h 6 n1 4))) - (hI h 6 n1 8)) < (0 : Int32) then (0 : Int32) else ((if ((hI h 6 n1 2) * (hI h 6 n1 3)) < ((hI h 6 n1 9) + (hI h 6 n1 4)) then ((hI h 6 n1 2) * (hI h 6 n1 3)) else ((hI h 6 n1 9) + (hI h 6 n1 4))) - (hI h 6 n1 8)))) 3 0 5 ((hI h 3 0 5) + ((if ((hI h 6 n1 2) * (hI h 6 n1 3)) < ((hI h 6 n1 9) + (hI h 6 n1 4)) then ((hI h 6 n1 2) * (hI h 6 n1 3)) else ((hI h 6 n1 9) + (hI h 6 n1 4))) - (if ((if ((hI h 6 n1 2) * (hI h 6 n1 3)) < ((hI h 6 n1 9) + (hI h 6 n1 4)) then ((hI h 6 n1 2) * (hI h 6 n1 3)) else ((hI h 6 n1 9) + (hI h 6 n1 4))) - (hI h 6 n1 8)) < (0 : Int32) then (0 : Int32) else ((if ((hI h 6 n1 2) * (hI h 6 n1 3)) < ((hI h 6 n1 9) + (hI h 6 n1 4)) then ((hI h 6 n1 2) * (hI h 6 n1 3)) else ((hI h 6 n1 9) + (hI h 6 n1 4))) - (hI h 6 n1 8)))))) 3 0 6 (if (if ((if ((hI h 6 n1 2) * (hI h 6 n1 3)) < ((hI h 6 n1 9) + (hI h 6 n1 4)) then ((hI h 6 n1 2) * (hI h 6 n1 3)) else ((hI h 6 n1 9) + (hI h 6 n1 4))) - (hI h 6 n1 8)) < (0 : Int32) then (0 : Int32) else ((if ((hI h 6 n1 2) * (hI h 6 n1 3)) < ((hI h 6 n1 9) + (hI h 6 n1 4)) then ((hI h 6 n1 2) * (hI h 6 n1 3)) else ((hI h 6 n1 9) + (hI h 6 n1 4))) - (hI h 6 n1 8))) < (hI h 3 0 6) then (if ((if ((hI h 6 n1 2) * (hI h 6 n1 3)) < ((hI h 6 n1 9) + (hI h 6 n1 4)) then ((hI h 6 n1 2) * (hI h 6 n1 3)) else ((hI h 6 n1 9) + (hI h 6 n1 4))) - (hI h 6 n1 8)) < (0 : Int32) then (0 : Int32) else ((if ((hI h 6 n1 2) * (hI h 6 n1 3)) < ((hI h 6 n1 9) + (hI h 6 n1 4)) then ((hI h 6 n1 2) * (hI h 6 n1 3)) else ((hI h 6 n1 9) + (hI h 6 n1 4))) - (hI h 6 n1 8))) else (hI h 3 0 6))) Q)))) : mT g me_sr_passMinute (d + 4) 0 0 2 [some (vr 3 0), some (vi x1), o2, o3] [] h Q := by
  refine tr_iload_n (pc := 2) 1 k_sr_passMinute_2 rfl rfl ?_
  refine tr_aload_n (pc := 3) 0 k_sr_passMinute_3 rfl rfl ?_
  refine tr_getP (pc := 4) k_sr_passMinute_4 fl_sr_9 rfl (Eq.trans rfl (hsk.1 3 0 _ rfl)) ?_
  refine tr_getP (pc := 7) k_sr_passMinute_7 fl_sr_91 rfl (Eq.trans rfl (hsk.1 1 0 _ rfl)) ?_
  refine tr_callV (pc := 10) (d' := d + 3) (mc' := 0) (ms' := 0) [] k_sr_passMinute_10 ca_al_size ml_sr_35 ii_al_size ⟨by decide, rfl⟩ pa_al_size (by omega) (by omega) (by omega) rfl (Nat.le_of_ble_eq_true rfl) (Nat.le_of_ble_eq_true rfl) (Qk := fun v h9 => mT g me_sr_passMinute (d + 4) 0 0 13 [some (vr 3 0), some (vi x1), o2, o3] (v.toList ++ [vi x1]) h9 _) ?_ (fun _ _ z => z)
  show mT g me_al_size (d + 3) 0 0 0 [some (vr 2 0)] [] h _
  refine tr_aload_n (pc := 0) 0 k_al_size_0 rfl rfl ?_
  refine tr_getIx (pc := 1) k_al_size_1 fl_al_48 rfl rfl ?_
  refine tr_ireturn (pc := 4) k_al_size_4 rfl rfl ?_
  show mT g me_sr_passMinute (d + 4) 0 0 13 [some (vr 3 0), some (vi x1), o2, o3] [vi (hI h 2 0 1), vi x1] h _
  refine tr_icmp_ge (pc := 13) 88 k_sr_passMinute_13 (by decide) (fun q => ?_) (fun q => ?_)
  · replace hv := hv.1 q
    refine tr_return (pc := 88) k_sr_passMinute_88 rfl ?_
    exact hv
  · replace hv := hv.2 q
    refine tr_aload_n (pc := 16) 0 k_sr_passMinute_16 rfl rfl ?_
    refine tr_getP (pc := 17) k_sr_passMinute_17 fl_sr_9 rfl (Eq.trans rfl (hsk.1 3 0 _ rfl)) ?_
    refine tr_getP (pc := 20) k_sr_passMinute_20 fl_sr_91 rfl (Eq.trans rfl (hsk.1 1 0 _ rfl)) ?_
    refine tr_iload_n (pc := 23) 1 k_sr_passMinute_23 rfl rfl ?_
    obtain ⟨n1, hg, hv⟩ := hv
    refine tr_alget (pc := 24) k_sr_passMinute_24 ml_sr_38 (by omega) (Nat.le_of_ble_eq_true rfl) (mGet.up hg rfl rfl) ?_
    refine tr_cast (pc := 27) k_sr_passMinute_27 (by decide) cl_sr_94 ?_
    refine tr_astore_n (pc := 30) 2 k_sr_passMinute_30 rfl (by decide) rfl ?_
    show mT g me_sr_passMinute (d + 4) 0 0 31 [some (vr 3 0), some (vi x1), some (vr 6 n1), o3] [] h _
    refine tr_aload_n (pc := 31) 2 k_sr_passMinute_31 rfl rfl ?_
    refine tr_aload_n (pc := 32) 2 k_sr_passMinute_32 rfl rfl ?_
    refine tr_getIx (pc := 33) k_sr_passMinute_33 fl_sr_99 rfl rfl ?_
    refine tr_callV (pc := 36) (d' := d + 3) (mc' := 0) (ms' := 0) [vi (hI h 6 n1 9)] k_sr_passMinute_36 ca_tk_withSpring ml_sr_131 ii_tk_withSpring ⟨by decide, rfl⟩ pa_tk_withSpring (by omega) (by omega) (by omega) rfl (Nat.le_of_ble_eq_true rfl) (Nat.le_of_ble_eq_true rfl) (Qk := fun v h9 => mT g me_sr_passMinute (d + 4) 0 0 39 [some (vr 3 0), some (vi x1), some (vr 6 n1), o3] (v.toList ++ []) h9 _) ?_ (fun _ _ z => z)
    show mT g me_tk_withSpring (d + 3) 0 0 0 [some (vr 6 n1), some (vi (hI h 6 n1 9))] [] h _
    refine tr_iload_n (pc := 0) 1 k_tk_withSpring_0 rfl rfl ?_
    refine tr_aload_n (pc := 1) 0 k_tk_withSpring_1 rfl rfl ?_
    refine tr_getIx (pc := 2) k_tk_withSpring_2 fl_tk_22 rfl rfl ?_
    refine tr_iadd (pc := 5) k_tk_withSpring_5 ?_
    refine tr_aload_n (pc := 6) 0 k_tk_withSpring_6 rfl rfl ?_
    refine tr_callV (pc := 7) (d' := d + 2) (mc' := 0) (ms' := 0) [] k_tk_withSpring_7 ca_tk_capacity ml_tk_28 ii_tk_capacity ⟨by decide, rfl⟩ pa_tk_capacity (by omega) (by omega) (by omega) rfl (Nat.le_of_ble_eq_true rfl) (Nat.le_of_ble_eq_true rfl) (Qk := fun v h9 => mT g me_tk_withSpring (d + 3) 0 0 10 [some (vr 6 n1), some (vi (hI h 6 n1 9))] (v.toList ++ [vi ((hI h 6 n1 9) + (hI h 6 n1 4))]) h9 _) ?_ (fun _ _ z => z)
    show mT g me_tk_capacity (d + 2) 0 0 0 [some (vr 6 n1)] [] h _
    refine tr_aload_n (pc := 0) 0 k_tk_capacity_0 rfl rfl ?_
    refine tr_getIx (pc := 1) k_tk_capacity_1 fl_tk_16 rfl rfl ?_
    refine tr_aload_n (pc := 4) 0 k_tk_capacity_4 rfl rfl ?_
    refine tr_getIx (pc := 5) k_tk_capacity_5 fl_tk_19 rfl rfl ?_
    refine tr_imul (pc := 8) k_tk_capacity_8 ?_
    refine tr_ireturn (pc := 9) k_tk_capacity_9 rfl rfl ?_
    show mT g me_tk_withSpring (d + 3) 0 0 10 [some (vr 6 n1), some (vi (hI h 6 n1 9))] [vi ((hI h 6 n1 2) * (hI h 6 n1 3)), vi ((hI h 6 n1 9) + (hI h 6 n1 4))] h _
    refine tr_min (pc := 10) k_tk_withSpring_10 ml_tk_32 (by omega) (Nat.le_of_ble_eq_true rfl) ?_
    refine tr_ireturn (pc := 13) k_tk_withSpring_13 rfl rfl ?_
    show mT g me_sr_passMinute (d + 4) 0 0 39 [some (vr 3 0), some (vi x1), some (vr 6 n1), o3] [vi (if ((hI h 6 n1 2) * (hI h 6 n1 3)) < ((hI h 6 n1 9) + (hI h 6 n1 4)) then ((hI h 6 n1 2) * (hI h 6 n1 3)) else ((hI h 6 n1 9) + (hI h 6 n1 4)))] h _
    refine tr_istore_n (pc := 39) 3 k_sr_passMinute_39 rfl (by decide) rfl ?_
    show mT g me_sr_passMinute (d + 4) 0 0 40 [some (vr 3 0), some (vi x1), some (vr 6 n1), some (vi (if ((hI h 6 n1 2) * (hI h 6 n1 3)) < ((hI h 6 n1 9) + (hI h 6 n1 4)) then ((hI h 6 n1 2) * (hI h 6 n1 3)) else ((hI h 6 n1 9) + (hI h 6 n1 4))))] [] h _
    refine tr_aload_n (pc := 40) 2 k_sr_passMinute_40 rfl rfl ?_
    refine tr_aload_n (pc := 41) 2 k_sr_passMinute_41 rfl rfl ?_
    refine tr_aload_n (pc := 42) 2 k_sr_passMinute_42 rfl rfl ?_
    refine tr_getIx (pc := 43) k_sr_passMinute_43 fl_sr_99 rfl rfl ?_
    refine tr_callV (pc := 46) (d' := d + 3) (mc' := 0) (ms' := 0) [vi (hI h 6 n1 9)] k_sr_passMinute_46 ca_tk_waterAfterMinute ml_sr_135 ii_tk_waterAfterMinute ⟨by decide, rfl⟩ pa_tk_waterAfterMinute (by omega) (by omega) (by omega) rfl (Nat.le_of_ble_eq_true rfl) (Nat.le_of_ble_eq_true rfl) (Qk := fun v h9 => mT g me_sr_passMinute (d + 4) 0 0 49 [some (vr 3 0), some (vi x1), some (vr 6 n1), some (vi (if ((hI h 6 n1 2) * (hI h 6 n1 3)) < ((hI h 6 n1 9) + (hI h 6 n1 4)) then ((hI h 6 n1 2) * (hI h 6 n1 3)) else ((hI h 6 n1 9) + (hI h 6 n1 4))))] (v.toList ++ [vr 6 n1]) h9 _) ?_ (fun _ _ z => z)
    show mT g me_tk_waterAfterMinute (d + 3) 0 0 0 [some (vr 6 n1), some (vi (hI h 6 n1 9))] [] h _
    refine tr_aload_n (pc := 0) 0 k_tk_waterAfterMinute_0 rfl rfl ?_
    refine tr_iload_n (pc := 1) 1 k_tk_waterAfterMinute_1 rfl rfl ?_
    refine tr_callV (pc := 2) (d' := d + 2) (mc' := 0) (ms' := 0) [vi (hI h 6 n1 9)] k_tk_waterAfterMinute_2 ca_tk_withSpring ml_tk_38 ii_tk_withSpring ⟨by decide, rfl⟩ pa_tk_withSpring (by omega) (by omega) (by omega) rfl (Nat.le_of_ble_eq_true rfl) (Nat.le_of_ble_eq_true rfl) (Qk := fun v h9 => mT g me_tk_waterAfterMinute (d + 3) 0 0 5 [some (vr 6 n1), some (vi (hI h 6 n1 9))] (v.toList ++ []) h9 _) ?_ (fun _ _ z => z)
    show mT g me_tk_withSpring (d + 2) 0 0 0 [some (vr 6 n1), some (vi (hI h 6 n1 9))] [] h _
    refine tr_iload_n (pc := 0) 1 k_tk_withSpring_0 rfl rfl ?_
    refine tr_aload_n (pc := 1) 0 k_tk_withSpring_1 rfl rfl ?_
    refine tr_getIx (pc := 2) k_tk_withSpring_2 fl_tk_22 rfl rfl ?_
    refine tr_iadd (pc := 5) k_tk_withSpring_5 ?_
    refine tr_aload_n (pc := 6) 0 k_tk_withSpring_6 rfl rfl ?_
    refine tr_callV (pc := 7) (d' := d + 1) (mc' := 0) (ms' := 0) [] k_tk_withSpring_7 ca_tk_capacity ml_tk_28 ii_tk_capacity ⟨by decide, rfl⟩ pa_tk_capacity (by omega) (by omega) (by omega) rfl (Nat.le_of_ble_eq_true rfl) (Nat.le_of_ble_eq_true rfl) (Qk := fun v h9 => mT g me_tk_withSpring (d + 2) 0 0 10 [some (vr 6 n1), some (vi (hI h 6 n1 9))] (v.toList ++ [vi ((hI h 6 n1 9) + (hI h 6 n1 4))]) h9 _) ?_ (fun _ _ z => z)
    show mT g me_tk_capacity (d + 1) 0 0 0 [some (vr 6 n1)] [] h _
    refine tr_aload_n (pc := 0) 0 k_tk_capacity_0 rfl rfl ?_
    refine tr_getIx (pc := 1) k_tk_capacity_1 fl_tk_16 rfl rfl ?_
    refine tr_aload_n (pc := 4) 0 k_tk_capacity_4 rfl rfl ?_
    refine tr_getIx (pc := 5) k_tk_capacity_5 fl_tk_19 rfl rfl ?_
    refine tr_imul (pc := 8) k_tk_capacity_8 ?_
    refine tr_ireturn (pc := 9) k_tk_capacity_9 rfl rfl ?_
    show mT g me_tk_withSpring (d + 2) 0 0 10 [some (vr 6 n1), some (vi (hI h 6 n1 9))] [vi ((hI h 6 n1 2) * (hI h 6 n1 3)), vi ((hI h 6 n1 9) + (hI h 6 n1 4))] h _
    refine tr_min (pc := 10) k_tk_withSpring_10 ml_tk_32 (by omega) (Nat.le_of_ble_eq_true rfl) ?_
    refine tr_ireturn (pc := 13) k_tk_withSpring_13 rfl rfl ?_
    show mT g me_tk_waterAfterMinute (d + 3) 0 0 5 [some (vr 6 n1), some (vi (hI h 6 n1 9))] [vi (if ((hI h 6 n1 2) * (hI h 6 n1 3)) < ((hI h 6 n1 9) + (hI h 6 n1 4)) then ((hI h 6 n1 2) * (hI h 6 n1 3)) else ((hI h 6 n1 9) + (hI h 6 n1 4)))] h _
    refine tr_aload_n (pc := 5) 0 k_tk_waterAfterMinute_5 rfl rfl ?_
    refine tr_getIx (pc := 6) k_tk_waterAfterMinute_6 fl_tk_42 rfl rfl ?_
    refine tr_isub (pc := 9) k_tk_waterAfterMinute_9 ?_
    refine tr_iconst (pc := 10) (v := 0) k_tk_waterAfterMinute_10 (by decide) ?_
    refine tr_max (pc := 11) k_tk_waterAfterMinute_11 ml_tk_45 (by omega) (Nat.le_of_ble_eq_true rfl) ?_
    refine tr_ireturn (pc := 14) k_tk_waterAfterMinute_14 rfl rfl ?_
    show mT g me_sr_passMinute (d + 4) 0 0 49 [some (vr 3 0), some (vi x1), some (vr 6 n1), some (vi (if ((hI h 6 n1 2) * (hI h 6 n1 3)) < ((hI h 6 n1 9) + (hI h 6 n1 4)) then ((hI h 6 n1 2) * (hI h 6 n1 3)) else ((hI h 6 n1 9) + (hI h 6 n1 4))))] [vi (if ((if ((hI h 6 n1 2) * (hI h 6 n1 3)) < ((hI h 6 n1 9) + (hI h 6 n1 4)) then ((hI h 6 n1 2) * (hI h 6 n1 3)) else ((hI h 6 n1 9) + (hI h 6 n1 4))) - (hI h 6 n1 8)) < (0 : Int32) then (0 : Int32) else ((if ((hI h 6 n1 2) * (hI h 6 n1 3)) < ((hI h 6 n1 9) + (hI h 6 n1 4)) then ((hI h 6 n1 2) * (hI h 6 n1 3)) else ((hI h 6 n1 9) + (hI h 6 n1 4))) - (hI h 6 n1 8))), vr 6 n1] h _
    refine tr_putI (pc := 49) k_sr_passMinute_49 fl_sr_99 (Or.inl rfl) rfl ⟨rfl, rfl⟩ ?_
    refine tr_aload_n (pc := 52) 0 k_sr_passMinute_52 rfl rfl ?_
    refine tr_dup (pc := 53) k_sr_passMinute_53 rfl ?_
    refine tr_getIx (pc := 54) k_sr_passMinute_54 fl_sr_81 rfl (hI_nk (by decide)) ?_
    refine tr_iload_n (pc := 57) 3 k_sr_passMinute_57 rfl rfl ?_
    refine tr_aload_n (pc := 58) 2 k_sr_passMinute_58 rfl rfl ?_
    refine tr_getIx (pc := 59) k_sr_passMinute_59 fl_sr_99 rfl (hI_eq) ?_
    refine tr_isub (pc := 62) k_sr_passMinute_62 ?_
    refine tr_iadd (pc := 63) k_sr_passMinute_63 ?_
    refine tr_putI (pc := 64) k_sr_passMinute_64 fl_sr_81 (Or.inl rfl) rfl ⟨rfl, rfl⟩ ?_
    refine tr_aload_n (pc := 67) 0 k_sr_passMinute_67 rfl rfl ?_
    refine tr_aload_n (pc := 68) 0 k_sr_passMinute_68 rfl rfl ?_
    refine tr_getIx (pc := 69) k_sr_passMinute_69 fl_sr_85 rfl (Eq.trans (hI_nf (by decide)) (hI_nk (by decide))) ?_
    refine tr_aload_n (pc := 72) 2 k_sr_passMinute_72 rfl rfl ?_
    refine tr_getIx (pc := 73) k_sr_passMinute_73 fl_sr_99 rfl (Eq.trans (hI_nk (by decide)) (hI_eq)) ?_
    refine tr_min (pc := 76) k_sr_passMinute_76 ml_sr_102 (by omega) (Nat.le_of_ble_eq_true rfl) ?_
    refine tr_putI (pc := 79) k_sr_passMinute_79 fl_sr_85 (Or.inl rfl) rfl ⟨rfl, rfl⟩ ?_
    refine tr_iinc (pc := 82) (v := (x1 + 1)) k_sr_passMinute_82 rfl rfl (by decide) rfl ?_
    show mT g me_sr_passMinute (d + 4) 0 0 85 [some (vr 3 0), some (vi (x1 + 1)), some (vr 6 n1), some (vi (if ((hI h 6 n1 2) * (hI h 6 n1 3)) < ((hI h 6 n1 9) + (hI h 6 n1 4)) then ((hI h 6 n1 2) * (hI h 6 n1 3)) else ((hI h 6 n1 9) + (hI h 6 n1 4))))] [] (setI (setI (setI h 6 n1 9 (if ((if ((hI h 6 n1 2) * (hI h 6 n1 3)) < ((hI h 6 n1 9) + (hI h 6 n1 4)) then ((hI h 6 n1 2) * (hI h 6 n1 3)) else ((hI h 6 n1 9) + (hI h 6 n1 4))) - (hI h 6 n1 8)) < (0 : Int32) then (0 : Int32) else ((if ((hI h 6 n1 2) * (hI h 6 n1 3)) < ((hI h 6 n1 9) + (hI h 6 n1 4)) then ((hI h 6 n1 2) * (hI h 6 n1 3)) else ((hI h 6 n1 9) + (hI h 6 n1 4))) - (hI h 6 n1 8)))) 3 0 5 ((hI h 3 0 5) + ((if ((hI h 6 n1 2) * (hI h 6 n1 3)) < ((hI h 6 n1 9) + (hI h 6 n1 4)) then ((hI h 6 n1 2) * (hI h 6 n1 3)) else ((hI h 6 n1 9) + (hI h 6 n1 4))) - (if ((if ((hI h 6 n1 2) * (hI h 6 n1 3)) < ((hI h 6 n1 9) + (hI h 6 n1 4)) then ((hI h 6 n1 2) * (hI h 6 n1 3)) else ((hI h 6 n1 9) + (hI h 6 n1 4))) - (hI h 6 n1 8)) < (0 : Int32) then (0 : Int32) else ((if ((hI h 6 n1 2) * (hI h 6 n1 3)) < ((hI h 6 n1 9) + (hI h 6 n1 4)) then ((hI h 6 n1 2) * (hI h 6 n1 3)) else ((hI h 6 n1 9) + (hI h 6 n1 4))) - (hI h 6 n1 8)))))) 3 0 6 (if (if ((if ((hI h 6 n1 2) * (hI h 6 n1 3)) < ((hI h 6 n1 9) + (hI h 6 n1 4)) then ((hI h 6 n1 2) * (hI h 6 n1 3)) else ((hI h 6 n1 9) + (hI h 6 n1 4))) - (hI h 6 n1 8)) < (0 : Int32) then (0 : Int32) else ((if ((hI h 6 n1 2) * (hI h 6 n1 3)) < ((hI h 6 n1 9) + (hI h 6 n1 4)) then ((hI h 6 n1 2) * (hI h 6 n1 3)) else ((hI h 6 n1 9) + (hI h 6 n1 4))) - (hI h 6 n1 8))) < (hI h 3 0 6) then (if ((if ((hI h 6 n1 2) * (hI h 6 n1 3)) < ((hI h 6 n1 9) + (hI h 6 n1 4)) then ((hI h 6 n1 2) * (hI h 6 n1 3)) else ((hI h 6 n1 9) + (hI h 6 n1 4))) - (hI h 6 n1 8)) < (0 : Int32) then (0 : Int32) else ((if ((hI h 6 n1 2) * (hI h 6 n1 3)) < ((hI h 6 n1 9) + (hI h 6 n1 4)) then ((hI h 6 n1 2) * (hI h 6 n1 3)) else ((hI h 6 n1 9) + (hI h 6 n1 4))) - (hI h 6 n1 8))) else (hI h 3 0 6))) _
    refine tr_goto (pc := 85) 2 k_sr_passMinute_85 (by decide) ?_
    exact hv
theorem v_fn_most_0 {g : mG} {d : Nat}  {h : mH} {Q : Option mV → mH → Prop} (hsk : mSK h) (hv : mT g me_sr_isAhead (d + 6) 0 0 0 [some (vr 3 0)] [] h (fun v h1 => ∃ y2, v = some (vi y2) ∧ mSK h1 ∧ ((¬ y2 = 0 → mT g me_sr_go (d + 6) 0 0 0 [some (vr 3 0), some (vi (0 : Int32)), none, none, none, none, none, none, none] [] h1 (fun v h3 => v = none ∧ mSK h3 ∧ Q (some (vi (hI h3 3 0 7))) h3)) ∧ (y2 = 0 → mT g me_fn_refuse (d + 6) 0 0 0 [some (vr 0 0), some (vi (-3 : Int32)), none] [] h1 (fun v h4 => ∃ y5, v = some (vi y5) ∧ mSK h4 ∧ Q (some (vi y5)) h4))))) : mT g me_fn_most (d + 7) 0 0 0 [some (vr 0 0)] [] h Q := by
  refine tr_aload_n (pc := 0) 0 k_fn_most_0 rfl rfl ?_
  refine tr_getP (pc := 1) k_fn_most_1 fl_fn_28 rfl (Eq.trans rfl (hsk.1 0 2 _ rfl)) ?_
  have hT := hv
  clear hv
  refine tr_callV (pc := 4) (d' := d + 6) (mc' := 0) (ms' := 0) [] k_fn_most_4 ca_sr_isAhead ml_fn_199 ii_sr_isAhead ⟨by decide, rfl⟩ pa_sr_isAhead (by omega) (by omega) (by omega) rfl (Nat.le_of_ble_eq_true rfl) (Nat.le_of_ble_eq_true rfl) hT (fun v h9 hv => ?_)
  clear hT
  obtain ⟨y2, rfl, hv⟩ := hv
  obtain ⟨h1, eh⟩ : ∃ z, z = h9 := ⟨_, rfl⟩
  subst eh
  obtain ⟨hskh1, hv⟩ := hv
  show mT g me_fn_most (d + 7) 0 0 7 [some (vr 0 0)] [vi y2] h1 _
  refine tr_if_ne (pc := 7) 17 k_fn_most_7 (by decide) (fun q => ?_) (fun q => ?_)
  · replace hv := hv.1 q
    refine tr_aload_n (pc := 17) 0 k_fn_most_17 rfl rfl ?_
    refine tr_getP (pc := 18) k_fn_most_18 fl_fn_28 rfl (Eq.trans rfl (hskh1.1 0 2 _ rfl)) ?_
    refine tr_iconst (pc := 21) (v := 0) k_fn_most_21 (by decide) ?_
    have hT := hv
    clear hv
    refine tr_callV (pc := 22) (d' := d + 6) (mc' := 0) (ms' := 0) [vi (0 : Int32)] k_fn_most_22 ca_sr_go ml_fn_203 ii_sr_go ⟨by decide, rfl⟩ pa_sr_go (by omega) (by omega) (by omega) rfl (Nat.le_of_ble_eq_true rfl) (Nat.le_of_ble_eq_true rfl) hT (fun v h9 hv => ?_)
    clear hT
    obtain ⟨rfl, hv⟩ := hv
    obtain ⟨h3, eh⟩ : ∃ z, z = h9 := ⟨_, rfl⟩
    subst eh
    obtain ⟨hskh3, hv⟩ := hv
    show mT g me_fn_most (d + 7) 0 0 25 [some (vr 0 0)] [] h3 _
    refine tr_aload_n (pc := 25) 0 k_fn_most_25 rfl rfl ?_
    refine tr_getP (pc := 26) k_fn_most_26 fl_fn_28 rfl (Eq.trans rfl (hskh3.1 0 2 _ rfl)) ?_
    refine tr_getIx (pc := 29) k_fn_most_29 fl_fn_222 rfl rfl ?_
    refine tr_ireturn (pc := 32) k_fn_most_32 rfl rfl ?_
    exact hv
  · replace hv := hv.2 q
    refine tr_aload_n (pc := 10) 0 k_fn_most_10 rfl rfl ?_
    refine tr_bipush (pc := 11) (v := -3) k_fn_most_11 (by decide) ?_
    have hT := hv
    clear hv
    refine tr_callV (pc := 13) (d' := d + 6) (mc' := 0) (ms' := 0) [vi (-3 : Int32)] k_fn_most_13 ca_fn_refuse ml_fn_56 ii_fn_refuse ⟨by decide, rfl⟩ pa_fn_refuse (by omega) (by omega) (by omega) rfl (Nat.le_of_ble_eq_true rfl) (Nat.le_of_ble_eq_true rfl) hT (fun v h9 hv => ?_)
    clear hT
    obtain ⟨y5, rfl, hv⟩ := hv
    obtain ⟨h4, eh⟩ : ∃ z, z = h9 := ⟨_, rfl⟩
    subst eh
    obtain ⟨hskh4, hv⟩ := hv
    show mT g me_fn_most (d + 7) 0 0 16 [some (vr 0 0)] [vi y5] h4 _
    refine tr_ireturn (pc := 16) k_fn_most_16 rfl rfl ?_
    exact hv
theorem v_fn_pace_0 {g : mG} {d : Nat} (x1 : Int32) {h : mH} {Q : Option mV → mH → Prop} (hsk : mSK h) (hv : ((0 ≤ x1 → ((x1 ≤ (30 : Int32) → Q (some (vi (hI h 0 0 6))) (setI h 0 0 6 x1)) ∧ (¬ x1 ≤ (30 : Int32) → mT g me_fn_refuse (d + 1) 0 0 0 [some (vr 0 0), some (vi (-6 : Int32)), none] [] h (fun v h1 => ∃ y2, v = some (vi y2) ∧ mSK h1 ∧ Q (some (vi y2)) h1)))) ∧ (¬ 0 ≤ x1 → mT g me_fn_refuse (d + 1) 0 0 0 [some (vr 0 0), some (vi (-4 : Int32)), none] [] h (fun v h3 => ∃ y4, v = some (vi y4) ∧ mSK h3 ∧ Q (some (vi y4)) h3)))) : mT g me_fn_pace (d + 2) 0 0 0 [some (vr 0 0), some (vi x1), none] [] h Q := by
  refine tr_iload_n (pc := 0) 1 k_fn_pace_0 rfl rfl ?_
  refine tr_if_ge (pc := 1) 11 k_fn_pace_1 (by decide) (fun q => ?_) (fun q => ?_)
  · replace hv := hv.1 q
    refine tr_iload_n (pc := 11) 1 k_fn_pace_11 rfl rfl ?_
    refine tr_bipush (pc := 12) (v := 30) k_fn_pace_12 (by decide) ?_
    refine tr_icmp_le (pc := 14) 24 k_fn_pace_14 (by decide) (fun q => ?_) (fun q => ?_)
    · replace hv := hv.1 q
      refine tr_aload_n (pc := 24) 0 k_fn_pace_24 rfl rfl ?_
      refine tr_getIx (pc := 25) k_fn_pace_25 fl_fn_52 rfl rfl ?_
      refine tr_istore_n (pc := 28) 2 k_fn_pace_28 rfl (by decide) rfl ?_
      show mT g me_fn_pace (d + 2) 0 0 29 [some (vr 0 0), some (vi x1), some (vi (hI h 0 0 6))] [] h _
      refine tr_aload_n (pc := 29) 0 k_fn_pace_29 rfl rfl ?_
      refine tr_iload_n (pc := 30) 1 k_fn_pace_30 rfl rfl ?_
      refine tr_putI (pc := 31) k_fn_pace_31 fl_fn_52 (Or.inl rfl) rfl ⟨rfl, rfl⟩ ?_
      refine tr_iload_n (pc := 34) 2 k_fn_pace_34 rfl rfl ?_
      refine tr_ireturn (pc := 35) k_fn_pace_35 rfl rfl ?_
      exact hv
    · replace hv := hv.2 q
      refine tr_aload_n (pc := 17) 0 k_fn_pace_17 rfl rfl ?_
      refine tr_bipush (pc := 18) (v := -6) k_fn_pace_18 (by decide) ?_
      have hT := hv
      clear hv
      refine tr_callV (pc := 20) (d' := d + 1) (mc' := 0) (ms' := 0) [vi (-6 : Int32)] k_fn_pace_20 ca_fn_refuse ml_fn_56 ii_fn_refuse ⟨by decide, rfl⟩ pa_fn_refuse (by omega) (by omega) (by omega) rfl (Nat.le_of_ble_eq_true rfl) (Nat.le_of_ble_eq_true rfl) hT (fun v h9 hv => ?_)
      clear hT
      obtain ⟨y2, rfl, hv⟩ := hv
      obtain ⟨h1, eh⟩ : ∃ z, z = h9 := ⟨_, rfl⟩
      subst eh
      obtain ⟨hskh1, hv⟩ := hv
      show mT g me_fn_pace (d + 2) 0 0 23 [some (vr 0 0), some (vi x1), none] [vi y2] h1 _
      refine tr_ireturn (pc := 23) k_fn_pace_23 rfl rfl ?_
      exact hv
  · replace hv := hv.2 q
    refine tr_aload_n (pc := 4) 0 k_fn_pace_4 rfl rfl ?_
    refine tr_bipush (pc := 5) (v := -4) k_fn_pace_5 (by decide) ?_
    have hT := hv
    clear hv
    refine tr_callV (pc := 7) (d' := d + 1) (mc' := 0) (ms' := 0) [vi (-4 : Int32)] k_fn_pace_7 ca_fn_refuse ml_fn_56 ii_fn_refuse ⟨by decide, rfl⟩ pa_fn_refuse (by omega) (by omega) (by omega) rfl (Nat.le_of_ble_eq_true rfl) (Nat.le_of_ble_eq_true rfl) hT (fun v h9 hv => ?_)
    clear hT
    obtain ⟨y4, rfl, hv⟩ := hv
    obtain ⟨h3, eh⟩ : ∃ z, z = h9 := ⟨_, rfl⟩
    subst eh
    obtain ⟨hskh3, hv⟩ := hv
    show mT g me_fn_pace (d + 2) 0 0 10 [some (vr 0 0), some (vi x1), none] [vi y4] h3 _
    refine tr_ireturn (pc := 10) k_fn_pace_10 rfl rfl ?_
    exact hv
theorem v_fn_tasks_0 {g : mG} {d : Nat}  {h : mH} {Q : Option mV → mH → Prop} (hsk : mSK h) (hv : mT g me_tl_build (d + 5) 0 0 0 [some (vr 4 0), none, none, none, none] [] h (fun v h1 => v = none ∧ mSK h1 ∧ Q (some (vi (hI h1 4 0 7))) h1)) : mT g me_fn_tasks (d + 6) 0 0 0 [some (vr 0 0)] [] h Q := by
  refine tr_aload_n (pc := 0) 0 k_fn_tasks_0 rfl rfl ?_
  refine tr_getP (pc := 1) k_fn_tasks_1 fl_fn_35 rfl (Eq.trans rfl (hsk.1 0 3 _ rfl)) ?_
  have hT := hv
  clear hv
  refine tr_callV (pc := 4) (d' := d + 5) (mc' := 0) (ms' := 0) [] k_fn_tasks_4 ca_tl_build ml_fn_225 ii_tl_build ⟨by decide, rfl⟩ pa_tl_build (by omega) (by omega) (by omega) rfl (Nat.le_of_ble_eq_true rfl) (Nat.le_of_ble_eq_true rfl) hT (fun v h9 hv => ?_)
  clear hT
  obtain ⟨rfl, hv⟩ := hv
  obtain ⟨h1, eh⟩ : ∃ z, z = h9 := ⟨_, rfl⟩
  subst eh
  obtain ⟨hskh1, hv⟩ := hv
  show mT g me_fn_tasks (d + 6) 0 0 7 [some (vr 0 0)] [] h1 _
  refine tr_aload_n (pc := 7) 0 k_fn_tasks_7 rfl rfl ?_
  refine tr_getP (pc := 8) k_fn_tasks_8 fl_fn_35 rfl (Eq.trans rfl (hskh1.1 0 3 _ rfl)) ?_
  refine tr_getIx (pc := 11) k_fn_tasks_11 fl_fn_228 rfl rfl ?_
  refine tr_ireturn (pc := 14) k_fn_tasks_14 rfl rfl ?_
  exact hv
theorem v_tl_build_0 {g : mG} {d : Nat}  {h : mH} {Q : Option mV → mH → Prop} (hsk : mSK h) (hv : mT g me_tl_build (d + 5) 0 0 11 [some (vr 4 0), some (vi (0 : Int32)), some (vi (-1 : Int32)), some (vi (0 : Int32)), none] [] (setI h 4 0 7 (0 : Int32)) Q) : mT g me_tl_build (d + 5) 0 0 0 [some (vr 4 0), none, none, none, none] [] h Q := by
  refine tr_aload_n (pc := 0) 0 k_tl_build_0 rfl rfl ?_
  refine tr_iconst (pc := 1) (v := 0) k_tl_build_1 (by decide) ?_
  refine tr_putI (pc := 2) k_tl_build_2 fl_tl_35 (Or.inl rfl) rfl ⟨rfl, rfl⟩ ?_
  refine tr_iconst (pc := 5) (v := 0) k_tl_build_5 (by decide) ?_
  refine tr_istore_n (pc := 6) 1 k_tl_build_6 rfl (by decide) rfl ?_
  show mT g me_tl_build (d + 5) 0 0 7 [some (vr 4 0), some (vi (0 : Int32)), none, none, none] [] (setI h 4 0 7 (0 : Int32)) _
  refine tr_iconst (pc := 7) (v := -1) k_tl_build_7 (by decide) ?_
  refine tr_istore_n (pc := 8) 2 k_tl_build_8 rfl (by decide) rfl ?_
  show mT g me_tl_build (d + 5) 0 0 9 [some (vr 4 0), some (vi (0 : Int32)), some (vi (-1 : Int32)), none, none] [] (setI h 4 0 7 (0 : Int32)) _
  refine tr_iconst (pc := 9) (v := 0) k_tl_build_9 (by decide) ?_
  refine tr_istore_n (pc := 10) 3 k_tl_build_10 rfl (by decide) rfl ?_
  show mT g me_tl_build (d + 5) 0 0 11 [some (vr 4 0), some (vi (0 : Int32)), some (vi (-1 : Int32)), some (vi (0 : Int32)), none] [] (setI h 4 0 7 (0 : Int32)) _
  exact hv
