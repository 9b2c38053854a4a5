/-! printed by my own program: walks between loop heads -/
theorem v_fn_tankOf_0 {g : mG} {d : Nat} (x1 : Int32) (x2 : Int32) {h : mH} {Q : Option mV → mH → Prop} (hsk : mSK h) (hv : mT g me_ga_tankAt (d + 6) 0 0 0 [some (vr 1 0), some (vi x1)] [] h (fun v h1 => ∃ p2, v = some (vp p2) ∧ mSK h1 ∧ ((p2 = none → mT g me_fn_refuse (d + 6) 0 0 0 [some (vr 0 0), some (vi (-1 : Int32)), none] [] h1 (fun v h4 => ∃ y5, v = some (vi y5) ∧ mSK h4 ∧ Q (some (vi y5)) h4)) ∧ (∀ kq n3, p2 = some (kq, n3) → kq = 6 ∧ ((x2 = 0 → (((1 : Int32) ≤ (hI h1 6 n3 2) → (¬ (hI h1 6 n3 2) = 0 ∧ Q (some (vi ((hI h1 6 n3 1) + ((hI h1 6 n3 5) / (hI h1 6 n3 2))))) h1)) ∧ (¬ (1 : Int32) ≤ (hI h1 6 n3 2) → Q (some (vi (hI h1 6 n3 1))) h1))) ∧ (x2 = 1 → Q (some (vi (hI h1 6 n3 5))) h1) ∧ (x2 = 2 → Q (some (vi (hI h1 6 n3 4))) h1) ∧ (x2 = 3 → Q (some (vi (hI h1 6 n3 6))) h1) ∧ (x2 = 4 → Q (some (vi (hI h1 6 n3 7))) h1) ∧ (x2 = 5 → mT g me_ga_reckonAsItIs (d + 6) 0 0 0 [some (vr 1 0)] [] h1 (fun v h6 => v = none ∧ mSK h6 ∧ Q (some (vi (hI h6 6 n3 8))) h6)) ∧ (¬ x2 = 0 → ¬ x2 = 1 → ¬ x2 = 2 → ¬ x2 = 3 → ¬ x2 = 4 → ¬ x2 = 5 → mT g me_fn_refuse (d + 6) 0 0 0 [some (vr 0 0), some (vi (-2 : Int32)), none] [] h1 (fun v h7 => ∃ y8, v = some (vi y8) ∧ mSK h7 ∧ Q (some (vi y8)) h7))))))) : mT g me_fn_tankOf (d + 7) 0 0 0 [some (vr 0 0), some (vi x1), some (vi x2), none] [] h Q := by
  refine tr_aload_n (pc := 0) 0 k_fn_tankOf_0 rfl rfl ?_
  refine tr_getP (pc := 1) k_fn_tankOf_1 fl_fn_12 rfl (Eq.trans rfl (hsk.1 0 0 _ rfl)) ?_
  refine tr_iload_n (pc := 4) 1 k_fn_tankOf_4 rfl rfl ?_
  have hT := hv
  clear hv
  refine tr_callV (pc := 5) (d' := d + 6) (mc' := 0) (ms' := 0) [vi x1] k_fn_tankOf_5 ca_ga_tankAt ml_fn_76 ii_ga_tankAt ⟨by decide, rfl⟩ pa_ga_tankAt (by omega) (by omega) (by omega) rfl (Nat.le_of_ble_eq_true rfl) (Nat.le_of_ble_eq_true rfl) hT (fun v h9 hv => ?_)
  clear hT
  obtain ⟨p2, rfl, hv⟩ := hv
  obtain ⟨h1, eh⟩ : ∃ z, z = h9 := ⟨_, rfl⟩
  subst eh
  obtain ⟨hskh1, hv⟩ := hv
  show mT g me_fn_tankOf (d + 7) 0 0 8 [some (vr 0 0), some (vi x1), some (vi x2), none] [vp p2] h1 _
  refine tr_astore_n (pc := 8) 3 k_fn_tankOf_8 rfl (by decide) rfl ?_
  show mT g me_fn_tankOf (d + 7) 0 0 9 [some (vr 0 0), some (vi x1), some (vi x2), some (vp p2)] [] h1 _
  refine tr_aload_n (pc := 9) 3 k_fn_tankOf_9 rfl rfl ?_
  rcases p2 with _ | ⟨kq, n3⟩
  · replace hv := hv.1 rfl
    refine tr_ifnonnull (pc := 10) 19 k_fn_tankOf_10 (by decide) (fun _ => ?_) (fun _ _ q => by cases q)
    refine tr_aload_n (pc := 13) 0 k_fn_tankOf_13 rfl rfl ?_
    refine tr_iconst (pc := 14) (v := -1) k_fn_tankOf_14 (by decide) ?_
    have hT := hv
    clear hv
    refine tr_callV (pc := 15) (d' := d + 6) (mc' := 0) (ms' := 0) [vi (-1 : Int32)] k_fn_tankOf_15 ca_fn_refuse ml_fn_56 ii_fn_refuse ⟨by decide, rfl⟩ pa_fn_refuse (by omega) (by omega) (by omega) rfl (Nat.le_of_ble_eq_true rfl) (Nat.le_of_ble_eq_true rfl) hT (fun v h9 hv => ?_)
    clear hT
    obtain ⟨y5, rfl, hv⟩ := hv
    obtain ⟨h4, eh⟩ : ∃ z, z = h9 := ⟨_, rfl⟩
    subst eh
    obtain ⟨hskh4, hv⟩ := hv
    show mT g me_fn_tankOf (d + 7) 0 0 18 [some (vr 0 0), some (vi x1), some (vi x2), some (vn)] [vi y5] h4 _
    refine tr_ireturn (pc := 18) k_fn_tankOf_18 rfl rfl ?_
    exact hv
  · have hw := hv.2 kq n3 rfl
    clear hv
    obtain ⟨tq, hv⟩ := hw
    subst tq
    refine tr_ifnonnull (pc := 10) 19 k_fn_tankOf_10 (by decide) (fun q => by cases q) (fun _ _ _ => ?_)
    refine tr_iload_n (pc := 19) 2 k_fn_tankOf_19 rfl rfl ?_
    refine tr_table (pc := 20) [60, 69, 74, 79, 84, 89] 101 k_fn_tankOf_20 (by decide) (by decide) (by decide) (fun i t hi hx => ?_) (fun hx => ?_)
    · rcases i with _ | _ | _ | _ | _ | _ | i
      · cases hi
        replace hv := hv.1 (mtoI (hx.trans (by decide)))
        refine tr_aload_n (pc := 60) 3 k_fn_tankOf_60 rfl rfl ?_
        refine tr_aload_n (pc := 61) 3 k_fn_tankOf_61 rfl rfl ?_
        refine tr_getIx (pc := 62) k_fn_tankOf_62 fl_fn_157 rfl rfl ?_
        refine tr_callV (pc := 65) (d' := d + 6) (mc' := 0) (ms' := 0) [vi (hI h1 6 n3 5)] k_fn_tankOf_65 ca_tk_levelWith ml_fn_269 ii_tk_levelWith ⟨by decide, rfl⟩ pa_tk_levelWith (by omega) (by omega) (by omega) rfl (Nat.le_of_ble_eq_true rfl) (Nat.le_of_ble_eq_true rfl) (Qk := fun v h9 => mT g me_fn_tankOf (d + 7) 0 0 68 [some (vr 0 0), some (vi x1), some (vi x2), some (vr 6 n3)] (v.toList ++ []) h9 _) ?_ (fun _ _ z => z)
        show mT g me_tk_levelWith (d + 6) 0 0 0 [some (vr 6 n3), some (vi (hI h1 6 n3 5))] [] h1 _
        refine tr_aload_n (pc := 0) 0 k_tk_levelWith_0 rfl rfl ?_
        refine tr_getIx (pc := 1) k_tk_levelWith_1 fl_tk_16 rfl rfl ?_
        refine tr_iconst (pc := 4) (v := 1) k_tk_levelWith_4 (by decide) ?_
        refine tr_icmp_ge (pc := 5) 15 k_tk_levelWith_5 (by decide) (fun q => ?_) (fun q => ?_)
        · replace hv := hv.1 q
          refine tr_aload_n (pc := 15) 0 k_tk_levelWith_15 rfl rfl ?_
          refine tr_getIx (pc := 16) k_tk_levelWith_16 fl_tk_13 rfl rfl ?_
          refine tr_iload_n (pc := 19) 1 k_tk_levelWith_19 rfl rfl ?_
          refine tr_aload_n (pc := 20) 0 k_tk_levelWith_20 rfl rfl ?_
          refine tr_getIx (pc := 21) k_tk_levelWith_21 fl_tk_16 rfl rfl ?_
          refine tr_idiv (pc := 24) k_tk_levelWith_24 hv.1 ?_
          replace hv := hv.2
          refine tr_iadd (pc := 25) k_tk_levelWith_25 ?_
          refine tr_ireturn (pc := 26) k_tk_levelWith_26 rfl rfl ?_
          show mT g me_fn_tankOf (d + 7) 0 0 68 [some (vr 0 0), some (vi x1), some (vi x2), some (vr 6 n3)] [vi ((hI h1 6 n3 1) + ((hI h1 6 n3 5) / (hI h1 6 n3 2)))] h1 _
          refine tr_ireturn (pc := 68) k_fn_tankOf_68 rfl rfl ?_
          exact hv
        · replace hv := hv.2 q
          refine tr_aload_n (pc := 8) 0 k_tk_levelWith_8 rfl rfl ?_
          refine tr_getIx (pc := 9) k_tk_levelWith_9 fl_tk_13 rfl rfl ?_
          refine tr_goto (pc := 12) 26 k_tk_levelWith_12 (by decide) ?_
          refine tr_ireturn (pc := 26) k_tk_levelWith_26 rfl rfl ?_
          show mT g me_fn_tankOf (d + 7) 0 0 68 [some (vr 0 0), some (vi x1), some (vi x2), some (vr 6 n3)] [vi (hI h1 6 n3 1)] h1 _
          refine tr_ireturn (pc := 68) k_fn_tankOf_68 rfl rfl ?_
          exact hv
      · cases hi
        replace hv := hv.2.1 (mtoI (hx.trans (by decide)))
        refine tr_aload_n (pc := 69) 3 k_fn_tankOf_69 rfl rfl ?_
        refine tr_getIx (pc := 70) k_fn_tankOf_70 fl_fn_157 rfl rfl ?_
        refine tr_ireturn (pc := 73) k_fn_tankOf_73 rfl rfl ?_
        exact hv
      · cases hi
        replace hv := hv.2.2.1 (mtoI (hx.trans (by decide)))
        refine tr_aload_n (pc := 74) 3 k_fn_tankOf_74 rfl rfl ?_
        refine tr_getIx (pc := 75) k_fn_tankOf_75 fl_fn_272 rfl rfl ?_
        refine tr_ireturn (pc := 78) k_fn_tankOf_78 rfl rfl ?_
        exact hv
      · cases hi
        replace hv := hv.2.2.2.1 (mtoI (hx.trans (by decide)))
        refine tr_aload_n (pc := 79) 3 k_fn_tankOf_79 rfl rfl ?_
        refine tr_getIx (pc := 80) k_fn_tankOf_80 fl_fn_275 rfl rfl ?_
        refine tr_ireturn (pc := 83) k_fn_tankOf_83 rfl rfl ?_
        exact hv
      · cases hi
        replace hv := hv.2.2.2.2.1 (mtoI (hx.trans (by decide)))
        refine tr_aload_n (pc := 84) 3 k_fn_tankOf_84 rfl rfl ?_
        refine tr_getIx (pc := 85) k_fn_tankOf_85 fl_fn_278 rfl rfl ?_
        refine tr_ireturn (pc := 88) k_fn_tankOf_88 rfl rfl ?_
        exact hv
      · cases hi
        replace hv := hv.2.2.2.2.2.1 (mtoI (hx.trans (by decide)))
        refine tr_aload_n (pc := 89) 0 k_fn_tankOf_89 rfl rfl ?_
        refine tr_getP (pc := 90) k_fn_tankOf_90 fl_fn_12 rfl (Eq.trans rfl (hskh1.1 0 0 _ rfl)) ?_
        have hT := hv
        clear hv
        refine tr_callV (pc := 93) (d' := d + 6) (mc' := 0) (ms' := 0) [] k_fn_tankOf_93 ca_ga_reckonAsItIs ml_fn_144 ii_ga_reckonAsItIs ⟨by decide, rfl⟩ pa_ga_reckonAsItIs (by omega) (by omega) (by omega) rfl (Nat.le_of_ble_eq_true rfl) (Nat.le_of_ble_eq_true rfl) hT (fun v h9 hv => ?_)
        clear hT
        obtain ⟨rfl, hv⟩ := hv
        obtain ⟨h6, eh⟩ : ∃ z, z = h9 := ⟨_, rfl⟩
        subst eh
        obtain ⟨hskh6, hv⟩ := hv
        show mT g me_fn_tankOf (d + 7) 0 0 96 [some (vr 0 0), some (vi x1), some (vi x2), some (vr 6 n3)] [] h6 _
        refine tr_aload_n (pc := 96) 3 k_fn_tankOf_96 rfl rfl ?_
        refine tr_getIx (pc := 97) k_fn_tankOf_97 fl_fn_281 rfl rfl ?_
        refine tr_ireturn (pc := 100) k_fn_tankOf_100 rfl rfl ?_
        exact hv
      · exact absurd hi (by simp)
    · replace hv := hv.2.2.2.2.2.2 (fun e => hx 0 (by decide) (by rw [e]; decide)) (fun e => hx 1 (by decide) (by rw [e]; decide)) (fun e => hx 2 (by decide) (by rw [e]; decide)) (fun e => hx 3 (by decide) (by rw [e]; decide)) (fun e => hx 4 (by decide) (by rw [e]; decide)) (fun e => hx 5 (by decide) (by rw [e]; decide))
      refine tr_aload_n (pc := 101) 0 k_fn_tankOf_101 rfl rfl ?_
      refine tr_bipush (pc := 102) (v := -2) k_fn_tankOf_102 (by decide) ?_
      have hT := hv
      clear hv
      refine tr_callV (pc := 104) (d' := d + 6) (mc' := 0) (ms' := 0) [vi (-2 : Int32)] k_fn_tankOf_104 ca_fn_refuse ml_fn_56 ii_fn_refuse ⟨by decide, rfl⟩ pa_fn_refuse (by omega) (by omega) (by omega) rfl (Nat.le_of_ble_eq_true rfl) (Nat.le_of_ble_eq_true rfl) hT (fun v h9 hv => ?_)
      clear hT
      obtain ⟨y8, rfl, hv⟩ := hv
      obtain ⟨h7, eh⟩ : ∃ z, z = h9 := ⟨_, rfl⟩
      subst eh
      obtain ⟨hskh7, hv⟩ := hv
      show mT g me_fn_tankOf (d + 7) 0 0 107 [some (vr 0 0), some (vi x1), some (vi x2), some (vr 6 n3)] [vi y8] h7 _
      refine tr_ireturn (pc := 107) k_fn_tankOf_107 rfl rfl ?_
      exact hv
theorem v_fn_jointOf_0 {g : mG} {d : Nat} (x1 : Int32) (x2 : Int32) {h : mH} {Q : Option mV → mH → Prop} (hsk : mSK h) (hv : mT g me_ga_jointAt (d + 6) 0 0 0 [some (vr 1 0), some (vi x1)] [] h (fun v h1 => ∃ p2, v = some (vp p2) ∧ mSK h1 ∧ ((p2 = none → mT g me_fn_refuse (d + 6) 0 0 0 [some (vr 0 0), some (vi (-1 : Int32)), none] [] h1 (fun v h4 => ∃ y5, v = some (vi y5) ∧ mSK h4 ∧ Q (some (vi y5)) h4)) ∧ (∀ kq n3, p2 = some (kq, n3) → kq = 7 ∧ ((x2 = 0 → Q (some (vi (hI h1 7 n3 3))) h1) ∧ (x2 = 1 → Q (some (vi (hI h1 7 n3 5))) h1) ∧ (x2 = 2 → Q (some (vi (hI h1 7 n3 4))) h1) ∧ (x2 = 3 → (∃ n6, hP h1 7 n3 1 = some (6, n6) ∧ Q (some (vi (hI h1 6 n6 0))) h1)) ∧ (x2 = 4 → ((hP h1 7 n3 2 = none → Q (some (vi (-9 : Int32))) h1) ∧ (∀ kq n8, hP h1 7 n3 2 = some (kq, n8) → kq = 7 ∧ Q (some (vi (hI h1 7 n8 0))) h1))) ∧ (x2 = 5 → ((hP h1 7 n3 9 = none → Q (some (vi (-9 : Int32))) h1) ∧ (∀ kq n10, hP h1 7 n3 9 = some (kq, n10) → kq = 8 ∧ Q (some (vi (hI h1 8 n10 0))) h1))) ∧ (x2 = 6 → (((hI h1 7 n3 8) = 0 → Q (some (vi (0 : Int32))) h1) ∧ (¬ (hI h1 7 n3 8) = 0 → Q (some (vi (1 : Int32))) h1))) ∧ (x2 = 7 → Q (some (vi (hI h1 7 n3 6))) h1) ∧ (x2 = 8 → mT g me_ga_reckonAsItIs (d + 6) 0 0 0 [some (vr 1 0)] [] h1 (fun v h12 => v = none ∧ mSK h12 ∧ mT g me_jn_lossNow (d + 6) 0 0 0 [some (vr 7 n3), none, none] [] h12 (fun v h13 => ∃ y14, v = some (vi y14) ∧ mSK h13 ∧ Q (some (vi y14)) h13))) ∧ (¬ x2 = 0 → ¬ x2 = 1 → ¬ x2 = 2 → ¬ x2 = 3 → ¬ x2 = 4 → ¬ x2 = 5 → ¬ x2 = 6 → ¬ x2 = 7 → ¬ x2 = 8 → mT g me_fn_refuse (d + 6) 0 0 0 [some (vr 0 0), some (vi (-2 : Int32)), none] [] h1 (fun v h15 => ∃ y16, v = some (vi y16) ∧ mSK h15 ∧ Q (some (vi y16)) h15))))))) : mT g me_fn_jointOf (d + 7) 0 0 0 [some (vr 0 0), some (vi x1), some (vi x2), none] [] h Q := by
  refine tr_aload_n (pc := 0) 0 k_fn_jointOf_0 rfl rfl ?_
  refine tr_getP (pc := 1) k_fn_jointOf_1 fl_fn_12 rfl (Eq.trans rfl (hsk.1 0 0 _ rfl)) ?_
  refine tr_iload_n (pc := 4) 1 k_fn_jointOf_4 rfl rfl ?_
  have hT := hv
  clear hv
  refine tr_callV (pc := 5) (d' := d + 6) (mc' := 0) (ms' := 0) [vi x1] k_fn_jointOf_5 ca_ga_jointAt ml_fn_89 ii_ga_jointAt ⟨by decide, rfl⟩ pa_ga_jointAt (by omega) (by omega) (by omega) rfl (Nat.le_of_ble_eq_true rfl) (Nat.le_of_ble_eq_true rfl) hT (fun v h9 hv => ?_)
  clear hT
  obtain ⟨p2, rfl, hv⟩ := hv
  obtain ⟨h1, eh⟩ : ∃ z, z = h9 := ⟨_, rfl⟩
  subst eh
  obtain ⟨hskh1, hv⟩ := hv
  show mT g me_fn_jointOf (d + 7) 0 0 8 [some (vr 0 0), some (vi x1), some (vi x2), none] [vp p2] h1 _
  refine tr_astore_n (pc := 8) 3 k_fn_jointOf_8 rfl (by decide) rfl ?_
  show mT g me_fn_jointOf (d + 7) 0 0 9 [some (vr 0 0), some (vi x1), some (vi x2), some (vp p2)] [] h1 _
  refine tr_aload_n (pc := 9) 3 k_fn_jointOf_9 rfl rfl ?_
  rcases p2 with _ | ⟨kq, n3⟩
  · replace hv := hv.1 rfl
    refine tr_ifnonnull (pc := 10) 19 k_fn_jointOf_10 (by decide) (fun _ => ?_) (fun _ _ q => by cases q)
    refine tr_aload_n (pc := 13) 0 k_fn_jointOf_13 rfl rfl ?_
    refine tr_iconst (pc := 14) (v := -1) k_fn_jointOf_14 (by decide) ?_
    have hT := hv
    clear hv
    refine tr_callV (pc := 15) (d' := d + 6) (mc' := 0) (ms' := 0) [vi (-1 : Int32)] k_fn_jointOf_15 ca_fn_refuse ml_fn_56 ii_fn_refuse ⟨by decide, rfl⟩ pa_fn_refuse (by omega) (by omega) (by omega) rfl (Nat.le_of_ble_eq_true rfl) (Nat.le_of_ble_eq_true rfl) hT (fun v h9 hv => ?_)
    clear hT
    obtain ⟨y5, rfl, hv⟩ := hv
    obtain ⟨h4, eh⟩ : ∃ z, z = h9 := ⟨_, rfl⟩
    subst eh
    obtain ⟨hskh4, hv⟩ := hv
    show mT g me_fn_jointOf (d + 7) 0 0 18 [some (vr 0 0), some (vi x1), some (vi x2), some (vn)] [vi y5] h4 _
    refine tr_ireturn (pc := 18) k_fn_jointOf_18 rfl rfl ?_
    exact hv
  · have hw := hv.2 kq n3 rfl
    clear hv
    obtain ⟨tq, hv⟩ := hw
    subst tq
    refine tr_ifnonnull (pc := 10) 19 k_fn_jointOf_10 (by decide) (fun q => by cases q) (fun _ _ _ => ?_)
    refine tr_iload_n (pc := 19) 2 k_fn_jointOf_19 rfl rfl ?_
    refine tr_table (pc := 20) [72, 77, 82, 87, 95, 115, 135, 148, 153] 165 k_fn_jointOf_20 (by decide) (by decide) (by decide) (fun i t hi hx => ?_) (fun hx => ?_)
    · rcases i with _ | _ | _ | _ | _ | _ | _ | _ | _ | i
      · cases hi
        replace hv := hv.1 (mtoI (hx.trans (by decide)))
        refine tr_aload_n (pc := 72) 3 k_fn_jointOf_72 rfl rfl ?_
        refine tr_getIx (pc := 73) k_fn_jointOf_73 fl_fn_282 rfl rfl ?_
        refine tr_ireturn (pc := 76) k_fn_jointOf_76 rfl rfl ?_
        exact hv
      · cases hi
        replace hv := hv.2.1 (mtoI (hx.trans (by decide)))
        refine tr_aload_n (pc := 77) 3 k_fn_jointOf_77 rfl rfl ?_
        refine tr_getIx (pc := 78) k_fn_jointOf_78 fl_fn_139 rfl rfl ?_
        refine tr_ireturn (pc := 81) k_fn_jointOf_81 rfl rfl ?_
        exact hv
      · cases hi
        replace hv := hv.2.2.1 (mtoI (hx.trans (by decide)))
        refine tr_aload_n (pc := 82) 3 k_fn_jointOf_82 rfl rfl ?_
        refine tr_getIx (pc := 83) k_fn_jointOf_83 fl_fn_285 rfl rfl ?_
        refine tr_ireturn (pc := 86) k_fn_jointOf_86 rfl rfl ?_
        exact hv
      · cases hi
        replace hv := hv.2.2.2.1 (mtoI (hx.trans (by decide)))
        refine tr_aload_n (pc := 87) 3 k_fn_jointOf_87 rfl rfl ?_
        obtain ⟨n6, e7, hv⟩ := hv
        refine tr_getP (pc := 88) k_fn_jointOf_88 fl_fn_153 rfl (Eq.trans rfl e7) ?_
        refine tr_getIx (pc := 91) k_fn_jointOf_91 fl_fn_288 rfl rfl ?_
        refine tr_ireturn (pc := 94) k_fn_jointOf_94 rfl rfl ?_
        exact hv
      · cases hi
        replace hv := hv.2.2.2.2.1 (mtoI (hx.trans (by decide)))
        refine tr_aload_n (pc := 95) 3 k_fn_jointOf_95 rfl rfl ?_
        rcases e9 : hP h1 7 n3 2 with _ | ⟨kq, n8⟩
        · replace hv := hv.1 e9
          refine tr_getP (pc := 96) k_fn_jointOf_96 fl_fn_263 rfl (Eq.trans rfl e9) ?_
          refine tr_ifnonnull (pc := 99) 107 k_fn_jointOf_99 (by decide) (fun _ => ?_) (fun _ _ q => by cases q)
          refine tr_bipush (pc := 102) (v := -9) k_fn_jointOf_102 (by decide) ?_
          refine tr_goto (pc := 104) 114 k_fn_jointOf_104 (by decide) ?_
          refine tr_ireturn (pc := 114) k_fn_jointOf_114 rfl rfl ?_
          exact hv
        · have hw := hv.2 kq n8 e9
          clear hv
          obtain ⟨tq, hv⟩ := hw
          subst tq
          refine tr_getP (pc := 96) k_fn_jointOf_96 fl_fn_263 rfl (Eq.trans rfl e9) ?_
          refine tr_ifnonnull (pc := 99) 107 k_fn_jointOf_99 (by decide) (fun q => by cases q) (fun _ _ _ => ?_)
          refine tr_aload_n (pc := 107) 3 k_fn_jointOf_107 rfl rfl ?_
          refine tr_getP (pc := 108) k_fn_jointOf_108 fl_fn_263 rfl (Eq.trans rfl e9) ?_
          refine tr_getIx (pc := 111) k_fn_jointOf_111 fl_fn_291 rfl rfl ?_
          refine tr_ireturn (pc := 114) k_fn_jointOf_114 rfl rfl ?_
          exact hv
      · cases hi
        replace hv := hv.2.2.2.2.2.1 (mtoI (hx.trans (by decide)))
        refine tr_aload_n (pc := 115) 3 k_fn_jointOf_115 rfl rfl ?_
        rcases e11 : hP h1 7 n3 9 with _ | ⟨kq, n10⟩
        · replace hv := hv.1 e11
          refine tr_getP (pc := 116) k_fn_jointOf_116 fl_fn_109 rfl (Eq.trans rfl e11) ?_
          refine tr_ifnonnull (pc := 119) 127 k_fn_jointOf_119 (by decide) (fun _ => ?_) (fun _ _ q => by cases q)
          refine tr_bipush (pc := 122) (v := -9) k_fn_jointOf_122 (by decide) ?_
          refine tr_goto (pc := 124) 134 k_fn_jointOf_124 (by decide) ?_
          refine tr_ireturn (pc := 134) k_fn_jointOf_134 rfl rfl ?_
          exact hv
        · have hw := hv.2 kq n10 e11
          clear hv
          obtain ⟨tq, hv⟩ := hw
          subst tq
          refine tr_getP (pc := 116) k_fn_jointOf_116 fl_fn_109 rfl (Eq.trans rfl e11) ?_
          refine tr_ifnonnull (pc := 119) 127 k_fn_jointOf_119 (by decide) (fun q => by cases q) (fun _ _ _ => ?_)
          refine tr_aload_n (pc := 127) 3 k_fn_jointOf_127 rfl rfl ?_
          refine tr_getP (pc := 128) k_fn_jointOf_128 fl_fn_109 rfl (Eq.trans rfl e11) ?_
          refine tr_getIx (pc := 131) k_fn_jointOf_131 fl_fn_292 rfl rfl ?_
          refine tr_ireturn (pc := 134) k_fn_jointOf_134 rfl rfl ?_
          exact hv
      · cases hi
        replace hv := hv.2.2.2.2.2.2.1 (mtoI (hx.trans (by decide)))
        refine tr_aload_n (pc := 135) 3 k_fn_jointOf_135 rfl rfl ?_
        refine tr_getIx (pc := 136) k_fn_jointOf_136 fl_fn_100 rfl rfl ?_
        refine tr_if_eq (pc := 139) 146 k_fn_jointOf_139 (by decide) (fun q => ?_) (fun q => ?_)
        · replace hv := hv.1 q
          refine tr_iconst (pc := 146) (v := 0) k_fn_jointOf_146 (by decide) ?_
          refine tr_ireturn (pc := 147) k_fn_jointOf_147 rfl rfl ?_
          exact hv
        · replace hv := hv.2 q
          refine tr_iconst (pc := 142) (v := 1) k_fn_jointOf_142 (by decide) ?_
          refine tr_goto (pc := 143) 147 k_fn_jointOf_143 (by decide) ?_
          refine tr_ireturn (pc := 147) k_fn_jointOf_147 rfl rfl ?_
          exact hv
      · cases hi
        replace hv := hv.2.2.2.2.2.2.2.1 (mtoI (hx.trans (by decide)))
        refine tr_aload_n (pc := 148) 3 k_fn_jointOf_148 rfl rfl ?_
        refine tr_getIx (pc := 149) k_fn_jointOf_149 fl_fn_141 rfl rfl ?_
        refine tr_ireturn (pc := 152) k_fn_jointOf_152 rfl rfl ?_
        exact hv
      · cases hi
        replace hv := hv.2.2.2.2.2.2.2.2.1 (mtoI (hx.trans (by decide)))
        refine tr_aload_n (pc := 153) 0 k_fn_jointOf_153 rfl rfl ?_
        refine tr_getP (pc := 154) k_fn_jointOf_154 fl_fn_12 rfl (Eq.trans rfl (hskh1.1 0 0 _ rfl)) ?_
        have hT := hv
        clear hv
        refine tr_callV (pc := 157) (d' := d + 6) (mc' := 0) (ms' := 0) [] k_fn_jointOf_157 ca_ga_reckonAsItIs ml_fn_144 ii_ga_reckonAsItIs ⟨by decide, rfl⟩ pa_ga_reckonAsItIs (by omega) (by omega) (by omega) rfl (Nat.le_of_ble_eq_true rfl) (Nat.le_of_ble_eq_true rfl) hT (fun v h9 hv => ?_)
        clear hT
        obtain ⟨rfl, hv⟩ := hv
        obtain ⟨h12, eh⟩ : ∃ z, z = h9 := ⟨_, rfl⟩
        subst eh
        obtain ⟨hskh12, hv⟩ := hv
        show mT g me_fn_jointOf (d + 7) 0 0 160 [some (vr 0 0), some (vi x1), some (vi x2), some (vr 7 n3)] [] h12 _
        refine tr_aload_n (pc := 160) 3 k_fn_jointOf_160 rfl rfl ?_
        have hT := hv
        clear hv
        refine tr_callV (pc := 161) (d' := d + 6) (mc' := 0) (ms' := 0) [] k_fn_jointOf_161 ca_jn_lossNow ml_fn_293 ii_jn_lossNow ⟨by decide, rfl⟩ pa_jn_lossNow (by omega) (by omega) (by omega) rfl (Nat.le_of_ble_eq_true rfl) (Nat.le_of_ble_eq_true rfl) hT (fun v h9 hv => ?_)
        clear hT
        obtain ⟨y14, rfl, hv⟩ := hv
        obtain ⟨h13, eh⟩ : ∃ z, z = h9 := ⟨_, rfl⟩
        subst eh
        obtain ⟨hskh13, hv⟩ := hv
        show mT g me_fn_jointOf (d + 7) 0 0 164 [some (vr 0 0), some (vi x1), some (vi x2), some (vr 7 n3)] [vi y14] h13 _
        refine tr_ireturn (pc := 164) k_fn_jointOf_164 rfl rfl ?_
        exact hv
      · exact absurd hi (by simp)
    · replace hv := hv.2.2.2.2.2.2.2.2.2 (fun e => hx 0 (by decide) (by rw [e]; decide)) (fun e => hx 1 (by decide) (by rw [e]; decide)) (fun e => hx 2 (by decide) (by rw [e]; decide)) (fun e => hx 3 (by decide) (by rw [e]; decide)) (fun e => hx 4 (by decide) (by rw [e]; decide)) (fun e => hx 5 (by decide) (by rw [e]; decide)) (fun e => hx 6 (by decide) (by rw [e]; decide)) (fun e => hx 7 (by decide) (by rw [e]; decide)) (fun e => hx 8 (by decide) (by rw [e]; decide))
      refine tr_aload_n (pc := 165) 0 k_fn_jointOf_165 rfl rfl ?_
      refine tr_bipush (pc := 166) (v := -2) k_fn_jointOf_166 (by decide) ?_
      have hT := hv
      clear hv
      refine tr_callV (pc := 168) (d' := d + 6) (mc' := 0) (ms' := 0) [vi (-2 : Int32)] k_fn_jointOf_168 ca_fn_refuse ml_fn_56 ii_fn_refuse ⟨by decide, rfl⟩ pa_fn_refuse (by omega) (by omega) (by omega) rfl (Nat.le_of_ble_eq_true rfl) (Nat.le_of_ble_eq_true rfl) hT (fun v h9 hv => ?_)
      clear hT
      obtain ⟨y16, rfl, hv⟩ := hv
      obtain ⟨h15, eh⟩ : ∃ z, z = h9 := ⟨_, rfl⟩
      subst eh
      obtain ⟨hskh15, hv⟩ := hv
      show mT g me_fn_jointOf (d + 7) 0 0 171 [some (vr 0 0), some (vi x1), some (vi x2), some (vr 7 n3)] [vi y16] h15 _
      refine tr_ireturn (pc := 171) k_fn_jointOf_171 rfl rfl ?_
      exact hv
theorem v_fn_count_0 {g : mG} {d : Nat} (x1 : Int32) {h : mH} {Q : Option mV → mH → Prop} (hsk : mSK h) (hv : ((x1 = 0 → Q (some (vi (hI h 1 0 4))) h) ∧ (x1 = 1 → Q (some (vi (hI h 2 0 1))) h) ∧ (x1 = 2 → Q (some (vi (hI h 2 1 1))) h) ∧ (x1 = 3 → Q (some (vi (hI h 2 2 1))) h) ∧ (x1 = 4 → mT g me_it_bitCount (d + 4) 0 0 0 [some (vi (hI h 1 0 3))] [] h (fun v h1 => ∃ y2, v = some (vi y2) ∧ mSK h1 ∧ Q (some (vi y2)) h1)) ∧ (x1 = 5 → Q (some (vi (hI h 2 3 1))) h) ∧ (x1 = 6 → mT g me_ga_emptyPipes (d + 4) 0 0 0 [some (vr 1 0), none, none] [] h (fun v h3 => ∃ y4, v = some (vi y4) ∧ mSK h3 ∧ Q (some (vi y4)) h3)) ∧ (¬ x1 = 0 → ¬ x1 = 1 → ¬ x1 = 2 → ¬ x1 = 3 → ¬ x1 = 4 → ¬ x1 = 5 → ¬ x1 = 6 → (((x1 - (10 : Int32)) < (1 : Int32) → Q (some (vi (-9 : Int32))) h) ∧ (¬ (x1 - (10 : Int32)) < (1 : Int32) → (((6 : Int32) < (x1 - (10 : Int32)) → Q (some (vi (-9 : Int32))) h) ∧ (¬ (6 : Int32) < (x1 - (10 : Int32)) → (((7 : Int32) ≤ (x1 - (10 : Int32)) → Q (some (vi (-9 : Int32))) h) ∧ (¬ (7 : Int32) ≤ (x1 - (10 : Int32)) → (vp_in (x1 - (10 : Int32)) 7 ∧ Q (some (vi (hI h 11 5 ((x1 - (10 : Int32)).toNatClampNeg)))) h)))))))))) : mT g me_fn_count (d + 5) 0 0 0 [some (vr 0 0), some (vi x1)] [] h Q := by
  refine tr_iload_n (pc := 0) 1 k_fn_count_0 rfl rfl ?_
  refine tr_table (pc := 1) [44, 52, 63, 74, 85, 96, 104] 112 k_fn_count_1 (by decide) (by decide) (by decide) (fun i t hi hx => ?_) (fun hx => ?_)
  · rcases i with _ | _ | _ | _ | _ | _ | _ | i
    · cases hi
      replace hv := hv.1 (mtoI (hx.trans (by decide)))
      refine tr_aload_n (pc := 44) 0 k_fn_count_44 rfl rfl ?_
      refine tr_getP (pc := 45) k_fn_count_45 fl_fn_12 rfl (Eq.trans rfl (hsk.1 0 0 _ rfl)) ?_
      refine tr_getIx (pc := 48) k_fn_count_48 fl_fn_171 rfl rfl ?_
      refine tr_ireturn (pc := 51) k_fn_count_51 rfl rfl ?_
      exact hv
    · cases hi
      replace hv := hv.2.1 (mtoI (hx.trans (by decide)))
      refine tr_aload_n (pc := 52) 0 k_fn_count_52 rfl rfl ?_
      refine tr_getP (pc := 53) k_fn_count_53 fl_fn_12 rfl (Eq.trans rfl (hsk.1 0 0 _ rfl)) ?_
      refine tr_getP (pc := 56) k_fn_count_56 fl_fn_60 rfl (Eq.trans rfl (hsk.1 1 0 _ rfl)) ?_
      refine tr_callV (pc := 59) (d' := d + 4) (mc' := 0) (ms' := 0) [] k_fn_count_59 ca_al_size ml_fn_63 ii_al_size ⟨by decide, rfl⟩ pa_al_size (by omega) (by omega) (by omega) rfl (Nat.le_of_ble_eq_true rfl) (Nat.le_of_ble_eq_true rfl) (Qk := fun v h9 => mT g me_fn_count (d + 5) 0 0 62 [some (vr 0 0), some (vi x1)] (v.toList ++ []) h9 _) ?_ (fun _ _ z => z)
      show mT g me_al_size (d + 4) 0 0 0 [some (vr 2 0)] [] h _
      refine tr_aload_n (pc := 0) 0 k_al_size_0 rfl rfl ?_
      refine tr_getIx (pc := 1) k_al_size_1 fl_al_48 rfl rfl ?_
      refine tr_ireturn (pc := 4) k_al_size_4 rfl rfl ?_
      show mT g me_fn_count (d + 5) 0 0 62 [some (vr 0 0), some (vi x1)] [vi (hI h 2 0 1)] h _
      refine tr_ireturn (pc := 62) k_fn_count_62 rfl rfl ?_
      exact hv
    · cases hi
      replace hv := hv.2.2.1 (mtoI (hx.trans (by decide)))
      refine tr_aload_n (pc := 63) 0 k_fn_count_63 rfl rfl ?_
      refine tr_getP (pc := 64) k_fn_count_64 fl_fn_12 rfl (Eq.trans rfl (hsk.1 0 0 _ rfl)) ?_
      refine tr_getP (pc := 67) k_fn_count_67 fl_fn_97 rfl (Eq.trans rfl (hsk.1 1 1 _ rfl)) ?_
      refine tr_callV (pc := 70) (d' := d + 4) (mc' := 0) (ms' := 0) [] k_fn_count_70 ca_al_size ml_fn_63 ii_al_size ⟨by decide, rfl⟩ pa_al_size (by omega) (by omega) (by omega) rfl (Nat.le_of_ble_eq_true rfl) (Nat.le_of_ble_eq_true rfl) (Qk := fun v h9 => mT g me_fn_count (d + 5) 0 0 73 [some (vr 0 0), some (vi x1)] (v.toList ++ []) h9 _) ?_ (fun _ _ z => z)
      show mT g me_al_size (d + 4) 0 0 0 [some (vr 2 1)] [] h _
      refine tr_aload_n (pc := 0) 0 k_al_size_0 rfl rfl ?_
      refine tr_getIx (pc := 1) k_al_size_1 fl_al_48 rfl rfl ?_
      refine tr_ireturn (pc := 4) k_al_size_4 rfl rfl ?_
      show mT g me_fn_count (d + 5) 0 0 73 [some (vr 0 0), some (vi x1)] [vi (hI h 2 1 1)] h _
      refine tr_ireturn (pc := 73) k_fn_count_73 rfl rfl ?_
      exact hv
    · cases hi
      replace hv := hv.2.2.2.1 (mtoI (hx.trans (by decide)))
      refine tr_aload_n (pc := 74) 0 k_fn_count_74 rfl rfl ?_
      refine tr_getP (pc := 75) k_fn_count_75 fl_fn_12 rfl (Eq.trans rfl (hsk.1 0 0 _ rfl)) ?_
      refine tr_getP (pc := 78) k_fn_count_78 fl_fn_113 rfl (Eq.trans rfl (hsk.1 1 2 _ rfl)) ?_
      refine tr_callV (pc := 81) (d' := d + 4) (mc' := 0) (ms' := 0) [] k_fn_count_81 ca_al_size ml_fn_63 ii_al_size ⟨by decide, rfl⟩ pa_al_size (by omega) (by omega) (by omega) rfl (Nat.le_of_ble_eq_true rfl) (Nat.le_of_ble_eq_true rfl) (Qk := fun v h9 => mT g me_fn_count (d + 5) 0 0 84 [some (vr 0 0), some (vi x1)] (v.toList ++ []) h9 _) ?_ (fun _ _ z => z)
      show mT g me_al_size (d + 4) 0 0 0 [some (vr 2 2)] [] h _
      refine tr_aload_n (pc := 0) 0 k_al_size_0 rfl rfl ?_
      refine tr_getIx (pc := 1) k_al_size_1 fl_al_48 rfl rfl ?_
      refine tr_ireturn (pc := 4) k_al_size_4 rfl rfl ?_
      show mT g me_fn_count (d + 5) 0 0 84 [some (vr 0 0), some (vi x1)] [vi (hI h 2 2 1)] h _
      refine tr_ireturn (pc := 84) k_fn_count_84 rfl rfl ?_
      exact hv
    · cases hi
      replace hv := hv.2.2.2.2.1 (mtoI (hx.trans (by decide)))
      refine tr_aload_n (pc := 85) 0 k_fn_count_85 rfl rfl ?_
      refine tr_getP (pc := 86) k_fn_count_86 fl_fn_12 rfl (Eq.trans rfl (hsk.1 0 0 _ rfl)) ?_
      refine tr_getIx (pc := 89) k_fn_count_89 fl_fn_129 rfl rfl ?_
      have hT := hv
      clear hv
      refine tr_callS (pc := 92) (d' := d + 4) (mc' := 0) (ms' := 0) [vi (hI h 1 0 3)] k_fn_count_92 ca_it_bitCount ml_fn_296 is_it_bitCount pa_it_bitCount (by omega) (by omega) (by omega) rfl (Nat.le_of_ble_eq_true rfl) (Nat.le_of_ble_eq_true rfl) hT (fun v h9 hv => ?_)
      clear hT
      obtain ⟨y2, rfl, hv⟩ := hv
      obtain ⟨h1, eh⟩ : ∃ z, z = h9 := ⟨_, rfl⟩
      subst eh
      obtain ⟨hskh1, hv⟩ := hv
      show mT g me_fn_count (d + 5) 0 0 95 [some (vr 0 0), some (vi x1)] [vi y2] h1 _
      refine tr_ireturn (pc := 95) k_fn_count_95 rfl rfl ?_
      exact hv
    · cases hi
      replace hv := hv.2.2.2.2.2.1 (mtoI (hx.trans (by decide)))
      refine tr_aload_n (pc := 96) 0 k_fn_count_96 rfl rfl ?_
      refine tr_getP (pc := 97) k_fn_count_97 fl_fn_19 rfl (Eq.trans rfl (hsk.1 0 1 _ rfl)) ?_
      refine tr_callV (pc := 100) (d' := d + 4) (mc' := 0) (ms' := 0) [] k_fn_count_100 ca_al_size ml_fn_63 ii_al_size ⟨by decide, rfl⟩ pa_al_size (by omega) (by omega) (by omega) rfl (Nat.le_of_ble_eq_true rfl) (Nat.le_of_ble_eq_true rfl) (Qk := fun v h9 => mT g me_fn_count (d + 5) 0 0 103 [some (vr 0 0), some (vi x1)] (v.toList ++ []) h9 _) ?_ (fun _ _ z => z)
      show mT g me_al_size (d + 4) 0 0 0 [some (vr 2 3)] [] h _
      refine tr_aload_n (pc := 0) 0 k_al_size_0 rfl rfl ?_
      refine tr_getIx (pc := 1) k_al_size_1 fl_al_48 rfl rfl ?_
      refine tr_ireturn (pc := 4) k_al_size_4 rfl rfl ?_
      show mT g me_fn_count (d + 5) 0 0 103 [some (vr 0 0), some (vi x1)] [vi (hI h 2 3 1)] h _
      refine tr_ireturn (pc := 103) k_fn_count_103 rfl rfl ?_
      exact hv
    · cases hi
      replace hv := hv.2.2.2.2.2.2.1 (mtoI (hx.trans (by decide)))
      refine tr_aload_n (pc := 104) 0 k_fn_count_104 rfl rfl ?_
      refine tr_getP (pc := 105) k_fn_count_105 fl_fn_12 rfl (Eq.trans rfl (hsk.1 0 0 _ rfl)) ?_
      have hT := hv
      clear hv
      refine tr_callV (pc := 108) (d' := d + 4) (mc' := 0) (ms' := 0) [] k_fn_count_108 ca_ga_emptyPipes ml_fn_301 ii_ga_emptyPipes ⟨by decide, rfl⟩ pa_ga_emptyPipes (by omega) (by omega) (by omega) rfl (Nat.le_of_ble_eq_true rfl) (Nat.le_of_ble_eq_true rfl) hT (fun v h9 hv => ?_)
      clear hT
      obtain ⟨y4, rfl, hv⟩ := hv
      obtain ⟨h3, eh⟩ : ∃ z, z = h9 := ⟨_, rfl⟩
      subst eh
      obtain ⟨hskh3, hv⟩ := hv
      show mT g me_fn_count (d + 5) 0 0 111 [some (vr 0 0), some (vi x1)] [vi y4] h3 _
      refine tr_ireturn (pc := 111) k_fn_count_111 rfl rfl ?_
      exact hv
    · exact absurd hi (by simp)
  · replace hv := hv.2.2.2.2.2.2.2 (fun e => hx 0 (by decide) (by rw [e]; decide)) (fun e => hx 1 (by decide) (by rw [e]; decide)) (fun e => hx 2 (by decide) (by rw [e]; decide)) (fun e => hx 3 (by decide) (by rw [e]; decide)) (fun e => hx 4 (by decide) (by rw [e]; decide)) (fun e => hx 5 (by decide) (by rw [e]; decide)) (fun e => hx 6 (by decide) (by rw [e]; decide))
    refine tr_aload_n (pc := 112) 0 k_fn_count_112 rfl rfl ?_
    refine tr_iload_n (pc := 113) 1 k_fn_count_113 rfl rfl ?_
    refine tr_bipush (pc := 114) (v := 10) k_fn_count_114 (by decide) ?_
    refine tr_isub (pc := 116) k_fn_count_116 ?_
    refine tr_callV (pc := 117) (d' := d + 4) (mc' := 0) (ms' := 0) [vi (x1 - (10 : Int32))] k_fn_count_117 ca_fn_refusalsOf ml_fn_304 ii_fn_refusalsOf ⟨by decide, rfl⟩ pa_fn_refusalsOf (by omega) (by omega) (by omega) rfl (Nat.le_of_ble_eq_true rfl) (Nat.le_of_ble_eq_true rfl) (Qk := fun v h9 => mT g me_fn_count (d + 5) 0 0 120 [some (vr 0 0), some (vi x1)] (v.toList ++ []) h9 _) ?_ (fun _ _ z => z)
    show mT g me_fn_refusalsOf (d + 4) 0 0 0 [some (vr 0 0), some (vi (x1 - (10 : Int32)))] [] h _
    refine tr_iload_n (pc := 0) 1 k_fn_refusalsOf_0 rfl rfl ?_
    refine tr_iconst (pc := 1) (v := 1) k_fn_refusalsOf_1 (by decide) ?_
    refine tr_icmp_lt (pc := 2) 29 k_fn_refusalsOf_2 (by decide) (fun q => ?_) (fun q => ?_)
    · replace hv := hv.1 q
      refine tr_bipush (pc := 29) (v := -9) k_fn_refusalsOf_29 (by decide) ?_
      refine tr_ireturn (pc := 31) k_fn_refusalsOf_31 rfl rfl ?_
      show mT g me_fn_count (d + 5) 0 0 120 [some (vr 0 0), some (vi x1)] [vi (-9 : Int32)] h _
      refine tr_ireturn (pc := 120) k_fn_count_120 rfl rfl ?_
      exact hv
    · replace hv := hv.2 q
      refine tr_iload_n (pc := 5) 1 k_fn_refusalsOf_5 rfl rfl ?_
      refine tr_bipush (pc := 6) (v := 6) k_fn_refusalsOf_6 (by decide) ?_
      refine tr_icmp_gt (pc := 8) 29 k_fn_refusalsOf_8 (by decide) (fun q => ?_) (fun q => ?_)
      · replace hv := hv.1 q
        refine tr_bipush (pc := 29) (v := -9) k_fn_refusalsOf_29 (by decide) ?_
        refine tr_ireturn (pc := 31) k_fn_refusalsOf_31 rfl rfl ?_
        show mT g me_fn_count (d + 5) 0 0 120 [some (vr 0 0), some (vi x1)] [vi (-9 : Int32)] h _
        refine tr_ireturn (pc := 120) k_fn_count_120 rfl rfl ?_
        exact hv
      · replace hv := hv.2 q
        refine tr_iload_n (pc := 11) 1 k_fn_refusalsOf_11 rfl rfl ?_
        refine tr_aload_n (pc := 12) 0 k_fn_refusalsOf_12 rfl rfl ?_
        refine tr_getP (pc := 13) k_fn_refusalsOf_13 fl_fn_48 rfl (Eq.trans rfl (hsk.1 0 5 _ rfl)) ?_
        refine tr_alen (pc := 16) (v := 7) (by decide) k_fn_refusalsOf_16 (by rw [show hL _ 11 5 = 7 from hsk.2.1 11 5 _ rfl]; rfl) ?_
        refine tr_icmp_ge (pc := 17) 29 k_fn_refusalsOf_17 (by decide) (fun q => ?_) (fun q => ?_)
        · replace hv := hv.1 q
          refine tr_bipush (pc := 29) (v := -9) k_fn_refusalsOf_29 (by decide) ?_
          refine tr_ireturn (pc := 31) k_fn_refusalsOf_31 rfl rfl ?_
          show mT g me_fn_count (d + 5) 0 0 120 [some (vr 0 0), some (vi x1)] [vi (-9 : Int32)] h _
          refine tr_ireturn (pc := 120) k_fn_count_120 rfl rfl ?_
          exact hv
        · replace hv := hv.2 q
          refine tr_aload_n (pc := 20) 0 k_fn_refusalsOf_20 rfl rfl ?_
          refine tr_getP (pc := 21) k_fn_refusalsOf_21 fl_fn_48 rfl (Eq.trans rfl (hsk.1 0 5 _ rfl)) ?_
          refine tr_iload_n (pc := 24) 1 k_fn_refusalsOf_24 rfl rfl ?_
          refine tr_ialdx (pc := 25) k_fn_refusalsOf_25 (mvin (hsk.2.1 11 5 _ rfl) hv.1) rfl ?_
          replace hv := hv.2
          refine tr_goto (pc := 26) 31 k_fn_refusalsOf_26 (by decide) ?_
          refine tr_ireturn (pc := 31) k_fn_refusalsOf_31 rfl rfl ?_
          show mT g me_fn_count (d + 5) 0 0 120 [some (vr 0 0), some (vi x1)] [vi (hI h 11 5 ((x1 - (10 : Int32)).toNatClampNeg))] h _
          refine tr_ireturn (pc := 120) k_fn_count_120 rfl rfl ?_
          exact hv
theorem v_it_bitCount_0 {g : mG} {d : Nat} (x0 : Int32) {h : mH} {Q : Option mV → mH → Prop} (hsk : mSK h) (hv : Q (some (vi ((((((((x0 - (((x0.toUInt32 >>> (((1 : Int32)).toUInt32 &&& Int32.toUInt32 31)).toInt32) &&& (1431655765 : Int32))) &&& (858993459 : Int32)) + ((((x0 - (((x0.toUInt32 >>> (((1 : Int32)).toUInt32 &&& Int32.toUInt32 31)).toInt32) &&& (1431655765 : Int32))).toUInt32 >>> (((2 : Int32)).toUInt32 &&& Int32.toUInt32 31)).toInt32) &&& (858993459 : Int32))) + (((((x0 - (((x0.toUInt32 >>> (((1 : Int32)).toUInt32 &&& Int32.toUInt32 31)).toInt32) &&& (1431655765 : Int32))) &&& (858993459 : Int32)) + ((((x0 - (((x0.toUInt32 >>> (((1 : Int32)).toUInt32 &&& Int32.toUInt32 31)).toInt32) &&& (1431655765 : Int32))).toUInt32 >>> (((2 : Int32)).toUInt32 &&& Int32.toUInt32 31)).toInt32) &&& (858993459 : Int32))).toUInt32 >>> (((4 : Int32)).toUInt32 &&& Int32.toUInt32 31)).toInt32)) &&& (252645135 : Int32)) + (((((((x0 - (((x0.toUInt32 >>> (((1 : Int32)).toUInt32 &&& Int32.toUInt32 31)).toInt32) &&& (1431655765 : Int32))) &&& (858993459 : Int32)) + ((((x0 - (((x0.toUInt32 >>> (((1 : Int32)).toUInt32 &&& Int32.toUInt32 31)).toInt32) &&& (1431655765 : Int32))).toUInt32 >>> (((2 : Int32)).toUInt32 &&& Int32.toUInt32 31)).toInt32) &&& (858993459 : Int32))) + (((((x0 - (((x0.toUInt32 >>> (((1 : Int32)).toUInt32 &&& Int32.toUInt32 31)).toInt32) &&& (1431655765 : Int32))) &&& (858993459 : Int32)) + ((((x0 - (((x0.toUInt32 >>> (((1 : Int32)).toUInt32 &&& Int32.toUInt32 31)).toInt32) &&& (1431655765 : Int32))).toUInt32 >>> (((2 : Int32)).toUInt32 &&& Int32.toUInt32 31)).toInt32) &&& (858993459 : Int32))).toUInt32 >>> (((4 : Int32)).toUInt32 &&& Int32.toUInt32 31)).toInt32)) &&& (252645135 : Int32)).toUInt32 >>> (((8 : Int32)).toUInt32 &&& Int32.toUInt32 31)).toInt32)) + ((((((((x0 - (((x0.toUInt32 >>> (((1 : Int32)).toUInt32 &&& Int32.toUInt32 31)).toInt32) &&& (1431655765 : Int32))) &&& (858993459 : Int32)) + ((((x0 - (((x0.toUInt32 >>> (((1 : Int32)).toUInt32 &&& Int32.toUInt32 31)).toInt32) &&& (1431655765 : Int32))).toUInt32 >>> (((2 : Int32)).toUInt32 &&& Int32.toUInt32 31)).toInt32) &&& (858993459 : Int32))) + (((((x0 - (((x0.toUInt32 >>> (((1 : Int32)).toUInt32 &&& Int32.toUInt32 31)).toInt32) &&& (1431655765 : Int32))) &&& (858993459 : Int32)) + ((((x0 - (((x0.toUInt32 >>> (((1 : Int32)).toUInt32 &&& Int32.toUInt32 31)).toInt32) &&& (1431655765 : Int32))).toUInt32 >>> (((2 : Int32)).toUInt32 &&& Int32.toUInt32 31)).toInt32) &&& (858993459 : Int32))).toUInt32 >>> (((4 : Int32)).toUInt32 &&& Int32.toUInt32 31)).toInt32)) &&& (252645135 : Int32)) + (((((((x0 - (((x0.toUInt32 >>> (((1 : Int32)).toUInt32 &&& Int32.toUInt32 31)).toInt32) &&& (1431655765 : Int32))) &&& (858993459 : Int32)) + ((((x0 - (((x0.toUInt32 >>> (((1 : Int32)).toUInt32 &&& Int32.toUInt32 31)).toInt32) &&& (1431655765 : Int32))).toUInt32 >>> (((2 : Int32)).toUInt32 &&& Int32.toUInt32 31)).toInt32) &&& (858993459 : Int32))) + (((((x0 - (((x0.toUInt32 >>> (((1 : Int32)).toUInt32 &&& Int32.toUInt32 31)).toInt32) &&& (1431655765 : Int32))) &&& (858993459 : Int32)) + ((((x0 - (((x0.toUInt32 >>> (((1 : Int32)).toUInt32 &&& Int32.toUInt32 31)).toInt32) &&& (1431655765 : Int32))).toUInt32 >>> (((2 : Int32)).toUInt32 &&& Int32.toUInt32 31)).toInt32) &&& (858993459 : Int32))).toUInt32 >>> (((4 : Int32)).toUInt32 &&& Int32.toUInt32 31)).toInt32)) &&& (252645135 : Int32)).toUInt32 >>> (((8 : Int32)).toUInt32 &&& Int32.toUInt32 31)).toInt32)).toUInt32 >>> (((16 : Int32)).toUInt32 &&& Int32.toUInt32 31)).toInt32)) &&& (63 : Int32)))) h) : mT g me_it_bitCount (d + 1) 0 0 0 [some (vi x0)] [] h Q := by
  refine tr_iload_n (pc := 0) 0 k_it_bitCount_0 rfl rfl ?_
  refine tr_iload_n (pc := 1) 0 k_it_bitCount_1 rfl rfl ?_
  refine tr_iconst (pc := 2) (v := 1) k_it_bitCount_2 (by decide) ?_
  refine tr_iushr (pc := 3) (v := ((x0.toUInt32 >>> (((1 : Int32)).toUInt32 &&& Int32.toUInt32 31)).toInt32)) k_it_bitCount_3 rfl ?_
  refine tr_ldcw (pc := 4) (v := 1431655765) k_it_bitCount_4 co_it_265 ?_
  refine tr_iand (pc := 7) k_it_bitCount_7 ?_
  refine tr_isub (pc := 8) k_it_bitCount_8 ?_
  refine tr_istore_n (pc := 9) 0 k_it_bitCount_9 rfl (by decide) rfl ?_
  show mT g me_it_bitCount (d + 1) 0 0 10 [some (vi (x0 - (((x0.toUInt32 >>> (((1 : Int32)).toUInt32 &&& Int32.toUInt32 31)).toInt32) &&& (1431655765 : Int32))))] [] h _
  refine tr_iload_n (pc := 10) 0 k_it_bitCount_10 rfl rfl ?_
  refine tr_ldcw (pc := 11) (v := 858993459) k_it_bitCount_11 co_it_266 ?_
  refine tr_iand (pc := 14) k_it_bitCount_14 ?_
  refine tr_iload_n (pc := 15) 0 k_it_bitCount_15 rfl rfl ?_
  refine tr_iconst (pc := 16) (v := 2) k_it_bitCount_16 (by decide) ?_
  refine tr_iushr (pc := 17) (v := (((x0 - (((x0.toUInt32 >>> (((1 : Int32)).toUInt32 &&& Int32.toUInt32 31)).toInt32) &&& (1431655765 : Int32))).toUInt32 >>> (((2 : Int32)).toUInt32 &&& Int32.toUInt32 31)).toInt32)) k_it_bitCount_17 rfl ?_
  refine tr_ldcw (pc := 18) (v := 858993459) k_it_bitCount_18 co_it_266 ?_
  refine tr_iand (pc := 21) k_it_bitCount_21 ?_
  refine tr_iadd (pc := 22) k_it_bitCount_22 ?_
  refine tr_istore_n (pc := 23) 0 k_it_bitCount_23 rfl (by decide) rfl ?_
  show mT g me_it_bitCount (d + 1) 0 0 24 [some (vi (((x0 - (((x0.toUInt32 >>> (((1 : Int32)).toUInt32 &&& Int32.toUInt32 31)).toInt32) &&& (1431655765 : Int32))) &&& (858993459 : Int32)) + ((((x0 - (((x0.toUInt32 >>> (((1 : Int32)).toUInt32 &&& Int32.toUInt32 31)).toInt32) &&& (1431655765 : Int32))).toUInt32 >>> (((2 : Int32)).toUInt32 &&& Int32.toUInt32 31)).toInt32) &&& (858993459 : Int32))))] [] h _
  refine tr_iload_n (pc := 24) 0 k_it_bitCount_24 rfl rfl ?_
  refine tr_iload_n (pc := 25) 0 k_it_bitCount_25 rfl rfl ?_
  refine tr_iconst (pc := 26) (v := 4) k_it_bitCount_26 (by decide) ?_
  refine tr_iushr (pc := 27) (v := (((((x0 - (((x0.toUInt32 >>> (((1 : Int32)).toUInt32 &&& Int32.toUInt32 31)).toInt32) &&& (1431655765 : Int32))) &&& (858993459 : Int32)) + ((((x0 - (((x0.toUInt32 >>> (((1 : Int32)).toUInt32 &&& Int32.toUInt32 31)).toInt32) &&& (1431655765 : Int32))).toUInt32 >>> (((2 : Int32)).toUInt32 &&& Int32.toUInt32 31)).toInt32) &&& (858993459 : Int32))).toUInt32 >>> (((4 : Int32)).toUInt32 &&& Int32.toUInt32 31)).toInt32)) k_it_bitCount_27 rfl ?_
  refine tr_iadd (pc := 28) k_it_bitCount_28 ?_
  refine tr_ldcw (pc := 29) (v := 252645135) k_it_bitCount_29 co_it_267 ?_
  refine tr_iand (pc := 32) k_it_bitCount_32 ?_
  refine tr_istore_n (pc := 33) 0 k_it_bitCount_33 rfl (by decide) rfl ?_
  show mT g me_it_bitCount (d + 1) 0 0 34 [some (vi (((((x0 - (((x0.toUInt32 >>> (((1 : Int32)).toUInt32 &&& Int32.toUInt32 31)).toInt32) &&& (1431655765 : Int32))) &&& (858993459 : Int32)) + ((((x0 - (((x0.toUInt32 >>> (((1 : Int32)).toUInt32 &&& Int32.toUInt32 31)).toInt32) &&& (1431655765 : Int32))).toUInt32 >>> (((2 : Int32)).toUInt32 &&& Int32.toUInt32 31)).toInt32) &&& (858993459 : Int32))) + (((((x0 - (((x0.toUInt32 >>> (((1 : Int32)).toUInt32 &&& Int32.toUInt32 31)).toInt32) &&& (1431655765 : Int32))) &&& (858993459 : Int32)) + ((((x0 - (((x0.toUInt32 >>> (((1 : Int32)).toUInt32 &&& Int32.toUInt32 31)).toInt32) &&& (1431655765 : Int32))).toUInt32 >>> (((2 : Int32)).toUInt32 &&& Int32.toUInt32 31)).toInt32) &&& (858993459 : Int32))).toUInt32 >>> (((4 : Int32)).toUInt32 &&& Int32.toUInt32 31)).toInt32)) &&& (252645135 : Int32)))] [] h _
  refine tr_iload_n (pc := 34) 0 k_it_bitCount_34 rfl rfl ?_
  refine tr_iload_n (pc := 35) 0 k_it_bitCount_35 rfl rfl ?_
  refine tr_bipush (pc := 36) (v := 8) k_it_bitCount_36 (by decide) ?_
  refine tr_iushr (pc := 38) (v := (((((((x0 - (((x0.toUInt32 >>> (((1 : Int32)).toUInt32 &&& Int32.toUInt32 31)).toInt32) &&& (1431655765 : Int32))) &&& (858993459 : Int32)) + ((((x0 - (((x0.toUInt32 >>> (((1 : Int32)).toUInt32 &&& Int32.toUInt32 31)).toInt32) &&& (1431655765 : Int32))).toUInt32 >>> (((2 : Int32)).toUInt32 &&& Int32.toUInt32 31)).toInt32) &&& (858993459 : Int32))) + (((((x0 - (((x0.toUInt32 >>> (((1 : Int32)).toUInt32 &&& Int32.toUInt32 31)).toInt32) &&& (1431655765 : Int32))) &&& (858993459 : Int32)) + ((((x0 - (((x0.toUInt32 >>> (((1 : Int32)).toUInt32 &&& Int32.toUInt32 31)).toInt32) &&& (1431655765 : Int32))).toUInt32 >>> (((2 : Int32)).toUInt32 &&& Int32.toUInt32 31)).toInt32) &&& (858993459 : Int32))).toUInt32 >>> (((4 : Int32)).toUInt32 &&& Int32.toUInt32 31)).toInt32)) &&& (252645135 : Int32)).toUInt32 >>> (((8 : Int32)).toUInt32 &&& Int32.toUInt32 31)).toInt32)) k_it_bitCount_38 rfl ?_
  refine tr_iadd (pc := 39) k_it_bitCount_39 ?_
  refine tr_istore_n (pc := 40) 0 k_it_bitCount_40 rfl (by decide) rfl ?_
  show mT g me_it_bitCount (d + 1) 0 0 41 [some (vi ((((((x0 - (((x0.toUInt32 >>> (((1 : Int32)).toUInt32 &&& Int32.toUInt32 31)).toInt32) &&& (1431655765 : Int32))) &&& (858993459 : Int32)) + ((((x0 - (((x0.toUInt32 >>> (((1 : Int32)).toUInt32 &&& Int32.toUInt32 31)).toInt32) &&& (1431655765 : Int32))).toUInt32 >>> (((2 : Int32)).toUInt32 &&& Int32.toUInt32 31)).toInt32) &&& (858993459 : Int32))) + (((((x0 - (((x0.toUInt32 >>> (((1 : Int32)).toUInt32 &&& Int32.toUInt32 31)).toInt32) &&& (1431655765 : Int32))) &&& (858993459 : Int32)) + ((((x0 - (((x0.toUInt32 >>> (((1 : Int32)).toUInt32 &&& Int32.toUInt32 31)).toInt32) &&& (1431655765 : Int32))).toUInt32 >>> (((2 : Int32)).toUInt32 &&& Int32.toUInt32 31)).toInt32) &&& (858993459 : Int32))).toUInt32 >>> (((4 : Int32)).toUInt32 &&& Int32.toUInt32 31)).toInt32)) &&& (252645135 : Int32)) + (((((((x0 - (((x0.toUInt32 >>> (((1 : Int32)).toUInt32 &&& Int32.toUInt32 31)).toInt32) &&& (1431655765 : Int32))) &&& (858993459 : Int32)) + ((((x0 - (((x0.toUInt32 >>> (((1 : Int32)).toUInt32 &&& Int32.toUInt32 31)).toInt32) &&& (1431655765 : Int32))).toUInt32 >>> (((2 : Int32)).toUInt32 &&& Int32.toUInt32 31)).toInt32) &&& (858993459 : Int32))) + (((((x0 - (((x0.toUInt32 >>> (((1 : Int32)).toUInt32 &&& Int32.toUInt32 31)).toInt32) &&& (1431655765 : Int32))) &&& (858993459 : Int32)) + ((((x0 - (((x0.toUInt32 >>> (((1 : Int32)).toUInt32 &&& Int32.toUInt32 31)).toInt32) &&& (1431655765 : Int32))).toUInt32 >>> (((2 : Int32)).toUInt32 &&& Int32.toUInt32 31)).toInt32) &&& (858993459 : Int32))).toUInt32 >>> (((4 : Int32)).toUInt32 &&& Int32.toUInt32 31)).toInt32)) &&& (252645135 : Int32)).toUInt32 >>> (((8 : Int32)).toUInt32 &&& Int32.toUInt32 31)).toInt32)))] [] h _
  refine tr_iload_n (pc := 41) 0 k_it_bitCount_41 rfl rfl ?_
  refine tr_iload_n (pc := 42) 0 k_it_bitCount_42 rfl rfl ?_
  refine tr_bipush (pc := 43) (v := 16) k_it_bitCount_43 (by decide) ?_
  refine tr_iushr (pc := 45) (v := ((((((((x0 - (((x0.toUInt32 >>> (((1 : Int32)).toUInt32 &&& Int32.toUInt32 31)).toInt32) &&& (1431655765 : Int32))) &&& (858993459 : Int32)) + ((((x0 - (((x0.toUInt32 >>> (((1 : Int32)).toUInt32 &&& Int32.toUInt32 31)).toInt32) &&& (1431655765 : Int32))).toUInt32 >>> (((2 : Int32)).toUInt32 &&& Int32.toUInt32 31)).toInt32) &&& (858993459 : Int32))) + (((((x0 - (((x0.toUInt32 >>> (((1 : Int32)).toUInt32 &&& Int32.toUInt32 31)).toInt32) &&& (1431655765 : Int32))) &&& (858993459 : Int32)) + ((((x0 - (((x0.toUInt32 >>> (((1 : Int32)).toUInt32 &&& Int32.toUInt32 31)).toInt32) &&& (1431655765 : Int32))).toUInt32 >>> (((2 : Int32)).toUInt32 &&& Int32.toUInt32 31)).toInt32) &&& (858993459 : Int32))).toUInt32 >>> (((4 : Int32)).toUInt32 &&& Int32.toUInt32 31)).toInt32)) &&& (252645135 : Int32)) + (((((((x0 - (((x0.toUInt32 >>> (((1 : Int32)).toUInt32 &&& Int32.toUInt32 31)).toInt32) &&& (1431655765 : Int32))) &&& (858993459 : Int32)) + ((((x0 - (((x0.toUInt32 >>> (((1 : Int32)).toUInt32 &&& Int32.toUInt32 31)).toInt32) &&& (1431655765 : Int32))).toUInt32 >>> (((2 : Int32)).toUInt32 &&& Int32.toUInt32 31)).toInt32) &&& (858993459 : Int32))) + (((((x0 - (((x0.toUInt32 >>> (((1 : Int32)).toUInt32 &&& Int32.toUInt32 31)).toInt32) &&& (1431655765 : Int32))) &&& (858993459 : Int32)) + ((((x0 - (((x0.toUInt32 >>> (((1 : Int32)).toUInt32 &&& Int32.toUInt32 31)).toInt32) &&& (1431655765 : Int32))).toUInt32 >>> (((2 : Int32)).toUInt32 &&& Int32.toUInt32 31)).toInt32) &&& (858993459 : Int32))).toUInt32 >>> (((4 : Int32)).toUInt32 &&& Int32.toUInt32 31)).toInt32)) &&& (252645135 : Int32)).toUInt32 >>> (((8 : Int32)).toUInt32 &&& Int32.toUInt32 31)).toInt32)).toUInt32 >>> (((16 : Int32)).toUInt32 &&& Int32.toUInt32 31)).toInt32)) k_it_bitCount_45 rfl ?_
  refine tr_iadd (pc := 46) k_it_bitCount_46 ?_
  refine tr_istore_n (pc := 47) 0 k_it_bitCount_47 rfl (by decide) rfl ?_
  show mT g me_it_bitCount (d + 1) 0 0 48 [some (vi (((((((x0 - (((x0.toUInt32 >>> (((1 : Int32)).toUInt32 &&& Int32.toUInt32 31)).toInt32) &&& (1431655765 : Int32))) &&& (858993459 : Int32)) + ((((x0 - (((x0.toUInt32 >>> (((1 : Int32)).toUInt32 &&& Int32.toUInt32 31)).toInt32) &&& (1431655765 : Int32))).toUInt32 >>> (((2 : Int32)).toUInt32 &&& Int32.toUInt32 31)).toInt32) &&& (858993459 : Int32))) + (((((x0 - (((x0.toUInt32 >>> (((1 : Int32)).toUInt32 &&& Int32.toUInt32 31)).toInt32) &&& (1431655765 : Int32))) &&& (858993459 : Int32)) + ((((x0 - (((x0.toUInt32 >>> (((1 : Int32)).toUInt32 &&& Int32.toUInt32 31)).toInt32) &&& (1431655765 : Int32))).toUInt32 >>> (((2 : Int32)).toUInt32 &&& Int32.toUInt32 31)).toInt32) &&& (858993459 : Int32))).toUInt32 >>> (((4 : Int32)).toUInt32 &&& Int32.toUInt32 31)).toInt32)) &&& (252645135 : Int32)) + (((((((x0 - (((x0.toUInt32 >>> (((1 : Int32)).toUInt32 &&& Int32.toUInt32 31)).toInt32) &&& (1431655765 : Int32))) &&& (858993459 : Int32)) + ((((x0 - (((x0.toUInt32 >>> (((1 : Int32)).toUInt32 &&& Int32.toUInt32 31)).toInt32) &&& (1431655765 : Int32))).toUInt32 >>> (((2 : Int32)).toUInt32 &&& Int32.toUInt32 31)).toInt32) &&& (858993459 : Int32))) + (((((x0 - (((x0.toUInt32 >>> (((1 : Int32)).toUInt32 &&& Int32.toUInt32 31)).toInt32) &&& (1431655765 : Int32))) &&& (858993459 : Int32)) + ((((x0 - (((x0.toUInt32 >>> (((1 : Int32)).toUInt32 &&& Int32.toUInt32 31)).toInt32) &&& (1431655765 : Int32))).toUInt32 >>> (((2 : Int32)).toUInt32 &&& Int32.toUInt32 31)).toInt32) &&& (858993459 : Int32))).toUInt32 >>> (((4 : Int32)).toUInt32 &&& Int32.toUInt32 31)).toInt32)) &&& (252645135 : Int32)).toUInt32 >>> (((8 : Int32)).toUInt32 &&& Int32.toUInt32 31)).toInt32)) + ((((((((x0 - (((x0.toUInt32 >>> (((1 : Int32)).toUInt32 &&& Int32.toUInt32 31)).toInt32) &&& (1431655765 : Int32))) &&& (858993459 : Int32)) + ((((x0 - (((x0.toUInt32 >>> (((1 : Int32)).toUInt32 &&& Int32.toUInt32 31)).toInt32) &&& (1431655765 : Int32))).toUInt32 >>> (((2 : Int32)).toUInt32 &&& Int32.toUInt32 31)).toInt32) &&& (858993459 : Int32))) + (((((x0 - (((x0.toUInt32 >>> (((1 : Int32)).toUInt32 &&& Int32.toUInt32 31)).toInt32) &&& (1431655765 : Int32))) &&& (858993459 : Int32)) + ((((x0 - (((x0.toUInt32 >>> (((1 : Int32)).toUInt32 &&& Int32.toUInt32 31)).toInt32) &&& (1431655765 : Int32))).toUInt32 >>> (((2 : Int32)).toUInt32 &&& Int32.toUInt32 31)).toInt32) &&& (858993459 : Int32))).toUInt32 >>> (((4 : Int32)).toUInt32 &&& Int32.toUInt32 31)).toInt32)) &&& (252645135 : Int32)) + (((((((x0 - (((x0.toUInt32 >>> (((1 : Int32)).toUInt32 &&& Int32.toUInt32 31)).toInt32) &&& (1431655765 : Int32))) &&& (858993459 : Int32)) + ((((x0 - (((x0.toUInt32 >>> (((1 : Int32)).toUInt32 &&& Int32.toUInt32 31)).toInt32) &&& (1431655765 : Int32))).toUInt32 >>> (((2 : Int32)).toUInt32 &&& Int32.toUInt32 31)).toInt32) &&& (858993459 : Int32))) + (((((x0 - (((x0.toUInt32 >>> (((1 : Int32)).toUInt32 &&& Int32.toUInt32 31)).toInt32) &&& (1431655765 : Int32))) &&& (858993459 : Int32)) + ((((x0 - (((x0.toUInt32 >>> (((1 : Int32)).toUInt32 &&& Int32.toUInt32 31)).toInt32) &&& (1431655765 : Int32))).toUInt32 >>> (((2 : Int32)).toUInt32 &&& Int32.toUInt32 31)).toInt32) &&& (858993459 : Int32))).toUInt32 >>> (((4 : Int32)).toUInt32 &&& Int32.toUInt32 31)).toInt32)) &&& (252645135 : Int32)).toUInt32 >>> (((8 : Int32)).toUInt32 &&& Int32.toUInt32 31)).toInt32)).toUInt32 >>> (((16 : Int32)).toUInt32 &&& Int32.toUInt32 31)).toInt32)))] [] h _
  refine tr_iload_n (pc := 48) 0 k_it_bitCount_48 rfl rfl ?_
  refine tr_bipush (pc := 49) (v := 63) k_it_bitCount_49 (by decide) ?_
  refine tr_iand (pc := 51) k_it_bitCount_51 ?_
  refine tr_ireturn (pc := 52) k_it_bitCount_52 rfl rfl ?_
  exact hv
theorem v_ga_emptyPipes_0 {g : mG} {d : Nat}  {h : mH} {Q : Option mV → mH → Prop} (hsk : mSK h) (hv : mT g me_ga_emptyPipes (d + 4) 0 0 4 [some (vr 1 0), some (vi (0 : Int32)), some (vi (0 : Int32))] [] h Q) : mT g me_ga_emptyPipes (d + 4) 0 0 0 [some (vr 1 0), none, none] [] h Q := by
  refine tr_iconst (pc := 0) (v := 0) k_ga_emptyPipes_0 (by decide) ?_
  refine tr_istore_n (pc := 1) 1 k_ga_emptyPipes_1 rfl (by decide) rfl ?_
  show mT g me_ga_emptyPipes (d + 4) 0 0 2 [some (vr 1 0), some (vi (0 : Int32)), none] [] h _
  refine tr_iconst (pc := 2) (v := 0) k_ga_emptyPipes_2 (by decide) ?_
  refine tr_istore_n (pc := 3) 2 k_ga_emptyPipes_3 rfl (by decide) rfl ?_
  show mT g me_ga_emptyPipes (d + 4) 0 0 4 [some (vr 1 0), some (vi (0 : Int32)), some (vi (0 : Int32))] [] h _
  exact hv
theorem v_ga_emptyPipes_4 {g : mG} {d : Nat} (x1 : Int32) (x2 : Int32) {h : mH} {Q : Option mV → mH → Prop} (hsk : mSK h) (hv : (((hI h 2 1 1) ≤ x2 → Q (some (vi x1)) h) ∧ (¬ (hI h 2 1 1) ≤ x2 → (∃ n1, mGet h 1 x2 (some (7, n1)) ∧ (((hI h 7 n1 8) = 0 → mT g me_ga_emptyPipes (d + 4) 0 0 4 [some (vr 1 0), some (vi (x1 + (0 : Int32))), some (vi (x2 + 1))] [] h Q) ∧ (¬ (hI h 7 n1 8) = 0 → mT g me_ga_emptyPipes (d + 4) 0 0 4 [some (vr 1 0), some (vi (x1 + (1 : Int32))), some (vi (x2 + 1))] [] h Q)))))) : mT g me_ga_emptyPipes (d + 4) 0 0 4 [some (vr 1 0), some (vi x1), some (vi x2)] [] h Q := by
  refine tr_iload_n (pc := 4) 2 k_ga_emptyPipes_4 rfl rfl ?_
  refine tr_aload_n (pc := 5) 0 k_ga_emptyPipes_5 rfl rfl ?_
  refine tr_getP (pc := 6) k_ga_emptyPipes_6 fl_ga_18 rfl (Eq.trans rfl (hsk.1 1 1 _ rfl)) ?_
  refine tr_callV (pc := 9) (d' := d + 3) (mc' := 0) (ms' := 0) [] k_ga_emptyPipes_9 ca_al_size ml_ga_24 ii_al_size ⟨by decide, rfl⟩ pa_al_size (by omega) (by omega) (by omega) rfl (Nat.le_of_ble_eq_true rfl) (Nat.le_of_ble_eq_true rfl) (Qk := fun v h9 => mT g me_ga_emptyPipes (d + 4) 0 0 12 [some (vr 1 0), some (vi x1), some (vi x2)] (v.toList ++ [vi x2]) h9 _) ?_ (fun _ _ z => z)
  show mT g me_al_size (d + 3) 0 0 0 [some (vr 2 1)] [] h _
  refine tr_aload_n (pc := 0) 0 k_al_size_0 rfl rfl ?_
  refine tr_getIx (pc := 1) k_al_size_1 fl_al_48 rfl rfl ?_
  refine tr_ireturn (pc := 4) k_al_size_4 rfl rfl ?_
  show mT g me_ga_emptyPipes (d + 4) 0 0 12 [some (vr 1 0), some (vi x1), some (vi x2)] [vi (hI h 2 1 1), vi x2] h _
  refine tr_icmp_ge (pc := 12) 46 k_ga_emptyPipes_12 (by decide) (fun q => ?_) (fun q => ?_)
  · replace hv := hv.1 q
    refine tr_iload_n (pc := 46) 1 k_ga_emptyPipes_46 rfl rfl ?_
    refine tr_ireturn (pc := 47) k_ga_emptyPipes_47 rfl rfl ?_
    exact hv
  · replace hv := hv.2 q
    refine tr_iload_n (pc := 15) 1 k_ga_emptyPipes_15 rfl rfl ?_
    refine tr_aload_n (pc := 16) 0 k_ga_emptyPipes_16 rfl rfl ?_
    refine tr_getP (pc := 17) k_ga_emptyPipes_17 fl_ga_18 rfl (Eq.trans rfl (hsk.1 1 1 _ rfl)) ?_
    refine tr_iload_n (pc := 20) 2 k_ga_emptyPipes_20 rfl rfl ?_
    obtain ⟨n1, hg, hv⟩ := hv
    refine tr_alget (pc := 21) k_ga_emptyPipes_21 ml_ga_28 (by omega) (Nat.le_of_ble_eq_true rfl) (mGet.up hg rfl rfl) ?_
    refine tr_cast (pc := 24) k_ga_emptyPipes_24 (by decide) cl_ga_34 ?_
    refine tr_getIx (pc := 27) k_ga_emptyPipes_27 fl_ga_49 rfl rfl ?_
    refine tr_if_eq (pc := 30) 37 k_ga_emptyPipes_30 (by decide) (fun q => ?_) (fun q => ?_)
    · replace hv := hv.1 q
      refine tr_iconst (pc := 37) (v := 0) k_ga_emptyPipes_37 (by decide) ?_
      refine tr_iadd (pc := 38) k_ga_emptyPipes_38 ?_
      refine tr_istore_n (pc := 39) 1 k_ga_emptyPipes_39 rfl (by decide) rfl ?_
      show mT g me_ga_emptyPipes (d + 4) 0 0 40 [some (vr 1 0), some (vi (x1 + (0 : Int32))), some (vi x2)] [] h _
      refine tr_iinc (pc := 40) (v := (x2 + 1)) k_ga_emptyPipes_40 rfl rfl (by decide) rfl ?_
      show mT g me_ga_emptyPipes (d + 4) 0 0 43 [some (vr 1 0), some (vi (x1 + (0 : Int32))), some (vi (x2 + 1))] [] h _
      refine tr_goto (pc := 43) 4 k_ga_emptyPipes_43 (by decide) ?_
      exact hv
    · replace hv := hv.2 q
      refine tr_iconst (pc := 33) (v := 1) k_ga_emptyPipes_33 (by decide) ?_
      refine tr_goto (pc := 34) 38 k_ga_emptyPipes_34 (by decide) ?_
      refine tr_iadd (pc := 38) k_ga_emptyPipes_38 ?_
      refine tr_istore_n (pc := 39) 1 k_ga_emptyPipes_39 rfl (by decide) rfl ?_
      show mT g me_ga_emptyPipes (d + 4) 0 0 40 [some (vr 1 0), some (vi (x1 + (1 : Int32))), some (vi x2)] [] h _
      refine tr_iinc (pc := 40) (v := (x2 + 1)) k_ga_emptyPipes_40 rfl rfl (by decide) rfl ?_
      show mT g me_ga_emptyPipes (d + 4) 0 0 43 [some (vr 1 0), some (vi (x1 + (1 : Int32))), some (vi (x2 + 1))] [] h _
      refine tr_goto (pc := 43) 4 k_ga_emptyPipes_43 (by decide) ?_
      exact hv
theorem v_fm_tank_0 {g : mG} {d : Nat} (x1 : Int32) (x2 : Int32) (x3 : Int32) (x4 : Int32) {h : mH} {Q : Option mV → mH → Prop} (hsk : mSK h) (hv : ((x1 < 0 → mT g me_fm_refuse (d + 1) 0 0 0 [some (vr 10 0), some (vi (-4 : Int32))] [] h (fun v h1 => ∃ y2, v = some (vi y2) ∧ mSK h1 ∧ Q (some (vi y2)) h1)) ∧ (¬ x1 < 0 → ((x2 < (1 : Int32) → mT g me_fm_refuse (d + 1) 0 0 0 [some (vr 10 0), some (vi (-4 : Int32))] [] h (fun v h3 => ∃ y4, v = some (vi y4) ∧ mSK h3 ∧ Q (some (vi y4)) h3)) ∧ (¬ x2 < (1 : Int32) → ((x3 < (1 : Int32) → mT g me_fm_refuse (d + 1) 0 0 0 [some (vr 10 0), some (vi (-4 : Int32))] [] h (fun v h5 => ∃ y6, v = some (vi y6) ∧ mSK h5 ∧ Q (some (vi y6)) h5)) ∧ (¬ x3 < (1 : Int32) → ((0 ≤ x4 → (((500 : Int32) < x1 → mT g me_fm_refuse (d + 1) 0 0 0 [some (vr 10 0), some (vi (-6 : Int32))] [] h (fun v h7 => ∃ y8, v = some (vi y8) ∧ mSK h7 ∧ Q (some (vi y8)) h7)) ∧ (¬ (500 : Int32) < x1 → (((1000 : Int32) < x2 → mT g me_fm_refuse (d + 1) 0 0 0 [some (vr 10 0), some (vi (-6 : Int32))] [] h (fun v h9 => ∃ y10, v = some (vi y10) ∧ mSK h9 ∧ Q (some (vi y10)) h9)) ∧ (¬ (1000 : Int32) < x2 → (((60 : Int32) < x3 → mT g me_fm_refuse (d + 1) 0 0 0 [some (vr 10 0), some (vi (-6 : Int32))] [] h (fun v h11 => ∃ y12, v = some (vi y12) ∧ mSK h11 ∧ Q (some (vi y12)) h11)) ∧ (¬ (60 : Int32) < x3 → (((500 : Int32) < x4 → mT g me_fm_refuse (d + 1) 0 0 0 [some (vr 10 0), some (vi (-6 : Int32))] [] h (fun v h13 => ∃ y14, v = some (vi y14) ∧ mSK h13 ∧ Q (some (vi y14)) h13)) ∧ (¬ (500 : Int32) < x4 → ((¬ (hI h 10 0 2) = (4 : Int32) → (vp_in (hI h 10 0 2) 4 ∧ (vp_in (hI h 10 0 2) 4 ∧ (vp_in (hI h 10 0 2) 4 ∧ (vp_in (hI h 10 0 2) 4 ∧ (vp_in (hI h 10 0 2) 4 ∧ Q (some (vi (((hI h 10 0 2) + (1 : Int32)) - (1 : Int32)))) (setI (setI (setI (setI (setI (setI h 11 7 ((hI h 10 0 2).toNatClampNeg) x1) 11 8 ((hI h 10 0 2).toNatClampNeg) x2) 11 9 ((hI h 10 0 2).toNatClampNeg) x3) 11 10 ((hI h 10 0 2).toNatClampNeg) x4) 11 11 ((hI h 10 0 2).toNatClampNeg) (x2 * x3)) 10 0 2 ((hI h 10 0 2) + (1 : Int32))))))))) ∧ ((hI h 10 0 2) = (4 : Int32) → mT g me_fm_refuse (d + 1) 0 0 0 [some (vr 10 0), some (vi (-6 : Int32))] [] h (fun v h15 => ∃ y16, v = some (vi y16) ∧ mSK h15 ∧ Q (some (vi y16)) h15)))))))))))) ∧ (¬ 0 ≤ x4 → mT g me_fm_refuse (d + 1) 0 0 0 [some (vr 10 0), some (vi (-4 : Int32))] [] h (fun v h17 => ∃ y18, v = some (vi y18) ∧ mSK h17 ∧ Q (some (vi y18)) h17)))))))))) : mT g me_fm_tank (d + 2) 0 0 0 [some (vr 10 0), some (vi x1), some (vi x2), some (vi x3), some (vi x4)] [] h Q := by
  refine tr_iload_n (pc := 0) 1 k_fm_tank_0 rfl rfl ?_
  refine tr_if_lt (pc := 1) 19 k_fm_tank_1 (by decide) (fun q => ?_) (fun q => ?_)
  · replace hv := hv.1 q
    refine tr_aload_n (pc := 19) 0 k_fm_tank_19 rfl rfl ?_
    refine tr_bipush (pc := 20) (v := -4) k_fm_tank_20 (by decide) ?_
    have hT := hv
    clear hv
    refine tr_callV (pc := 22) (d' := d + 1) (mc' := 0) (ms' := 0) [vi (-4 : Int32)] k_fm_tank_22 ca_fm_refuse ml_fm_133 ii_fm_refuse ⟨by decide, rfl⟩ pa_fm_refuse (by omega) (by omega) (by omega) rfl (Nat.le_of_ble_eq_true rfl) (Nat.le_of_ble_eq_true rfl) hT (fun v h9 hv => ?_)
    clear hT
    obtain ⟨y2, rfl, hv⟩ := hv
    obtain ⟨h1, eh⟩ : ∃ z, z = h9 := ⟨_, rfl⟩
    subst eh
    obtain ⟨hskh1, hv⟩ := hv
    show mT g me_fm_tank (d + 2) 0 0 25 [some (vr 10 0), some (vi x1), some (vi x2), some (vi x3), some (vi x4)] [vi y2] h1 _
    refine tr_ireturn (pc := 25) k_fm_tank_25 rfl rfl ?_
    exact hv
  · replace hv := hv.2 q
    refine tr_iload_n (pc := 4) 2 k_fm_tank_4 rfl rfl ?_
    refine tr_iconst (pc := 5) (v := 1) k_fm_tank_5 (by decide) ?_
    refine tr_icmp_lt (pc := 6) 19 k_fm_tank_6 (by decide) (fun q => ?_) (fun q => ?_)
    · replace hv := hv.1 q
      refine tr_aload_n (pc := 19) 0 k_fm_tank_19 rfl rfl ?_
      refine tr_bipush (pc := 20) (v := -4) k_fm_tank_20 (by decide) ?_
      have hT := hv
      clear hv
      refine tr_callV (pc := 22) (d' := d + 1) (mc' := 0) (ms' := 0) [vi (-4 : Int32)] k_fm_tank_22 ca_fm_refuse ml_fm_133 ii_fm_refuse ⟨by decide, rfl⟩ pa_fm_refuse (by omega) (by omega) (by omega) rfl (Nat.le_of_ble_eq_true rfl) (Nat.le_of_ble_eq_true rfl) hT (fun v h9 hv => ?_)
      clear hT
      obtain ⟨y4, rfl, hv⟩ := hv
      obtain ⟨h3, eh⟩ : ∃ z, z = h9 := ⟨_, rfl⟩
      subst eh
      obtain ⟨hskh3, hv⟩ := hv
      show mT g me_fm_tank (d + 2) 0 0 25 [some (vr 10 0), some (vi x1), some (vi x2), some (vi x3), some (vi x4)] [vi y4] h3 _
      refine tr_ireturn (pc := 25) k_fm_tank_25 rfl rfl ?_
      exact hv
    · replace hv := hv.2 q
      refine tr_iload_n (pc := 9) 3 k_fm_tank_9 rfl rfl ?_
      refine tr_iconst (pc := 10) (v := 1) k_fm_tank_10 (by decide) ?_
      refine tr_icmp_lt (pc := 11) 19 k_fm_tank_11 (by decide) (fun q => ?_) (fun q => ?_)
      · replace hv := hv.1 q
        refine tr_aload_n (pc := 19) 0 k_fm_tank_19 rfl rfl ?_
        refine tr_bipush (pc := 20) (v := -4) k_fm_tank_20 (by decide) ?_
        have hT := hv
        clear hv
        refine tr_callV (pc := 22) (d' := d + 1) (mc' := 0) (ms' := 0) [vi (-4 : Int32)] k_fm_tank_22 ca_fm_refuse ml_fm_133 ii_fm_refuse ⟨by decide, rfl⟩ pa_fm_refuse (by omega) (by omega) (by omega) rfl (Nat.le_of_ble_eq_true rfl) (Nat.le_of_ble_eq_true rfl) hT (fun v h9 hv => ?_)
        clear hT
        obtain ⟨y6, rfl, hv⟩ := hv
        obtain ⟨h5, eh⟩ : ∃ z, z = h9 := ⟨_, rfl⟩
        subst eh
        obtain ⟨hskh5, hv⟩ := hv
        show mT g me_fm_tank (d + 2) 0 0 25 [some (vr 10 0), some (vi x1), some (vi x2), some (vi x3), some (vi x4)] [vi y6] h5 _
        refine tr_ireturn (pc := 25) k_fm_tank_25 rfl rfl ?_
        exact hv
      · replace hv := hv.2 q
        refine tr_iload (pc := 14) k_fm_tank_14 rfl ?_
        refine tr_if_ge (pc := 16) 26 k_fm_tank_16 (by decide) (fun q => ?_) (fun q => ?_)
        · replace hv := hv.1 q
          refine tr_iload_n (pc := 26) 1 k_fm_tank_26 rfl rfl ?_
          refine tr_sipush (pc := 27) (v := 500) k_fm_tank_27 (by decide) ?_
          refine tr_icmp_gt (pc := 30) 62 k_fm_tank_30 (by decide) (fun q => ?_) (fun q => ?_)
          · replace hv := hv.1 q
            refine tr_aload_n (pc := 62) 0 k_fm_tank_62 rfl rfl ?_
            refine tr_bipush (pc := 63) (v := -6) k_fm_tank_63 (by decide) ?_
            have hT := hv
            clear hv
            refine tr_callV (pc := 65) (d' := d + 1) (mc' := 0) (ms' := 0) [vi (-6 : Int32)] k_fm_tank_65 ca_fm_refuse ml_fm_133 ii_fm_refuse ⟨by decide, rfl⟩ pa_fm_refuse (by omega) (by omega) (by omega) rfl (Nat.le_of_ble_eq_true rfl) (Nat.le_of_ble_eq_true rfl) hT (fun v h9 hv => ?_)
            clear hT
            obtain ⟨y8, rfl, hv⟩ := hv
            obtain ⟨h7, eh⟩ : ∃ z, z = h9 := ⟨_, rfl⟩
            subst eh
            obtain ⟨hskh7, hv⟩ := hv
            show mT g me_fm_tank (d + 2) 0 0 68 [some (vr 10 0), some (vi x1), some (vi x2), some (vi x3), some (vi x4)] [vi y8] h7 _
            refine tr_ireturn (pc := 68) k_fm_tank_68 rfl rfl ?_
            exact hv
          · replace hv := hv.2 q
            refine tr_iload_n (pc := 33) 2 k_fm_tank_33 rfl rfl ?_
            refine tr_sipush (pc := 34) (v := 1000) k_fm_tank_34 (by decide) ?_
            refine tr_icmp_gt (pc := 37) 62 k_fm_tank_37 (by decide) (fun q => ?_) (fun q => ?_)
            · replace hv := hv.1 q
              refine tr_aload_n (pc := 62) 0 k_fm_tank_62 rfl rfl ?_
              refine tr_bipush (pc := 63) (v := -6) k_fm_tank_63 (by decide) ?_
              have hT := hv
              clear hv
              refine tr_callV (pc := 65) (d' := d + 1) (mc' := 0) (ms' := 0) [vi (-6 : Int32)] k_fm_tank_65 ca_fm_refuse ml_fm_133 ii_fm_refuse ⟨by decide, rfl⟩ pa_fm_refuse (by omega) (by omega) (by omega) rfl (Nat.le_of_ble_eq_true rfl) (Nat.le_of_ble_eq_true rfl) hT (fun v h9 hv => ?_)
              clear hT
              obtain ⟨y10, rfl, hv⟩ := hv
              obtain ⟨h9, eh⟩ : ∃ z, z = h9 := ⟨_, rfl⟩
              subst eh
              obtain ⟨hskh9, hv⟩ := hv
              show mT g me_fm_tank (d + 2) 0 0 68 [some (vr 10 0), some (vi x1), some (vi x2), some (vi x3), some (vi x4)] [vi y10] h9 _
              refine tr_ireturn (pc := 68) k_fm_tank_68 rfl rfl ?_
              exact hv
            · replace hv := hv.2 q
              refine tr_iload_n (pc := 40) 3 k_fm_tank_40 rfl rfl ?_
              refine tr_bipush (pc := 41) (v := 60) k_fm_tank_41 (by decide) ?_
              refine tr_icmp_gt (pc := 43) 62 k_fm_tank_43 (by decide) (fun q => ?_) (fun q => ?_)
              · replace hv := hv.1 q
                refine tr_aload_n (pc := 62) 0 k_fm_tank_62 rfl rfl ?_
                refine tr_bipush (pc := 63) (v := -6) k_fm_tank_63 (by decide) ?_
                have hT := hv
                clear hv
                refine tr_callV (pc := 65) (d' := d + 1) (mc' := 0) (ms' := 0) [vi (-6 : Int32)] k_fm_tank_65 ca_fm_refuse ml_fm_133 ii_fm_refuse ⟨by decide, rfl⟩ pa_fm_refuse (by omega) (by omega) (by omega) rfl (Nat.le_of_ble_eq_true rfl) (Nat.le_of_ble_eq_true rfl) hT (fun v h9 hv => ?_)
                clear hT
                obtain ⟨y12, rfl, hv⟩ := hv
                obtain ⟨h11, eh⟩ : ∃ z, z = h9 := ⟨_, rfl⟩
                subst eh
                obtain ⟨hskh11, hv⟩ := hv
                show mT g me_fm_tank (d + 2) 0 0 68 [some (vr 10 0), some (vi x1), some (vi x2), some (vi x3), some (vi x4)] [vi y12] h11 _
                refine tr_ireturn (pc := 68) k_fm_tank_68 rfl rfl ?_
                exact hv
              · replace hv := hv.2 q
                refine tr_iload (pc := 46) k_fm_tank_46 rfl ?_
                refine tr_sipush (pc := 48) (v := 500) k_fm_tank_48 (by decide) ?_
                refine tr_icmp_gt (pc := 51) 62 k_fm_tank_51 (by decide) (fun q => ?_) (fun q => ?_)
                · replace hv := hv.1 q
                  refine tr_aload_n (pc := 62) 0 k_fm_tank_62 rfl rfl ?_
                  refine tr_bipush (pc := 63) (v := -6) k_fm_tank_63 (by decide) ?_
                  have hT := hv
                  clear hv
                  refine tr_callV (pc := 65) (d' := d + 1) (mc' := 0) (ms' := 0) [vi (-6 : Int32)] k_fm_tank_65 ca_fm_refuse ml_fm_133 ii_fm_refuse ⟨by decide, rfl⟩ pa_fm_refuse (by omega) (by omega) (by omega) rfl (Nat.le_of_ble_eq_true rfl) (Nat.le_of_ble_eq_true rfl) hT (fun v h9 hv => ?_)
                  clear hT
                  obtain ⟨y14, rfl, hv⟩ := hv
                  obtain ⟨h13, eh⟩ : ∃ z, z = h9 := ⟨_, rfl⟩
                  subst eh
                  obtain ⟨hskh13, hv⟩ := hv
                  show mT g me_fm_tank (d + 2) 0 0 68 [some (vr 10 0), some (vi x1), some (vi x2), some (vi x3), some (vi x4)] [vi y14] h13 _
                  refine tr_ireturn (pc := 68) k_fm_tank_68 rfl rfl ?_
                  exact hv
                · replace hv := hv.2 q
                  refine tr_aload_n (pc := 54) 0 k_fm_tank_54 rfl rfl ?_
                  refine tr_getIx (pc := 55) k_fm_tank_55 fl_fm_141 rfl rfl ?_
                  refine tr_iconst (pc := 58) (v := 4) k_fm_tank_58 (by decide) ?_
                  refine tr_icmp_ne (pc := 59) 69 k_fm_tank_59 (by decide) (fun q => ?_) (fun q => ?_)
                  · replace hv := hv.1 q
                    refine tr_aload_n (pc := 69) 0 k_fm_tank_69 rfl rfl ?_
                    refine tr_getP (pc := 70) k_fm_tank_70 fl_fm_17 rfl (Eq.trans rfl (hsk.1 10 8 _ rfl)) ?_
                    refine tr_aload_n (pc := 73) 0 k_fm_tank_73 rfl rfl ?_
                    refine tr_getIx (pc := 74) k_fm_tank_74 fl_fm_141 rfl rfl ?_
                    refine tr_iload_n (pc := 77) 1 k_fm_tank_77 rfl rfl ?_
                    refine tr_iast (pc := 78) k_fm_tank_78 (mvin (hsk.2.1 11 7 _ rfl) hv.1) ?_
                    replace hv := hv.2
                    refine tr_aload_n (pc := 79) 0 k_fm_tank_79 rfl rfl ?_
                    refine tr_getP (pc := 80) k_fm_tank_80 fl_fm_20 rfl (Eq.trans (hP_setI) (hsk.1 10 9 _ rfl)) ?_
                    refine tr_aload_n (pc := 83) 0 k_fm_tank_83 rfl rfl ?_
                    refine tr_getIx (pc := 84) k_fm_tank_84 fl_fm_141 rfl (hI_nk (by decide)) ?_
                    refine tr_iload_n (pc := 87) 2 k_fm_tank_87 rfl rfl ?_
                    refine tr_iast (pc := 88) k_fm_tank_88 (mvin (hsk.2.1 11 8 _ rfl) hv.1) ?_
                    replace hv := hv.2
                    refine tr_aload_n (pc := 89) 0 k_fm_tank_89 rfl rfl ?_
                    refine tr_getP (pc := 90) k_fm_tank_90 fl_fm_23 rfl (Eq.trans (Eq.trans (hP_setI) (hP_setI)) (hsk.1 10 10 _ rfl)) ?_
                    refine tr_aload_n (pc := 93) 0 k_fm_tank_93 rfl rfl ?_
                    refine tr_getIx (pc := 94) k_fm_tank_94 fl_fm_141 rfl (Eq.trans (hI_nk (by decide)) (hI_nk (by decide))) ?_
                    refine tr_iload_n (pc := 97) 3 k_fm_tank_97 rfl rfl ?_
                    refine tr_iast (pc := 98) k_fm_tank_98 (mvin (hsk.2.1 11 9 _ rfl) hv.1) ?_
                    replace hv := hv.2
                    refine tr_aload_n (pc := 99) 0 k_fm_tank_99 rfl rfl ?_
                    refine tr_getP (pc := 100) k_fm_tank_100 fl_fm_26 rfl (Eq.trans (Eq.trans (hP_setI) (Eq.trans (hP_setI) (hP_setI))) (hsk.1 10 11 _ rfl)) ?_
                    refine tr_aload_n (pc := 103) 0 k_fm_tank_103 rfl rfl ?_
                    refine tr_getIx (pc := 104) k_fm_tank_104 fl_fm_141 rfl (Eq.trans (hI_nk (by decide)) (Eq.trans (hI_nk (by decide)) (hI_nk (by decide)))) ?_
                    refine tr_iload (pc := 107) k_fm_tank_107 rfl ?_
                    refine tr_iast (pc := 109) k_fm_tank_109 (mvin (hsk.2.1 11 10 _ rfl) hv.1) ?_
                    replace hv := hv.2
                    refine tr_aload_n (pc := 110) 0 k_fm_tank_110 rfl rfl ?_
                    refine tr_getP (pc := 111) k_fm_tank_111 fl_fm_29 rfl (Eq.trans (Eq.trans (hP_setI) (Eq.trans (hP_setI) (Eq.trans (hP_setI) (hP_setI)))) (hsk.1 10 12 _ rfl)) ?_
                    refine tr_aload_n (pc := 114) 0 k_fm_tank_114 rfl rfl ?_
                    refine tr_getIx (pc := 115) k_fm_tank_115 fl_fm_141 rfl (Eq.trans (hI_nk (by decide)) (Eq.trans (hI_nk (by decide)) (Eq.trans (hI_nk (by decide)) (hI_nk (by decide))))) ?_
                    refine tr_iload_n (pc := 118) 2 k_fm_tank_118 rfl rfl ?_
                    refine tr_iload_n (pc := 119) 3 k_fm_tank_119 rfl rfl ?_
                    refine tr_imul (pc := 120) k_fm_tank_120 ?_
                    refine tr_iast (pc := 121) k_fm_tank_121 (mvin (hsk.2.1 11 11 _ rfl) hv.1) ?_
                    replace hv := hv.2
                    refine tr_aload_n (pc := 122) 0 k_fm_tank_122 rfl rfl ?_
                    refine tr_dup (pc := 123) k_fm_tank_123 rfl ?_
                    refine tr_getIx (pc := 124) k_fm_tank_124 fl_fm_141 rfl (Eq.trans (hI_nk (by decide)) (Eq.trans (hI_nk (by decide)) (Eq.trans (hI_nk (by decide)) (Eq.trans (hI_nk (by decide)) (hI_nk (by decide)))))) ?_
                    refine tr_iconst (pc := 127) (v := 1) k_fm_tank_127 (by decide) ?_
                    refine tr_iadd (pc := 128) k_fm_tank_128 ?_
                    refine tr_putI (pc := 129) k_fm_tank_129 fl_fm_141 (Or.inl rfl) rfl ⟨rfl, rfl⟩ ?_
                    refine tr_aload_n (pc := 132) 0 k_fm_tank_132 rfl rfl ?_
                    refine tr_getIx (pc := 133) k_fm_tank_133 fl_fm_141 rfl (hI_eq) ?_
                    refine tr_iconst (pc := 136) (v := 1) k_fm_tank_136 (by decide) ?_
                    refine tr_isub (pc := 137) k_fm_tank_137 ?_
                    refine tr_ireturn (pc := 138) k_fm_tank_138 rfl rfl ?_
                    exact hv
                  · replace hv := hv.2 q
                    refine tr_aload_n (pc := 62) 0 k_fm_tank_62 rfl rfl ?_
                    refine tr_bipush (pc := 63) (v := -6) k_fm_tank_63 (by decide) ?_
                    have hT := hv
                    clear hv
                    refine tr_callV (pc := 65) (d' := d + 1) (mc' := 0) (ms' := 0) [vi (-6 : Int32)] k_fm_tank_65 ca_fm_refuse ml_fm_133 ii_fm_refuse ⟨by decide, rfl⟩ pa_fm_refuse (by omega) (by omega) (by omega) rfl (Nat.le_of_ble_eq_true rfl) (Nat.le_of_ble_eq_true rfl) hT (fun v h9 hv => ?_)
                    clear hT
                    obtain ⟨y16, rfl, hv⟩ := hv
                    obtain ⟨h15, eh⟩ : ∃ z, z = h9 := ⟨_, rfl⟩
                    subst eh
                    obtain ⟨hskh15, hv⟩ := hv
                    show mT g me_fm_tank (d + 2) 0 0 68 [some (vr 10 0), some (vi x1), some (vi x2), some (vi x3), some (vi x4)] [vi y16] h15 _
                    refine tr_ireturn (pc := 68) k_fm_tank_68 rfl rfl ?_
                    exact hv
        · replace hv := hv.2 q
          refine tr_aload_n (pc := 19) 0 k_fm_tank_19 rfl rfl ?_
          refine tr_bipush (pc := 20) (v := -4) k_fm_tank_20 (by decide) ?_
          have hT := hv
          clear hv
          refine tr_callV (pc := 22) (d' := d + 1) (mc' := 0) (ms' := 0) [vi (-4 : Int32)] k_fm_tank_22 ca_fm_refuse ml_fm_133 ii_fm_refuse ⟨by decide, rfl⟩ pa_fm_refuse (by omega) (by omega) (by omega) rfl (Nat.le_of_ble_eq_true rfl) (Nat.le_of_ble_eq_true rfl) hT (fun v h9 hv => ?_)
          clear hT
          obtain ⟨y18, rfl, hv⟩ := hv
          obtain ⟨h17, eh⟩ : ∃ z, z = h9 := ⟨_, rfl⟩
          subst eh
          obtain ⟨hskh17, hv⟩ := hv
          show mT g me_fm_tank (d + 2) 0 0 25 [some (vr 10 0), some (vi x1), some (vi x2), some (vi x3), some (vi x4)] [vi y18] h17 _
          refine tr_ireturn (pc := 25) k_fm_tank_25 rfl rfl ?_
          exact hv
theorem v_fm_refuse_0 {g : mG} {d : Nat} (x1 : Int32) {h : mH} {Q : Option mV → mH → Prop} (hsk : mSK h) (hv : (vp_in (-x1) 7 ∧ (vp_in (-x1) 7 ∧ Q (some (vi x1)) (setI h 11 6 ((-x1).toNatClampNeg) ((hI h 11 6 ((-x1).toNatClampNeg)) + (1 : Int32)))))) : mT g me_fm_refuse (d + 1) 0 0 0 [some (vr 10 0), some (vi x1)] [] h Q := by
  refine tr_aload_n (pc := 0) 0 k_fm_refuse_0 rfl rfl ?_
  refine tr_getP (pc := 1) k_fm_refuse_1 fl_fm_9 rfl (Eq.trans rfl (hsk.1 10 0 _ rfl)) ?_
  refine tr_iload_n (pc := 4) 1 k_fm_refuse_4 rfl rfl ?_
  refine tr_ineg (pc := 5) k_fm_refuse_5 ?_
  refine tr_dup2 (pc := 6) k_fm_refuse_6 rfl rfl ?_
  refine tr_ialdx (pc := 7) k_fm_refuse_7 (mvin (hsk.2.1 11 6 _ rfl) hv.1) rfl ?_
  replace hv := hv.2
  refine tr_iconst (pc := 8) (v := 1) k_fm_refuse_8 (by decide) ?_
  refine tr_iadd (pc := 9) k_fm_refuse_9 ?_
  refine tr_iast (pc := 10) k_fm_refuse_10 (mvin (hsk.2.1 11 6 _ rfl) hv.1) ?_
  replace hv := hv.2
  refine tr_iload_n (pc := 11) 1 k_fm_refuse_11 rfl rfl ?_
  refine tr_ireturn (pc := 12) k_fm_refuse_12 rfl rfl ?_
  exact hv
theorem v_fm_set_0 {g : mG} {d : Nat} (x1 : Int32) (x2 : Int32) (x3 : Int32) {h : mH} {Q : Option mV → mH → Prop} (hsk : mSK h) (hv : ((x1 < 0 → mT g me_fm_refuse (d + 1) 0 0 0 [some (vr 10 0), some (vi (-1 : Int32))] [] h (fun v h1 => ∃ y2, v = some (vi y2) ∧ mSK h1 ∧ Q (some (vi y2)) h1)) ∧ (¬ x1 < 0 → (((hI h 10 0 2) ≤ x1 → mT g me_fm_refuse (d + 1) 0 0 0 [some (vr 10 0), some (vi (-1 : Int32))] [] h (fun v h3 => ∃ y4, v = some (vi y4) ∧ mSK h3 ∧ Q (some (vi y4)) h3)) ∧ (¬ (hI h 10 0 2) ≤ x1 → ((x2 < 0 → mT g me_fm_refuse (d + 1) 0 0 0 [some (vr 10 0), some (vi (-2 : Int32))] [] h (fun v h5 => ∃ y6, v = some (vi y6) ∧ mSK h5 ∧ Q (some (vi y6)) h5)) ∧ (¬ x2 < 0 → (((2 : Int32) ≤ x2 → mT g me_fm_refuse (d + 1) 0 0 0 [some (vr 10 0), some (vi (-2 : Int32))] [] h (fun v h7 => ∃ y8, v = some (vi y8) ∧ mSK h7 ∧ Q (some (vi y8)) h7)) ∧ (¬ (2 : Int32) ≤ x2 → ((¬ x2 = 0 → (vp_in x1 4 ∧ (vp_in x1 4 ∧ (((0 : Int32) ≤ x3 → ((x3 ≤ ((hI h 11 8 x1.toNatClampNeg) * (hI h 11 9 x1.toNatClampNeg)) → ((¬ x2 = 0 → (vp_in x1 4 ∧ ((¬ x2 = 0 → (vp_in x1 4 ∧ Q (some (vi (hI h 11 11 x1.toNatClampNeg))) (setI (setI h 11 11 x1.toNatClampNeg x3) 10 0 55 (0 : Int32)))) ∧ (x2 = 0 → (vp_in x1 4 ∧ Q (some (vi (hI h 11 11 x1.toNatClampNeg))) (setI (setI h 11 10 x1.toNatClampNeg x3) 10 0 55 (0 : Int32))))))) ∧ (x2 = 0 → (vp_in x1 4 ∧ ((¬ x2 = 0 → (vp_in x1 4 ∧ Q (some (vi (hI h 11 10 x1.toNatClampNeg))) (setI (setI h 11 11 x1.toNatClampNeg x3) 10 0 55 (0 : Int32)))) ∧ (x2 = 0 → (vp_in x1 4 ∧ Q (some (vi (hI h 11 10 x1.toNatClampNeg))) (setI (setI h 11 10 x1.toNatClampNeg x3) 10 0 55 (0 : Int32))))))))) ∧ (¬ x3 ≤ ((hI h 11 8 x1.toNatClampNeg) * (hI h 11 9 x1.toNatClampNeg)) → mT g me_fm_refuse (d + 1) 0 0 0 [some (vr 10 0), some (vi (-6 : Int32))] [] h (fun v h9 => ∃ y10, v = some (vi y10) ∧ mSK h9 ∧ Q (some (vi y10)) h9)))) ∧ (¬ (0 : Int32) ≤ x3 → mT g me_fm_refuse (d + 1) 0 0 0 [some (vr 10 0), some (vi (-4 : Int32))] [] h (fun v h11 => ∃ y12, v = some (vi y12) ∧ mSK h11 ∧ Q (some (vi y12)) h11)))))) ∧ (x2 = 0 → (((0 : Int32) ≤ x3 → ((x3 ≤ (500 : Int32) → ((¬ x2 = 0 → (vp_in x1 4 ∧ ((¬ x2 = 0 → (vp_in x1 4 ∧ Q (some (vi (hI h 11 11 x1.toNatClampNeg))) (setI (setI h 11 11 x1.toNatClampNeg x3) 10 0 55 (0 : Int32)))) ∧ (x2 = 0 → (vp_in x1 4 ∧ Q (some (vi (hI h 11 11 x1.toNatClampNeg))) (setI (setI h 11 10 x1.toNatClampNeg x3) 10 0 55 (0 : Int32))))))) ∧ (x2 = 0 → (vp_in x1 4 ∧ ((¬ x2 = 0 → (vp_in x1 4 ∧ Q (some (vi (hI h 11 10 x1.toNatClampNeg))) (setI (setI h 11 11 x1.toNatClampNeg x3) 10 0 55 (0 : Int32)))) ∧ (x2 = 0 → (vp_in x1 4 ∧ Q (some (vi (hI h 11 10 x1.toNatClampNeg))) (setI (setI h 11 10 x1.toNatClampNeg x3) 10 0 55 (0 : Int32))))))))) ∧ (¬ x3 ≤ (500 : Int32) → mT g me_fm_refuse (d + 1) 0 0 0 [some (vr 10 0), some (vi (-6 : Int32))] [] h (fun v h13 => ∃ y14, v = some (vi y14) ∧ mSK h13 ∧ Q (some (vi y14)) h13)))) ∧ (¬ (0 : Int32) ≤ x3 → mT g me_fm_refuse (d + 1) 0 0 0 [some (vr 10 0), some (vi (-4 : Int32))] [] h (fun v h15 => ∃ y16, v = some (vi y16) ∧ mSK h15 ∧ Q (some (vi y16)) h15)))))))))))))) : mT g me_fm_set (d + 2) 0 0 0 [some (vr 10 0), some (vi x1), some (vi x2), some (vi x3), none, none] [] h Q := by
  refine tr_iload_n (pc := 0) 1 k_fm_set_0 rfl rfl ?_
  refine tr_aload_n (pc := 1) 0 k_fm_set_1 rfl rfl ?_
  refine tr_getIx (pc := 2) k_fm_set_2 fl_fm_141 rfl rfl ?_
  refine tr_callS (pc := 5) (d' := d + 1) (mc' := 0) (ms' := 0) [vi x1, vi (hI h 10 0 2)] k_fm_set_5 ca_fm_isIn ml_fm_144 is_fm_isIn pa_fm_isIn (by omega) (by omega) (by omega) rfl (Nat.le_of_ble_eq_true rfl) (Nat.le_of_ble_eq_true rfl) (Qk := fun v h9 => mT g me_fm_set (d + 2) 0 0 8 [some (vr 10 0), some (vi x1), some (vi x2), some (vi x3), none, none] (v.toList ++ []) h9 _) ?_ (fun _ _ z => z)
  show mT g me_fm_isIn (d + 1) 0 0 0 [some (vi x1), some (vi (hI h 10 0 2))] [] h _
  refine tr_iload_n (pc := 0) 0 k_fm_isIn_0 rfl rfl ?_
  refine tr_if_lt (pc := 1) 13 k_fm_isIn_1 (by decide) (fun q => ?_) (fun q => ?_)
  · replace hv := hv.1 q
    refine tr_iconst (pc := 13) (v := 0) k_fm_isIn_13 (by decide) ?_
    refine tr_ireturn (pc := 14) k_fm_isIn_14 rfl rfl ?_
    show mT g me_fm_set (d + 2) 0 0 8 [some (vr 10 0), some (vi x1), some (vi x2), some (vi x3), none, none] [vi (0 : Int32)] h _
    refine tr_if_ne (pc := 8) 17 k_fm_set_8 (by decide) (fun q => absurd q (by decide)) (fun _ => ?_)
    refine tr_aload_n (pc := 11) 0 k_fm_set_11 rfl rfl ?_
    refine tr_iconst (pc := 12) (v := -1) k_fm_set_12 (by decide) ?_
    have hT := hv
    clear hv
    refine tr_callV (pc := 13) (d' := d + 1) (mc' := 0) (ms' := 0) [vi (-1 : Int32)] k_fm_set_13 ca_fm_refuse ml_fm_133 ii_fm_refuse ⟨by decide, rfl⟩ pa_fm_refuse (by omega) (by omega) (by omega) rfl (Nat.le_of_ble_eq_true rfl) (Nat.le_of_ble_eq_true rfl) hT (fun v h9 hv => ?_)
    clear hT
    obtain ⟨y2, rfl, hv⟩ := hv
    obtain ⟨h1, eh⟩ : ∃ z, z = h9 := ⟨_, rfl⟩
    subst eh
    obtain ⟨hskh1, hv⟩ := hv
    show mT g me_fm_set (d + 2) 0 0 16 [some (vr 10 0), some (vi x1), some (vi x2), some (vi x3), none, none] [vi y2] h1 _
    refine tr_ireturn (pc := 16) k_fm_set_16 rfl rfl ?_
    exact hv
  · replace hv := hv.2 q
    refine tr_iload_n (pc := 4) 0 k_fm_isIn_4 rfl rfl ?_
    refine tr_iload_n (pc := 5) 1 k_fm_isIn_5 rfl rfl ?_
    refine tr_icmp_ge (pc := 6) 13 k_fm_isIn_6 (by decide) (fun q => ?_) (fun q => ?_)
    · replace hv := hv.1 q
      refine tr_iconst (pc := 13) (v := 0) k_fm_isIn_13 (by decide) ?_
      refine tr_ireturn (pc := 14) k_fm_isIn_14 rfl rfl ?_
      show mT g me_fm_set (d + 2) 0 0 8 [some (vr 10 0), some (vi x1), some (vi x2), some (vi x3), none, none] [vi (0 : Int32)] h _
      refine tr_if_ne (pc := 8) 17 k_fm_set_8 (by decide) (fun q => absurd q (by decide)) (fun _ => ?_)
      refine tr_aload_n (pc := 11) 0 k_fm_set_11 rfl rfl ?_
      refine tr_iconst (pc := 12) (v := -1) k_fm_set_12 (by decide) ?_
      have hT := hv
      clear hv
      refine tr_callV (pc := 13) (d' := d + 1) (mc' := 0) (ms' := 0) [vi (-1 : Int32)] k_fm_set_13 ca_fm_refuse ml_fm_133 ii_fm_refuse ⟨by decide, rfl⟩ pa_fm_refuse (by omega) (by omega) (by omega) rfl (Nat.le_of_ble_eq_true rfl) (Nat.le_of_ble_eq_true rfl) hT (fun v h9 hv => ?_)
      clear hT
      obtain ⟨y4, rfl, hv⟩ := hv
      obtain ⟨h3, eh⟩ : ∃ z, z = h9 := ⟨_, rfl⟩
      subst eh
      obtain ⟨hskh3, hv⟩ := hv
      show mT g me_fm_set (d + 2) 0 0 16 [some (vr 10 0), some (vi x1), some (vi x2), some (vi x3), none, none] [vi y4] h3 _
      refine tr_ireturn (pc := 16) k_fm_set_16 rfl rfl ?_
      exact hv
    · replace hv := hv.2 q
      refine tr_iconst (pc := 9) (v := 1) k_fm_isIn_9 (by decide) ?_
      refine tr_goto (pc := 10) 14 k_fm_isIn_10 (by decide) ?_
      refine tr_ireturn (pc := 14) k_fm_isIn_14 rfl rfl ?_
      show mT g me_fm_set (d + 2) 0 0 8 [some (vr 10 0), some (vi x1), some (vi x2), some (vi x3), none, none] [vi (1 : Int32)] h _
      refine tr_if_ne (pc := 8) 17 k_fm_set_8 (by decide) (fun _ => ?_) (fun q => absurd q (by decide))
      refine tr_iload_n (pc := 17) 2 k_fm_set_17 rfl rfl ?_
      refine tr_iconst (pc := 18) (v := 2) k_fm_set_18 (by decide) ?_
      refine tr_callS (pc := 19) (d' := d + 1) (mc' := 0) (ms' := 0) [vi x2, vi (2 : Int32)] k_fm_set_19 ca_fm_isIn ml_fm_144 is_fm_isIn pa_fm_isIn (by omega) (by omega) (by omega) rfl (Nat.le_of_ble_eq_true rfl) (Nat.le_of_ble_eq_true rfl) (Qk := fun v h9 => mT g me_fm_set (d + 2) 0 0 22 [some (vr 10 0), some (vi x1), some (vi x2), some (vi x3), none, none] (v.toList ++ []) h9 _) ?_ (fun _ _ z => z)
      show mT g me_fm_isIn (d + 1) 0 0 0 [some (vi x2), some (vi (2 : Int32))] [] h _
      refine tr_iload_n (pc := 0) 0 k_fm_isIn_0 rfl rfl ?_
      refine tr_if_lt (pc := 1) 13 k_fm_isIn_1 (by decide) (fun q => ?_) (fun q => ?_)
      · replace hv := hv.1 q
        refine tr_iconst (pc := 13) (v := 0) k_fm_isIn_13 (by decide) ?_
        refine tr_ireturn (pc := 14) k_fm_isIn_14 rfl rfl ?_
        show mT g me_fm_set (d + 2) 0 0 22 [some (vr 10 0), some (vi x1), some (vi x2), some (vi x3), none, none] [vi (0 : Int32)] h _
        refine tr_if_ne (pc := 22) 32 k_fm_set_22 (by decide) (fun q => absurd q (by decide)) (fun _ => ?_)
        refine tr_aload_n (pc := 25) 0 k_fm_set_25 rfl rfl ?_
        refine tr_bipush (pc := 26) (v := -2) k_fm_set_26 (by decide) ?_
        have hT := hv
        clear hv
        refine tr_callV (pc := 28) (d' := d + 1) (mc' := 0) (ms' := 0) [vi (-2 : Int32)] k_fm_set_28 ca_fm_refuse ml_fm_133 ii_fm_refuse ⟨by decide, rfl⟩ pa_fm_refuse (by omega) (by omega) (by omega) rfl (Nat.le_of_ble_eq_true rfl) (Nat.le_of_ble_eq_true rfl) hT (fun v h9 hv => ?_)
        clear hT
        obtain ⟨y6, rfl, hv⟩ := hv
        obtain ⟨h5, eh⟩ : ∃ z, z = h9 := ⟨_, rfl⟩
        subst eh
        obtain ⟨hskh5, hv⟩ := hv
        show mT g me_fm_set (d + 2) 0 0 31 [some (vr 10 0), some (vi x1), some (vi x2), some (vi x3), none, none] [vi y6] h5 _
        refine tr_ireturn (pc := 31) k_fm_set_31 rfl rfl ?_
        exact hv
      · replace hv := hv.2 q
        refine tr_iload_n (pc := 4) 0 k_fm_isIn_4 rfl rfl ?_
        refine tr_iload_n (pc := 5) 1 k_fm_isIn_5 rfl rfl ?_
        refine tr_icmp_ge (pc := 6) 13 k_fm_isIn_6 (by decide) (fun q => ?_) (fun q => ?_)
        · replace hv := hv.1 q
          refine tr_iconst (pc := 13) (v := 0) k_fm_isIn_13 (by decide) ?_
          refine tr_ireturn (pc := 14) k_fm_isIn_14 rfl rfl ?_
          show mT g me_fm_set (d + 2) 0 0 22 [some (vr 10 0), some (vi x1), some (vi x2), some (vi x3), none, none] [vi (0 : Int32)] h _
          refine tr_if_ne (pc := 22) 32 k_fm_set_22 (by decide) (fun q => absurd q (by decide)) (fun _ => ?_)
          refine tr_aload_n (pc := 25) 0 k_fm_set_25 rfl rfl ?_
          refine tr_bipush (pc := 26) (v := -2) k_fm_set_26 (by decide) ?_
          have hT := hv
          clear hv
          refine tr_callV (pc := 28) (d' := d + 1) (mc' := 0) (ms' := 0) [vi (-2 : Int32)] k_fm_set_28 ca_fm_refuse ml_fm_133 ii_fm_refuse ⟨by decide, rfl⟩ pa_fm_refuse (by omega) (by omega) (by omega) rfl (Nat.le_of_ble_eq_true rfl) (Nat.le_of_ble_eq_true rfl) hT (fun v h9 hv => ?_)
          clear hT
          obtain ⟨y8, rfl, hv⟩ := hv
          obtain ⟨h7, eh⟩ : ∃ z, z = h9 := ⟨_, rfl⟩
          subst eh
          obtain ⟨hskh7, hv⟩ := hv
          show mT g me_fm_set (d + 2) 0 0 31 [some (vr 10 0), some (vi x1), some (vi x2), some (vi x3), none, none] [vi y8] h7 _
          refine tr_ireturn (pc := 31) k_fm_set_31 rfl rfl ?_
          exact hv
        · replace hv := hv.2 q
          refine tr_iconst (pc := 9) (v := 1) k_fm_isIn_9 (by decide) ?_
          refine tr_goto (pc := 10) 14 k_fm_isIn_10 (by decide) ?_
          refine tr_ireturn (pc := 14) k_fm_isIn_14 rfl rfl ?_
          show mT g me_fm_set (d + 2) 0 0 22 [some (vr 10 0), some (vi x1), some (vi x2), some (vi x3), none, none] [vi (1 : Int32)] h _
          refine tr_if_ne (pc := 22) 32 k_fm_set_22 (by decide) (fun _ => ?_) (fun q => absurd q (by decide))
          refine tr_iload_n (pc := 32) 3 k_fm_set_32 rfl rfl ?_
          refine tr_iconst (pc := 33) (v := 0) k_fm_set_33 (by decide) ?_
          refine tr_iload_n (pc := 34) 2 k_fm_set_34 rfl rfl ?_
          refine tr_if_ne (pc := 35) 44 k_fm_set_35 (by decide) (fun q => ?_) (fun q => ?_)
          · replace hv := hv.1 q
            refine tr_aload_n (pc := 44) 0 k_fm_set_44 rfl rfl ?_
            refine tr_getP (pc := 45) k_fm_set_45 fl_fm_20 rfl (Eq.trans rfl (hsk.1 10 9 _ rfl)) ?_
            refine tr_iload_n (pc := 48) 1 k_fm_set_48 rfl rfl ?_
            refine tr_ialdx (pc := 49) k_fm_set_49 (mvin (hsk.2.1 11 8 _ rfl) hv.1) rfl ?_
            replace hv := hv.2
            refine tr_aload_n (pc := 50) 0 k_fm_set_50 rfl rfl ?_
            refine tr_getP (pc := 51) k_fm_set_51 fl_fm_23 rfl (Eq.trans rfl (hsk.1 10 10 _ rfl)) ?_
            refine tr_iload_n (pc := 54) 1 k_fm_set_54 rfl rfl ?_
            refine tr_ialdx (pc := 55) k_fm_set_55 (mvin (hsk.2.1 11 9 _ rfl) hv.1) rfl ?_
            replace hv := hv.2
            refine tr_imul (pc := 56) k_fm_set_56 ?_
            refine tr_callS (pc := 57) (d' := d + 1) (mc' := 0) (ms' := 0) [vi x3, vi (0 : Int32), vi ((hI h 11 8 x1.toNatClampNeg) * (hI h 11 9 x1.toNatClampNeg))] k_fm_set_57 ca_fm_wrong ml_fm_148 is_fm_wrong pa_fm_wrong (by omega) (by omega) (by omega) rfl (Nat.le_of_ble_eq_true rfl) (Nat.le_of_ble_eq_true rfl) (Qk := fun v h9 => mT g me_fm_set (d + 2) 0 0 60 [some (vr 10 0), some (vi x1), some (vi x2), some (vi x3), none, none] (v.toList ++ []) h9 _) ?_ (fun _ _ z => z)
            show mT g me_fm_wrong (d + 1) 0 0 0 [some (vi x3), some (vi (0 : Int32)), some (vi ((hI h 11 8 x1.toNatClampNeg) * (hI h 11 9 x1.toNatClampNeg)))] [] h _
            refine tr_iload_n (pc := 0) 0 k_fm_wrong_0 rfl rfl ?_
            refine tr_iload_n (pc := 1) 1 k_fm_wrong_1 rfl rfl ?_
            refine tr_icmp_ge (pc := 2) 10 k_fm_wrong_2 (by decide) (fun q => ?_) (fun q => ?_)
            · replace hv := hv.1 q
              refine tr_iload_n (pc := 10) 0 k_fm_wrong_10 rfl rfl ?_
              refine tr_iload_n (pc := 11) 2 k_fm_wrong_11 rfl rfl ?_
              refine tr_icmp_le (pc := 12) 20 k_fm_wrong_12 (by decide) (fun q => ?_) (fun q => ?_)
              · replace hv := hv.1 q
                refine tr_iconst (pc := 20) (v := 0) k_fm_wrong_20 (by decide) ?_
                refine tr_ireturn (pc := 21) k_fm_wrong_21 rfl rfl ?_
                show mT g me_fm_set (d + 2) 0 0 60 [some (vr 10 0), some (vi x1), some (vi x2), some (vi x3), none, none] [vi (0 : Int32)] h _
                refine tr_istore (pc := 60) k_fm_set_60 (by decide) rfl ?_
                show mT g me_fm_set (d + 2) 0 0 62 [some (vr 10 0), some (vi x1), some (vi x2), some (vi x3), some (vi (0 : Int32)), none] [] h _
                refine tr_iload (pc := 62) k_fm_set_62 rfl ?_
                refine tr_if_eq (pc := 64) 74 k_fm_set_64 (by decide) (fun _ => ?_) (fun q => absurd q (by decide))
                refine tr_iload_n (pc := 74) 2 k_fm_set_74 rfl rfl ?_
                refine tr_if_ne (pc := 75) 87 k_fm_set_75 (by decide) (fun q => ?_) (fun q => ?_)
                · replace hv := hv.1 q
                  refine tr_aload_n (pc := 87) 0 k_fm_set_87 rfl rfl ?_
                  refine tr_getP (pc := 88) k_fm_set_88 fl_fm_29 rfl (Eq.trans rfl (hsk.1 10 12 _ rfl)) ?_
                  refine tr_iload_n (pc := 91) 1 k_fm_set_91 rfl rfl ?_
                  refine tr_ialdx (pc := 92) k_fm_set_92 (mvin (hsk.2.1 11 11 _ rfl) hv.1) rfl ?_
                  replace hv := hv.2
                  refine tr_istore (pc := 93) k_fm_set_93 (by decide) rfl ?_
                  show mT g me_fm_set (d + 2) 0 0 95 [some (vr 10 0), some (vi x1), some (vi x2), some (vi x3), some (vi (0 : Int32)), some (vi (hI h 11 11 x1.toNatClampNeg))] [] h _
                  refine tr_iload_n (pc := 95) 2 k_fm_set_95 rfl rfl ?_
                  refine tr_if_ne (pc := 96) 109 k_fm_set_96 (by decide) (fun q => ?_) (fun q => ?_)
                  · replace hv := hv.1 q
                    refine tr_aload_n (pc := 109) 0 k_fm_set_109 rfl rfl ?_
                    refine tr_getP (pc := 110) k_fm_set_110 fl_fm_29 rfl (Eq.trans rfl (hsk.1 10 12 _ rfl)) ?_
                    refine tr_iload_n (pc := 113) 1 k_fm_set_113 rfl rfl ?_
                    refine tr_iload_n (pc := 114) 3 k_fm_set_114 rfl rfl ?_
                    refine tr_iast (pc := 115) k_fm_set_115 (mvin (hsk.2.1 11 11 _ rfl) hv.1) ?_
                    replace hv := hv.2
                    refine tr_aload_n (pc := 116) 0 k_fm_set_116 rfl rfl ?_
                    refine tr_callV (pc := 117) (d' := d + 1) (mc' := 0) (ms' := 0) [] k_fm_set_117 ca_fm_changes ml_fm_152 ii_fm_changes ⟨by decide, rfl⟩ pa_fm_changes (by omega) (by omega) (by omega) rfl (Nat.le_of_ble_eq_true rfl) (Nat.le_of_ble_eq_true rfl) (Qk := fun v h9 => mT g me_fm_set (d + 2) 0 0 120 [some (vr 10 0), some (vi x1), some (vi x2), some (vi x3), some (vi (0 : Int32)), some (vi (hI h 11 11 x1.toNatClampNeg))] (v.toList ++ []) h9 _) ?_ (fun _ _ z => z)
                    show mT g me_fm_changes (d + 1) 0 0 0 [some (vr 10 0)] [] (setI h 11 11 x1.toNatClampNeg x3) _
                    refine tr_aload_n (pc := 0) 0 k_fm_changes_0 rfl rfl ?_
                    refine tr_iconst (pc := 1) (v := 0) k_fm_changes_1 (by decide) ?_
                    refine tr_putI (pc := 2) k_fm_changes_2 fl_fm_137 (Or.inl rfl) rfl ⟨rfl, rfl⟩ ?_
                    refine tr_return (pc := 5) k_fm_changes_5 rfl ?_
                    show mT g me_fm_set (d + 2) 0 0 120 [some (vr 10 0), some (vi x1), some (vi x2), some (vi x3), some (vi (0 : Int32)), some (vi (hI h 11 11 x1.toNatClampNeg))] [] (setI (setI h 11 11 x1.toNatClampNeg x3) 10 0 55 (0 : Int32)) _
                    refine tr_iload (pc := 120) k_fm_set_120 rfl ?_
                    refine tr_ireturn (pc := 122) k_fm_set_122 rfl rfl ?_
                    exact hv
                  · replace hv := hv.2 q
                    refine tr_aload_n (pc := 99) 0 k_fm_set_99 rfl rfl ?_
                    refine tr_getP (pc := 100) k_fm_set_100 fl_fm_26 rfl (Eq.trans rfl (hsk.1 10 11 _ rfl)) ?_
                    refine tr_iload_n (pc := 103) 1 k_fm_set_103 rfl rfl ?_
                    refine tr_iload_n (pc := 104) 3 k_fm_set_104 rfl rfl ?_
                    refine tr_iast (pc := 105) k_fm_set_105 (mvin (hsk.2.1 11 10 _ rfl) hv.1) ?_
                    replace hv := hv.2
                    refine tr_goto (pc := 106) 116 k_fm_set_106 (by decide) ?_
                    refine tr_aload_n (pc := 116) 0 k_fm_set_116 rfl rfl ?_
                    refine tr_callV (pc := 117) (d' := d + 1) (mc' := 0) (ms' := 0) [] k_fm_set_117 ca_fm_changes ml_fm_152 ii_fm_changes ⟨by decide, rfl⟩ pa_fm_changes (by omega) (by omega) (by omega) rfl (Nat.le_of_ble_eq_true rfl) (Nat.le_of_ble_eq_true rfl) (Qk := fun v h9 => mT g me_fm_set (d + 2) 0 0 120 [some (vr 10 0), some (vi x1), some (vi x2), some (vi x3), some (vi (0 : Int32)), some (vi (hI h 11 11 x1.toNatClampNeg))] (v.toList ++ []) h9 _) ?_ (fun _ _ z => z)
                    show mT g me_fm_changes (d + 1) 0 0 0 [some (vr 10 0)] [] (setI h 11 10 x1.toNatClampNeg x3) _
                    refine tr_aload_n (pc := 0) 0 k_fm_changes_0 rfl rfl ?_
                    refine tr_iconst (pc := 1) (v := 0) k_fm_changes_1 (by decide) ?_
                    refine tr_putI (pc := 2) k_fm_changes_2 fl_fm_137 (Or.inl rfl) rfl ⟨rfl, rfl⟩ ?_
                    refine tr_return (pc := 5) k_fm_changes_5 rfl ?_
                    show mT g me_fm_set (d + 2) 0 0 120 [some (vr 10 0), some (vi x1), some (vi x2), some (vi x3), some (vi (0 : Int32)), some (vi (hI h 11 11 x1.toNatClampNeg))] [] (setI (setI h 11 10 x1.toNatClampNeg x3) 10 0 55 (0 : Int32)) _
                    refine tr_iload (pc := 120) k_fm_set_120 rfl ?_
                    refine tr_ireturn (pc := 122) k_fm_set_122 rfl rfl ?_
                    exact hv
                · replace hv := hv.2 q
                  refine tr_aload_n (pc := 78) 0 k_fm_set_78 rfl rfl ?_
                  refine tr_getP (pc := 79) k_fm_set_79 fl_fm_26 rfl (Eq.trans rfl (hsk.1 10 11 _ rfl)) ?_
                  refine tr_iload_n (pc := 82) 1 k_fm_set_82 rfl rfl ?_
                  refine tr_ialdx (pc := 83) k_fm_set_83 (mvin (hsk.2.1 11 10 _ rfl) hv.1) rfl ?_
                  replace hv := hv.2
                  refine tr_goto (pc := 84) 93 k_fm_set_84 (by decide) ?_
                  refine tr_istore (pc := 93) k_fm_set_93 (by decide) rfl ?_
                  show mT g me_fm_set (d + 2) 0 0 95 [some (vr 10 0), some (vi x1), some (vi x2), some (vi x3), some (vi (0 : Int32)), some (vi (hI h 11 10 x1.toNatClampNeg))] [] h _
                  refine tr_iload_n (pc := 95) 2 k_fm_set_95 rfl rfl ?_
                  refine tr_if_ne (pc := 96) 109 k_fm_set_96 (by decide) (fun q => ?_) (fun q => ?_)
                  · replace hv := hv.1 q
                    refine tr_aload_n (pc := 109) 0 k_fm_set_109 rfl rfl ?_
                    refine tr_getP (pc := 110) k_fm_set_110 fl_fm_29 rfl (Eq.trans rfl (hsk.1 10 12 _ rfl)) ?_
                    refine tr_iload_n (pc := 113) 1 k_fm_set_113 rfl rfl ?_
                    refine tr_iload_n (pc := 114) 3 k_fm_set_114 rfl rfl ?_
                    refine tr_iast (pc := 115) k_fm_set_115 (mvin (hsk.2.1 11 11 _ rfl) hv.1) ?_
                    replace hv := hv.2
                    refine tr_aload_n (pc := 116) 0 k_fm_set_116 rfl rfl ?_
                    refine tr_callV (pc := 117) (d' := d + 1) (mc' := 0) (ms' := 0) [] k_fm_set_117 ca_fm_changes ml_fm_152 ii_fm_changes ⟨by decide, rfl⟩ pa_fm_changes (by omega) (by omega) (by omega) rfl (Nat.le_of_ble_eq_true rfl) (Nat.le_of_ble_eq_true rfl) (Qk := fun v h9 => mT g me_fm_set (d + 2) 0 0 120 [some (vr 10 0), some (vi x1), some (vi x2), some (vi x3), some (vi (0 : Int32)), some (vi (hI h 11 10 x1.toNatClampNeg))] (v.toList ++ []) h9 _) ?_ (fun _ _ z => z)
                    show mT g me_fm_changes (d + 1) 0 0 0 [some (vr 10 0)] [] (setI h 11 11 x1.toNatClampNeg x3) _
                    refine tr_aload_n (pc := 0) 0 k_fm_changes_0 rfl rfl ?_
                    refine tr_iconst (pc := 1) (v := 0) k_fm_changes_1 (by decide) ?_
                    refine tr_putI (pc := 2) k_fm_changes_2 fl_fm_137 (Or.inl rfl) rfl ⟨rfl, rfl⟩ ?_
                    refine tr_return (pc := 5) k_fm_changes_5 rfl ?_
                    show mT g me_fm_set (d + 2) 0 0 120 [some (vr 10 0), some (vi x1), some (vi x2), some (vi x3), some (vi (0 : Int32)), some (vi (hI h 11 10 x1.toNatClampNeg))] [] (setI (setI h 11 11 x1.toNatClampNeg x3) 10 0 55 (0 : Int32)) _
                    refine tr_iload (pc := 120) k_fm_set_120 rfl ?_
                    refine tr_ireturn (pc := 122) k_fm_set_122 rfl rfl ?_
                    exact hv
                  · replace hv := hv.2 q
                    refine tr_aload_n (pc := 99) 0 k_fm_set_99 rfl rfl ?_
                    refine tr_getP (pc := 100) k_fm_set_100 fl_fm_26 rfl (Eq.trans rfl (hsk.1 10 11 _ rfl)) ?_
                    refine tr_iload_n (pc := 103) 1 k_fm_set_103 rfl rfl ?_
                    refine tr_iload_n (pc := 104) 3 k_fm_set_104 rfl rfl ?_
                    refine tr_iast (pc := 105) k_fm_set_105 (mvin (hsk.2.1 11 10 _ rfl) hv.1) ?_
                    replace hv := hv.2
                    refine tr_goto (pc := 106) 116 k_fm_set_106 (by decide) ?_
                    refine tr_aload_n (pc := 116) 0 k_fm_set_116 rfl rfl ?_
                    refine tr_callV (pc := 117) (d' := d + 1) (mc' := 0) (ms' := 0) [] k_fm_set_117 ca_fm_changes ml_fm_152 ii_fm_changes ⟨by decide, rfl⟩ pa_fm_changes (by omega) (by omega) (by omega) rfl (Nat.le_of_ble_eq_true rfl) (Nat.le_of_ble_eq_true rfl) (Qk := fun v h9 => mT g me_fm_set (d + 2) 0 0 120 [some (vr 10 0), some (vi x1), some (vi x2), some (vi x3), some (vi (0 : Int32)), some (vi (hI h 11 10 x1.toNatClampNeg))] (v.toList ++ []) h9 _) ?_ (fun _ _ z => z)
                    show mT g me_fm_changes (d + 1) 0 0 0 [some (vr 10 0)] [] (setI h 11 10 x1.toNatClampNeg x3) _
                    refine tr_aload_n (pc := 0) 0 k_fm_changes_0 rfl rfl ?_
                    refine tr_iconst (pc := 1) (v := 0) k_fm_changes_1 (by decide) ?_
                    refine tr_putI (pc := 2) k_fm_changes_2 fl_fm_137 (Or.inl rfl) rfl ⟨rfl, rfl⟩ ?_
                    refine tr_return (pc := 5) k_fm_changes_5 rfl ?_
                    show mT g me_fm_set (d + 2) 0 0 120 [some (vr 10 0), some (vi x1), some (vi x2), some (vi x3), some (vi (0 : Int32)), some (vi (hI h 11 10 x1.toNatClampNeg))] [] (setI (setI h 11 10 x1.toNatClampNeg x3) 10 0 55 (0 : Int32)) _
                    refine tr_iload (pc := 120) k_fm_set_120 rfl ?_
                    refine tr_ireturn (pc := 122) k_fm_set_122 rfl rfl ?_
                    exact hv
              · replace hv := hv.2 q
                refine tr_bipush (pc := 15) (v := -6) k_fm_wrong_15 (by decide) ?_
                refine tr_goto (pc := 17) 21 k_fm_wrong_17 (by decide) ?_
                refine tr_ireturn (pc := 21) k_fm_wrong_21 rfl rfl ?_
                show mT g me_fm_set (d + 2) 0 0 60 [some (vr 10 0), some (vi x1), some (vi x2), some (vi x3), none, none] [vi (-6 : Int32)] h _
                refine tr_istore (pc := 60) k_fm_set_60 (by decide) rfl ?_
                show mT g me_fm_set (d + 2) 0 0 62 [some (vr 10 0), some (vi x1), some (vi x2), some (vi x3), some (vi (-6 : Int32)), none] [] h _
                refine tr_iload (pc := 62) k_fm_set_62 rfl ?_
                refine tr_if_eq (pc := 64) 74 k_fm_set_64 (by decide) (fun q => absurd q (by decide)) (fun _ => ?_)
                refine tr_aload_n (pc := 67) 0 k_fm_set_67 rfl rfl ?_
                refine tr_iload (pc := 68) k_fm_set_68 rfl ?_
                have hT := hv
                clear hv
                refine tr_callV (pc := 70) (d' := d + 1) (mc' := 0) (ms' := 0) [vi (-6 : Int32)] k_fm_set_70 ca_fm_refuse ml_fm_133 ii_fm_refuse ⟨by decide, rfl⟩ pa_fm_refuse (by omega) (by omega) (by omega) rfl (Nat.le_of_ble_eq_true rfl) (Nat.le_of_ble_eq_true rfl) hT (fun v h9 hv => ?_)
                clear hT
                obtain ⟨y10, rfl, hv⟩ := hv
                obtain ⟨h9, eh⟩ : ∃ z, z = h9 := ⟨_, rfl⟩
                subst eh
                obtain ⟨hskh9, hv⟩ := hv
                show mT g me_fm_set (d + 2) 0 0 73 [some (vr 10 0), some (vi x1), some (vi x2), some (vi x3), some (vi (-6 : Int32)), none] [vi y10] h9 _
                refine tr_ireturn (pc := 73) k_fm_set_73 rfl rfl ?_
                exact hv
            · replace hv := hv.2 q
              refine tr_bipush (pc := 5) (v := -4) k_fm_wrong_5 (by decide) ?_
              refine tr_goto (pc := 7) 21 k_fm_wrong_7 (by decide) ?_
              refine tr_ireturn (pc := 21) k_fm_wrong_21 rfl rfl ?_
              show mT g me_fm_set (d + 2) 0 0 60 [some (vr 10 0), some (vi x1), some (vi x2), some (vi x3), none, none] [vi (-4 : Int32)] h _
              refine tr_istore (pc := 60) k_fm_set_60 (by decide) rfl ?_
              show mT g me_fm_set (d + 2) 0 0 62 [some (vr 10 0), some (vi x1), some (vi x2), some (vi x3), some (vi (-4 : Int32)), none] [] h _
              refine tr_iload (pc := 62) k_fm_set_62 rfl ?_
              refine tr_if_eq (pc := 64) 74 k_fm_set_64 (by decide) (fun q => absurd q (by decide)) (fun _ => ?_)
              refine tr_aload_n (pc := 67) 0 k_fm_set_67 rfl rfl ?_
              refine tr_iload (pc := 68) k_fm_set_68 rfl ?_
              have hT := hv
              clear hv
              refine tr_callV (pc := 70) (d' := d + 1) (mc' := 0) (ms' := 0) [vi (-4 : Int32)] k_fm_set_70 ca_fm_refuse ml_fm_133 ii_fm_refuse ⟨by decide, rfl⟩ pa_fm_refuse (by omega) (by omega) (by omega) rfl (Nat.le_of_ble_eq_true rfl) (Nat.le_of_ble_eq_true rfl) hT (fun v h9 hv => ?_)
              clear hT
              obtain ⟨y12, rfl, hv⟩ := hv
              obtain ⟨h11, eh⟩ : ∃ z, z = h9 := ⟨_, rfl⟩
              subst eh
              obtain ⟨hskh11, hv⟩ := hv
              show mT g me_fm_set (d + 2) 0 0 73 [some (vr 10 0), some (vi x1), some (vi x2), some (vi x3), some (vi (-4 : Int32)), none] [vi y12] h11 _
              refine tr_ireturn (pc := 73) k_fm_set_73 rfl rfl ?_
              exact hv
          · replace hv := hv.2 q
            refine tr_sipush (pc := 38) (v := 500) k_fm_set_38 (by decide) ?_
            refine tr_goto (pc := 41) 57 k_fm_set_41 (by decide) ?_
            refine tr_callS (pc := 57) (d' := d + 1) (mc' := 0) (ms' := 0) [vi x3, vi (0 : Int32), vi (500 : Int32)] k_fm_set_57 ca_fm_wrong ml_fm_148 is_fm_wrong pa_fm_wrong (by omega) (by omega) (by omega) rfl (Nat.le_of_ble_eq_true rfl) (Nat.le_of_ble_eq_true rfl) (Qk := fun v h9 => mT g me_fm_set (d + 2) 0 0 60 [some (vr 10 0), some (vi x1), some (vi x2), some (vi x3), none, none] (v.toList ++ []) h9 _) ?_ (fun _ _ z => z)
            show mT g me_fm_wrong (d + 1) 0 0 0 [some (vi x3), some (vi (0 : Int32)), some (vi (500 : Int32))] [] h _
            refine tr_iload_n (pc := 0) 0 k_fm_wrong_0 rfl rfl ?_
            refine tr_iload_n (pc := 1) 1 k_fm_wrong_1 rfl rfl ?_
            refine tr_icmp_ge (pc := 2) 10 k_fm_wrong_2 (by decide) (fun q => ?_) (fun q => ?_)
            · replace hv := hv.1 q
              refine tr_iload_n (pc := 10) 0 k_fm_wrong_10 rfl rfl ?_
              refine tr_iload_n (pc := 11) 2 k_fm_wrong_11 rfl rfl ?_
              refine tr_icmp_le (pc := 12) 20 k_fm_wrong_12 (by decide) (fun q => ?_) (fun q => ?_)
              · replace hv := hv.1 q
                refine tr_iconst (pc := 20) (v := 0) k_fm_wrong_20 (by decide) ?_
                refine tr_ireturn (pc := 21) k_fm_wrong_21 rfl rfl ?_
                show mT g me_fm_set (d + 2) 0 0 60 [some (vr 10 0), some (vi x1), some (vi x2), some (vi x3), none, none] [vi (0 : Int32)] h _
                refine tr_istore (pc := 60) k_fm_set_60 (by decide) rfl ?_
                show mT g me_fm_set (d + 2) 0 0 62 [some (vr 10 0), some (vi x1), some (vi x2), some (vi x3), some (vi (0 : Int32)), none] [] h _
                refine tr_iload (pc := 62) k_fm_set_62 rfl ?_
                refine tr_if_eq (pc := 64) 74 k_fm_set_64 (by decide) (fun _ => ?_) (fun q => absurd q (by decide))
                refine tr_iload_n (pc := 74) 2 k_fm_set_74 rfl rfl ?_
                refine tr_if_ne (pc := 75) 87 k_fm_set_75 (by decide) (fun q => ?_) (fun q => ?_)
                · replace hv := hv.1 q
                  refine tr_aload_n (pc := 87) 0 k_fm_set_87 rfl rfl ?_
                  refine tr_getP (pc := 88) k_fm_set_88 fl_fm_29 rfl (Eq.trans rfl (hsk.1 10 12 _ rfl)) ?_
                  refine tr_iload_n (pc := 91) 1 k_fm_set_91 rfl rfl ?_
                  refine tr_ialdx (pc := 92) k_fm_set_92 (mvin (hsk.2.1 11 11 _ rfl) hv.1) rfl ?_
                  replace hv := hv.2
                  refine tr_istore (pc := 93) k_fm_set_93 (by decide) rfl ?_
                  show mT g me_fm_set (d + 2) 0 0 95 [some (vr 10 0), some (vi x1), some (vi x2), some (vi x3), some (vi (0 : Int32)), some (vi (hI h 11 11 x1.toNatClampNeg))] [] h _
                  refine tr_iload_n (pc := 95) 2 k_fm_set_95 rfl rfl ?_
                  refine tr_if_ne (pc := 96) 109 k_fm_set_96 (by decide) (fun q => ?_) (fun q => ?_)
                  · replace hv := hv.1 q
                    refine tr_aload_n (pc := 109) 0 k_fm_set_109 rfl rfl ?_
                    refine tr_getP (pc := 110) k_fm_set_110 fl_fm_29 rfl (Eq.trans rfl (hsk.1 10 12 _ rfl)) ?_
                    refine tr_iload_n (pc := 113) 1 k_fm_set_113 rfl rfl ?_
                    refine tr_iload_n (pc := 114) 3 k_fm_set_114 rfl rfl ?_
                    refine tr_iast (pc := 115) k_fm_set_115 (mvin (hsk.2.1 11 11 _ rfl) hv.1) ?_
                    replace hv := hv.2
                    refine tr_aload_n (pc := 116) 0 k_fm_set_116 rfl rfl ?_
                    refine tr_callV (pc := 117) (d' := d + 1) (mc' := 0) (ms' := 0) [] k_fm_set_117 ca_fm_changes ml_fm_152 ii_fm_changes ⟨by decide, rfl⟩ pa_fm_changes (by omega) (by omega) (by omega) rfl (Nat.le_of_ble_eq_true rfl) (Nat.le_of_ble_eq_true rfl) (Qk := fun v h9 => mT g me_fm_set (d + 2) 0 0 120 [some (vr 10 0), some (vi x1), some (vi x2), some (vi x3), some (vi (0 : Int32)), some (vi (hI h 11 11 x1.toNatClampNeg))] (v.toList ++ []) h9 _) ?_ (fun _ _ z => z)
                    show mT g me_fm_changes (d + 1) 0 0 0 [some (vr 10 0)] [] (setI h 11 11 x1.toNatClampNeg x3) _
                    refine tr_aload_n (pc := 0) 0 k_fm_changes_0 rfl rfl ?_
                    refine tr_iconst (pc := 1) (v := 0) k_fm_changes_1 (by decide) ?_
                    refine tr_putI (pc := 2) k_fm_changes_2 fl_fm_137 (Or.inl rfl) rfl ⟨rfl, rfl⟩ ?_
                    refine tr_return (pc := 5) k_fm_changes_5 rfl ?_
                    show mT g me_fm_set (d + 2) 0 0 120 [some (vr 10 0), some (vi x1), some (vi x2), some (vi x3), some (vi (0 : Int32)), some (vi (hI h 11 11 x1.toNatClampNeg))] [] (setI (setI h 11 11 x1.toNatClampNeg x3) 10 0 55 (0 : Int32)) _
                    refine tr_iload (pc := 120) k_fm_set_120 rfl ?_
                    refine tr_ireturn (pc := 122) k_fm_set_122 rfl rfl ?_
                    exact hv
                  · replace hv := hv.2 q
                    refine tr_aload_n (pc := 99) 0 k_fm_set_99 rfl rfl ?_
                    refine tr_getP (pc := 100) k_fm_set_100 fl_fm_26 rfl (Eq.trans rfl (hsk.1 10 11 _ rfl)) ?_
                    refine tr_iload_n (pc := 103) 1 k_fm_set_103 rfl rfl ?_
                    refine tr_iload_n (pc := 104) 3 k_fm_set_104 rfl rfl ?_
                    refine tr_iast (pc := 105) k_fm_set_105 (mvin (hsk.2.1 11 10 _ rfl) hv.1) ?_
                    replace hv := hv.2
                    refine tr_goto (pc := 106) 116 k_fm_set_106 (by decide) ?_
                    refine tr_aload_n (pc := 116) 0 k_fm_set_116 rfl rfl ?_
                    refine tr_callV (pc := 117) (d' := d + 1) (mc' := 0) (ms' := 0) [] k_fm_set_117 ca_fm_changes ml_fm_152 ii_fm_changes ⟨by decide, rfl⟩ pa_fm_changes (by omega) (by omega) (by omega) rfl (Nat.le_of_ble_eq_true rfl) (Nat.le_of_ble_eq_true rfl) (Qk := fun v h9 => mT g me_fm_set (d + 2) 0 0 120 [some (vr 10 0), some (vi x1), some (vi x2), some (vi x3), some (vi (0 : Int32)), some (vi (hI h 11 11 x1.toNatClampNeg))] (v.toList ++ []) h9 _) ?_ (fun _ _ z => z)
                    show mT g me_fm_changes (d + 1) 0 0 0 [some (vr 10 0)] [] (setI h 11 10 x1.toNatClampNeg x3) _
                    refine tr_aload_n (pc := 0) 0 k_fm_changes_0 rfl rfl ?_
                    refine tr_iconst (pc := 1) (v := 0) k_fm_changes_1 (by decide) ?_
                    refine tr_putI (pc := 2) k_fm_changes_2 fl_fm_137 (Or.inl rfl) rfl ⟨rfl, rfl⟩ ?_
                    refine tr_return (pc := 5) k_fm_changes_5 rfl ?_
                    show mT g me_fm_set (d + 2) 0 0 120 [some (vr 10 0), some (vi x1), some (vi x2), some (vi x3), some (vi (0 : Int32)), some (vi (hI h 11 11 x1.toNatClampNeg))] [] (setI (setI h 11 10 x1.toNatClampNeg x3) 10 0 55 (0 : Int32)) _
                    refine tr_iload (pc := 120) k_fm_set_120 rfl ?_
                    refine tr_ireturn (pc := 122) k_fm_set_122 rfl rfl ?_
                    exact hv
                · replace hv := hv.2 q
                  refine tr_aload_n (pc := 78) 0 k_fm_set_78 rfl rfl ?_
                  refine tr_getP (pc := 79) k_fm_set_79 fl_fm_26 rfl (Eq.trans rfl (hsk.1 10 11 _ rfl)) ?_
                  refine tr_iload_n (pc := 82) 1 k_fm_set_82 rfl rfl ?_
                  refine tr_ialdx (pc := 83) k_fm_set_83 (mvin (hsk.2.1 11 10 _ rfl) hv.1) rfl ?_
                  replace hv := hv.2
                  refine tr_goto (pc := 84) 93 k_fm_set_84 (by decide) ?_
                  refine tr_istore (pc := 93) k_fm_set_93 (by decide) rfl ?_
                  show mT g me_fm_set (d + 2) 0 0 95 [some (vr 10 0), some (vi x1), some (vi x2), some (vi x3), some (vi (0 : Int32)), some (vi (hI h 11 10 x1.toNatClampNeg))] [] h _
                  refine tr_iload_n (pc := 95) 2 k_fm_set_95 rfl rfl ?_
                  refine tr_if_ne (pc := 96) 109 k_fm_set_96 (by decide) (fun q => ?_) (fun q => ?_)
                  · replace hv := hv.1 q
                    refine tr_aload_n (pc := 109) 0 k_fm_set_109 rfl rfl ?_
                    refine tr_getP (pc := 110) k_fm_set_110 fl_fm_29 rfl (Eq.trans rfl (hsk.1 10 12 _ rfl)) ?_
                    refine tr_iload_n (pc := 113) 1 k_fm_set_113 rfl rfl ?_
                    refine tr_iload_n (pc := 114) 3 k_fm_set_114 rfl rfl ?_
                    refine tr_iast (pc := 115) k_fm_set_115 (mvin (hsk.2.1 11 11 _ rfl) hv.1) ?_
                    replace hv := hv.2
                    refine tr_aload_n (pc := 116) 0 k_fm_set_116 rfl rfl ?_
                    refine tr_callV (pc := 117) (d' := d + 1) (mc' := 0) (ms' := 0) [] k_fm_set_117 ca_fm_changes ml_fm_152 ii_fm_changes ⟨by decide, rfl⟩ pa_fm_changes (by omega) (by omega) (by omega) rfl (Nat.le_of_ble_eq_true rfl) (Nat.le_of_ble_eq_true rfl) (Qk := fun v h9 => mT g me_fm_set (d + 2) 0 0 120 [some (vr 10 0), some (vi x1), some (vi x2), some (vi x3), some (vi (0 : Int32)), some (vi (hI h 11 10 x1.toNatClampNeg))] (v.toList ++ []) h9 _) ?_ (fun _ _ z => z)
                    show mT g me_fm_changes (d + 1) 0 0 0 [some (vr 10 0)] [] (setI h 11 11 x1.toNatClampNeg x3) _
                    refine tr_aload_n (pc := 0) 0 k_fm_changes_0 rfl rfl ?_
                    refine tr_iconst (pc := 1) (v := 0) k_fm_changes_1 (by decide) ?_
                    refine tr_putI (pc := 2) k_fm_changes_2 fl_fm_137 (Or.inl rfl) rfl ⟨rfl, rfl⟩ ?_
                    refine tr_return (pc := 5) k_fm_changes_5 rfl ?_
                    show mT g me_fm_set (d + 2) 0 0 120 [some (vr 10 0), some (vi x1), some (vi x2), some (vi x3), some (vi (0 : Int32)), some (vi (hI h 11 10 x1.toNatClampNeg))] [] (setI (setI h 11 11 x1.toNatClampNeg x3) 10 0 55 (0 : Int32)) _
                    refine tr_iload (pc := 120) k_fm_set_120 rfl ?_
                    refine tr_ireturn (pc := 122) k_fm_set_122 rfl rfl ?_
                    exact hv
                  · replace hv := hv.2 q
                    refine tr_aload_n (pc := 99) 0 k_fm_set_99 rfl rfl ?_
                    refine tr_getP (pc := 100) k_fm_set_100 fl_fm_26 rfl (Eq.trans rfl (hsk.1 10 11 _ rfl)) ?_
                    refine tr_iload_n (pc := 103) 1 k_fm_set_103 rfl rfl ?_
                    refine tr_iload_n (pc := 104) 3 k_fm_set_104 rfl rfl ?_
                    refine tr_iast (pc := 105) k_fm_set_105 (mvin (hsk.2.1 11 10 _ rfl) hv.1) ?_
                    replace hv := hv.2
                    refine tr_goto (pc := 106) 116 k_fm_set_106 (by decide) ?_
                    refine tr_aload_n (pc := 116) 0 k_fm_set_116 rfl rfl ?_
                    refine tr_callV (pc := 117) (d' := d + 1) (mc' := 0) (ms' := 0) [] k_fm_set_117 ca_fm_changes ml_fm_152 ii_fm_changes ⟨by decide, rfl⟩ pa_fm_changes (by omega) (by omega) (by omega) rfl (Nat.le_of_ble_eq_true rfl) (Nat.le_of_ble_eq_true rfl) (Qk := fun v h9 => mT g me_fm_set (d + 2) 0 0 120 [some (vr 10 0), some (vi x1), some (vi x2), some (vi x3), some (vi (0 : Int32)), some (vi (hI h 11 10 x1.toNatClampNeg))] (v.toList ++ []) h9 _) ?_ (fun _ _ z => z)
                    show mT g me_fm_changes (d + 1) 0 0 0 [some (vr 10 0)] [] (setI h 11 10 x1.toNatClampNeg x3) _
                    refine tr_aload_n (pc := 0) 0 k_fm_changes_0 rfl rfl ?_
                    refine tr_iconst (pc := 1) (v := 0) k_fm_changes_1 (by decide) ?_
                    refine tr_putI (pc := 2) k_fm_changes_2 fl_fm_137 (Or.inl rfl) rfl ⟨rfl, rfl⟩ ?_
                    refine tr_return (pc := 5) k_fm_changes_5 rfl ?_
                    show mT g me_fm_set (d + 2) 0 0 120 [some (vr 10 0), some (vi x1), some (vi x2), some (vi x3), some (vi (0 : Int32)), some (vi (hI h 11 10 x1.toNatClampNeg))] [] (setI (setI h 11 10 x1.toNatClampNeg x3) 10 0 55 (0 : Int32)) _
                    refine tr_iload (pc := 120) k_fm_set_120 rfl ?_
                    refine tr_ireturn (pc := 122) k_fm_set_122 rfl rfl ?_
                    exact hv
              · replace hv := hv.2 q
                refine tr_bipush (pc := 15) (v := -6) k_fm_wrong_15 (by decide) ?_
                refine tr_goto (pc := 17) 21 k_fm_wrong_17 (by decide) ?_
                refine tr_ireturn (pc := 21) k_fm_wrong_21 rfl rfl ?_
                show mT g me_fm_set (d + 2) 0 0 60 [some (vr 10 0), some (vi x1), some (vi x2), some (vi x3), none, none] [vi (-6 : Int32)] h _
                refine tr_istore (pc := 60) k_fm_set_60 (by decide) rfl ?_
                show mT g me_fm_set (d + 2) 0 0 62 [some (vr 10 0), some (vi x1), some (vi x2), some (vi x3), some (vi (-6 : Int32)), none] [] h _
                refine tr_iload (pc := 62) k_fm_set_62 rfl ?_
                refine tr_if_eq (pc := 64) 74 k_fm_set_64 (by decide) (fun q => absurd q (by decide)) (fun _ => ?_)
                refine tr_aload_n (pc := 67) 0 k_fm_set_67 rfl rfl ?_
                refine tr_iload (pc := 68) k_fm_set_68 rfl ?_
                have hT := hv
                clear hv
                refine tr_callV (pc := 70) (d' := d + 1) (mc' := 0) (ms' := 0) [vi (-6 : Int32)] k_fm_set_70 ca_fm_refuse ml_fm_133 ii_fm_refuse ⟨by decide, rfl⟩ pa_fm_refuse (by omega) (by omega) (by omega) rfl (Nat.le_of_ble_eq_true rfl) (Nat.le_of_ble_eq_true rfl) hT (fun v h9 hv => ?_)
                clear hT
                obtain ⟨y14, rfl, hv⟩ := hv
                obtain ⟨h13, eh⟩ : ∃ z, z = h9 := ⟨_, rfl⟩
                subst eh
                obtain ⟨hskh13, hv⟩ := hv
                show mT g me_fm_set (d + 2) 0 0 73 [some (vr 10 0), some (vi x1), some (vi x2), some (vi x3), some (vi (-6 : Int32)), none] [vi y14] h13 _
                refine tr_ireturn (pc := 73) k_fm_set_73 rfl rfl ?_
                exact hv
            · replace hv := hv.2 q
              refine tr_bipush (pc := 5) (v := -4) k_fm_wrong_5 (by decide) ?_
              refine tr_goto (pc := 7) 21 k_fm_wrong_7 (by decide) ?_
              refine tr_ireturn (pc := 21) k_fm_wrong_21 rfl rfl ?_
              show mT g me_fm_set (d + 2) 0 0 60 [some (vr 10 0), some (vi x1), some (vi x2), some (vi x3), none, none] [vi (-4 : Int32)] h _
              refine tr_istore (pc := 60) k_fm_set_60 (by decide) rfl ?_
              show mT g me_fm_set (d + 2) 0 0 62 [some (vr 10 0), some (vi x1), some (vi x2), some (vi x3), some (vi (-4 : Int32)), none] [] h _
              refine tr_iload (pc := 62) k_fm_set_62 rfl ?_
              refine tr_if_eq (pc := 64) 74 k_fm_set_64 (by decide) (fun q => absurd q (by decide)) (fun _ => ?_)
              refine tr_aload_n (pc := 67) 0 k_fm_set_67 rfl rfl ?_
              refine tr_iload (pc := 68) k_fm_set_68 rfl ?_
              have hT := hv
              clear hv
              refine tr_callV (pc := 70) (d' := d + 1) (mc' := 0) (ms' := 0) [vi (-4 : Int32)] k_fm_set_70 ca_fm_refuse ml_fm_133 ii_fm_refuse ⟨by decide, rfl⟩ pa_fm_refuse (by omega) (by omega) (by omega) rfl (Nat.le_of_ble_eq_true rfl) (Nat.le_of_ble_eq_true rfl) hT (fun v h9 hv => ?_)
              clear hT
              obtain ⟨y16, rfl, hv⟩ := hv
              obtain ⟨h15, eh⟩ : ∃ z, z = h9 := ⟨_, rfl⟩
              subst eh
              obtain ⟨hskh15, hv⟩ := hv
              show mT g me_fm_set (d + 2) 0 0 73 [some (vr 10 0), some (vi x1), some (vi x2), some (vi x3), some (vi (-4 : Int32)), none] [vi y16] h15 _
              refine tr_ireturn (pc := 73) k_fm_set_73 rfl rfl ?_
              exact hv
