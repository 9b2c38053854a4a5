/-! printed by my own program: walks between loop heads -/
theorem v_fm_walks_216 {g : mG} {d : Nat} (x1 : Int32) (x2 : Int32) (x3 : Int32) (x4 : Int32) (o5 : Option mV) {h : mH} {Q : Option mV → mH → Prop} (hsk : mSK h) (hv : (((hI h 10 0 2) ≤ x4 → mT g me_fm_looksAt (d + 2) 0 0 0 [some (vr 10 0), none] [] h (fun v h1 => v = none ∧ mSK h1 ∧ mT g me_fm_walks (d + 3) 0 0 48 [some (vr 10 0), some (vi x1), some (vi (x2 + 1)), some (vi x3), some (vi x4), o5] [] h1 Q)) ∧ (¬ (hI h 10 0 2) ≤ x4 → mT g me_fm_passes (d + 2) 0 0 0 [some (vr 10 0), some (vi x4), none, none] [] h (fun v h2 => v = none ∧ mSK h2 ∧ mT g me_fm_walks (d + 3) 0 0 216 [some (vr 10 0), some (vi x1), some (vi x2), some (vi x3), some (vi (x4 + 1)), o5] [] (setI h2 10 0 46 ((hI h2 10 0 46) + (hI h2 10 0 41))) Q)))) : mT g me_fm_walks (d + 3) 0 0 216 [some (vr 10 0), some (vi x1), some (vi x2), some (vi x3), some (vi x4), o5] [] h Q := by
  refine tr_iload (pc := 216) k_fm_walks_216 rfl ?_
  refine tr_aload_n (pc := 218) 0 k_fm_walks_218 rfl rfl ?_
  refine tr_getIx (pc := 219) k_fm_walks_219 fl_fm_141 rfl rfl ?_
  refine tr_icmp_ge (pc := 222) 250 k_fm_walks_222 (by decide) (fun q => ?_) (fun q => ?_)
  · replace hv := hv.1 q
    refine tr_aload_n (pc := 250) 0 k_fm_walks_250 rfl rfl ?_
    have hT := hv
    clear hv
    refine tr_callV (pc := 251) (d' := d + 2) (mc' := 0) (ms' := 0) [] k_fm_walks_251 ca_fm_looksAt ml_fm_234 ii_fm_looksAt ⟨by decide, rfl⟩ pa_fm_looksAt (by omega) (by omega) (by omega) rfl (Nat.le_of_ble_eq_true rfl) (Nat.le_of_ble_eq_true rfl) hT (fun v h9 hv => ?_)
    clear hT
    obtain ⟨rfl, hv⟩ := hv
    obtain ⟨h1, eh⟩ : ∃ z, z = h9 := ⟨_, rfl⟩
    subst eh
    obtain ⟨hskh1, hv⟩ := hv
    show mT g me_fm_walks (d + 3) 0 0 254 [some (vr 10 0), some (vi x1), some (vi x2), some (vi x3), some (vi x4), o5] [] h1 _
    refine tr_iinc (pc := 254) (v := (x2 + 1)) k_fm_walks_254 rfl rfl (by decide) rfl ?_
    show mT g me_fm_walks (d + 3) 0 0 257 [some (vr 10 0), some (vi x1), some (vi (x2 + 1)), some (vi x3), some (vi x4), o5] [] h1 _
    refine tr_goto (pc := 257) 48 k_fm_walks_257 (by decide) ?_
    exact hv
  · replace hv := hv.2 q
    refine tr_aload_n (pc := 225) 0 k_fm_walks_225 rfl rfl ?_
    refine tr_iload (pc := 226) k_fm_walks_226 rfl ?_
    have hT := hv
    clear hv
    refine tr_callV (pc := 228) (d' := d + 2) (mc' := 0) (ms' := 0) [vi x4] k_fm_walks_228 ca_fm_passes ml_fm_209 ii_fm_passes ⟨by decide, rfl⟩ pa_fm_passes (by omega) (by omega) (by omega) rfl (Nat.le_of_ble_eq_true rfl) (Nat.le_of_ble_eq_true rfl) hT (fun v h9 hv => ?_)
    clear hT
    obtain ⟨rfl, hv⟩ := hv
    obtain ⟨h2, eh⟩ : ∃ z, z = h9 := ⟨_, rfl⟩
    subst eh
    obtain ⟨hskh2, hv⟩ := hv
    show mT g me_fm_walks (d + 3) 0 0 231 [some (vr 10 0), some (vi x1), some (vi x2), some (vi x3), some (vi x4), o5] [] h2 _
    refine tr_aload_n (pc := 231) 0 k_fm_walks_231 rfl rfl ?_
    refine tr_dup (pc := 232) k_fm_walks_232 rfl ?_
    refine tr_getIx (pc := 233) k_fm_walks_233 fl_fm_225 rfl rfl ?_
    refine tr_aload_n (pc := 236) 0 k_fm_walks_236 rfl rfl ?_
    refine tr_getIx (pc := 237) k_fm_walks_237 fl_fm_200 rfl rfl ?_
    refine tr_iadd (pc := 240) k_fm_walks_240 ?_
    refine tr_putI (pc := 241) k_fm_walks_241 fl_fm_225 (Or.inl rfl) rfl ⟨rfl, rfl⟩ ?_
    refine tr_iinc (pc := 244) (v := (x4 + 1)) k_fm_walks_244 rfl rfl (by decide) rfl ?_
    show mT g me_fm_walks (d + 3) 0 0 247 [some (vr 10 0), some (vi x1), some (vi x2), some (vi x3), some (vi (x4 + 1)), o5] [] (setI h2 10 0 46 ((hI h2 10 0 46) + (hI h2 10 0 41))) _
    refine tr_goto (pc := 247) 216 k_fm_walks_247 (by decide) ?_
    exact hv
theorem v_fm_looksAt_0 {g : mG} {d : Nat}  {h : mH} {Q : Option mV → mH → Prop} (hsk : mSK h) (hv : mT g me_fm_looksAt (d + 1) 0 0 2 [some (vr 10 0), some (vi (0 : Int32))] [] h Q) : mT g me_fm_looksAt (d + 1) 0 0 0 [some (vr 10 0), none] [] h Q := by
  refine tr_iconst (pc := 0) (v := 0) k_fm_looksAt_0 (by decide) ?_
  refine tr_istore_n (pc := 1) 1 k_fm_looksAt_1 rfl (by decide) rfl ?_
  show mT g me_fm_looksAt (d + 1) 0 0 2 [some (vr 10 0), some (vi (0 : Int32))] [] h _
  exact hv
theorem v_fm_looksAt_2 {g : mG} {d : Nat} (x1 : Int32) {h : mH} {Q : Option mV → mH → Prop} (hsk : mSK h) (hv : (((hI h 10 0 2) ≤ x1 → Q none h) ∧ (¬ (hI h 10 0 2) ≤ x1 → ((0 ≤ (hI h 10 0 47) → (vp_in x1 4 ∧ mT g me_fm_looksAt (d + 1) 0 0 2 [some (vr 10 0), some (vi (x1 + 1))] [] (setI h 10 0 47 (if (hI h 11 33 x1.toNatClampNeg) < (hI h 10 0 47) then (hI h 11 33 x1.toNatClampNeg) else (hI h 10 0 47))) Q)) ∧ (¬ 0 ≤ (hI h 10 0 47) → (vp_in x1 4 ∧ mT g me_fm_looksAt (d + 1) 0 0 2 [some (vr 10 0), some (vi (x1 + 1))] [] (setI h 10 0 47 (hI h 11 33 x1.toNatClampNeg)) Q)))))) : mT g me_fm_looksAt (d + 1) 0 0 2 [some (vr 10 0), some (vi x1)] [] h Q := by
  refine tr_iload_n (pc := 2) 1 k_fm_looksAt_2 rfl rfl ?_
  refine tr_aload_n (pc := 3) 0 k_fm_looksAt_3 rfl rfl ?_
  refine tr_getIx (pc := 4) k_fm_looksAt_4 fl_fm_141 rfl rfl ?_
  refine tr_icmp_ge (pc := 7) 49 k_fm_looksAt_7 (by decide) (fun q => ?_) (fun q => ?_)
  · replace hv := hv.1 q
    refine tr_return (pc := 49) k_fm_looksAt_49 rfl ?_
    exact hv
  · replace hv := hv.2 q
    refine tr_aload_n (pc := 10) 0 k_fm_looksAt_10 rfl rfl ?_
    refine tr_aload_n (pc := 11) 0 k_fm_looksAt_11 rfl rfl ?_
    refine tr_getIx (pc := 12) k_fm_looksAt_12 fl_fm_228 rfl rfl ?_
    refine tr_if_ge (pc := 15) 27 k_fm_looksAt_15 (by decide) (fun q => ?_) (fun q => ?_)
    · replace hv := hv.1 q
      refine tr_aload_n (pc := 27) 0 k_fm_looksAt_27 rfl rfl ?_
      refine tr_getIx (pc := 28) k_fm_looksAt_28 fl_fm_228 rfl rfl ?_
      refine tr_aload_n (pc := 31) 0 k_fm_looksAt_31 rfl rfl ?_
      refine tr_getP (pc := 32) k_fm_looksAt_32 fl_fm_102 rfl (Eq.trans rfl (hsk.1 10 36 _ rfl)) ?_
      refine tr_iload_n (pc := 35) 1 k_fm_looksAt_35 rfl rfl ?_
      refine tr_ialdx (pc := 36) k_fm_looksAt_36 (mvin (hsk.2.1 11 33 _ rfl) hv.1) rfl ?_
      replace hv := hv.2
      refine tr_min (pc := 37) k_fm_looksAt_37 ml_fm_197 (by omega) (Nat.le_of_ble_eq_true rfl) ?_
      refine tr_putI (pc := 40) k_fm_looksAt_40 fl_fm_228 (Or.inl rfl) rfl ⟨rfl, rfl⟩ ?_
      refine tr_iinc (pc := 43) (v := (x1 + 1)) k_fm_looksAt_43 rfl rfl (by decide) rfl ?_
      show mT g me_fm_looksAt (d + 1) 0 0 46 [some (vr 10 0), some (vi (x1 + 1))] [] (setI h 10 0 47 (if (hI h 11 33 x1.toNatClampNeg) < (hI h 10 0 47) then (hI h 11 33 x1.toNatClampNeg) else (hI h 10 0 47))) _
      refine tr_goto (pc := 46) 2 k_fm_looksAt_46 (by decide) ?_
      exact hv
    · replace hv := hv.2 q
      refine tr_aload_n (pc := 18) 0 k_fm_looksAt_18 rfl rfl ?_
      refine tr_getP (pc := 19) k_fm_looksAt_19 fl_fm_102 rfl (Eq.trans rfl (hsk.1 10 36 _ rfl)) ?_
      refine tr_iload_n (pc := 22) 1 k_fm_looksAt_22 rfl rfl ?_
      refine tr_ialdx (pc := 23) k_fm_looksAt_23 (mvin (hsk.2.1 11 33 _ rfl) hv.1) rfl ?_
      replace hv := hv.2
      refine tr_goto (pc := 24) 40 k_fm_looksAt_24 (by decide) ?_
      refine tr_putI (pc := 40) k_fm_looksAt_40 fl_fm_228 (Or.inl rfl) rfl ⟨rfl, rfl⟩ ?_
      refine tr_iinc (pc := 43) (v := (x1 + 1)) k_fm_looksAt_43 rfl rfl (by decide) rfl ?_
      show mT g me_fm_looksAt (d + 1) 0 0 46 [some (vr 10 0), some (vi (x1 + 1))] [] (setI h 10 0 47 (hI h 11 33 x1.toNatClampNeg)) _
      refine tr_goto (pc := 46) 2 k_fm_looksAt_46 (by decide) ?_
      exact hv
theorem v_fm_viewAt_0 {g : mG} {d : Nat} (x1 : Int32) {h : mH} {Q : Option mV → mH → Prop} (hsk : mSK h) (hv : mT g me_fm_viewAt (d + 1) 0 0 2 [some (vr 10 0), some (vi x1), some (vi (0 : Int32))] [] h Q) : mT g me_fm_viewAt (d + 1) 0 0 0 [some (vr 10 0), some (vi x1), none] [] h Q := by
  refine tr_iconst (pc := 0) (v := 0) k_fm_viewAt_0 (by decide) ?_
  refine tr_istore_n (pc := 1) 2 k_fm_viewAt_1 rfl (by decide) rfl ?_
  show mT g me_fm_viewAt (d + 1) 0 0 2 [some (vr 10 0), some (vi x1), some (vi (0 : Int32))] [] h _
  exact hv
theorem v_fm_viewAt_2 {g : mG} {d : Nat} (x1 : Int32) (x2 : Int32) {h : mH} {Q : Option mV → mH → Prop} (hsk : mSK h) (hv : (((hI h 10 0 5) ≤ x2 → Q (some (vi (-9 : Int32))) h) ∧ (¬ (hI h 10 0 5) ≤ x2 → (vp_in x2 12 ∧ ((x1 < (hI h 11 25 x2.toNatClampNeg) → mT g me_fm_viewAt (d + 1) 0 0 2 [some (vr 10 0), some (vi x1), some (vi (x2 + 1))] [] h Q) ∧ (¬ x1 < (hI h 11 25 x2.toNatClampNeg) → (vp_in x2 12 ∧ (((hI h 11 26 x2.toNatClampNeg) < x1 → mT g me_fm_viewAt (d + 1) 0 0 2 [some (vr 10 0), some (vi x1), some (vi (x2 + 1))] [] h Q) ∧ (¬ (hI h 11 26 x2.toNatClampNeg) < x1 → Q (some (vi x2)) h))))))))) : mT g me_fm_viewAt (d + 1) 0 0 2 [some (vr 10 0), some (vi x1), some (vi x2)] [] h Q := by
  refine tr_iload_n (pc := 2) 2 k_fm_viewAt_2 rfl rfl ?_
  refine tr_aload_n (pc := 3) 0 k_fm_viewAt_3 rfl rfl ?_
  refine tr_getIx (pc := 4) k_fm_viewAt_4 fl_fm_213 rfl rfl ?_
  refine tr_icmp_ge (pc := 7) 38 k_fm_viewAt_7 (by decide) (fun q => ?_) (fun q => ?_)
  · replace hv := hv.1 q
    refine tr_bipush (pc := 38) (v := -9) k_fm_viewAt_38 (by decide) ?_
    refine tr_ireturn (pc := 40) k_fm_viewAt_40 rfl rfl ?_
    exact hv
  · replace hv := hv.2 q
    refine tr_aload_n (pc := 10) 0 k_fm_viewAt_10 rfl rfl ?_
    refine tr_getP (pc := 11) k_fm_viewAt_11 fl_fm_78 rfl (Eq.trans rfl (hsk.1 10 28 _ rfl)) ?_
    refine tr_iload_n (pc := 14) 2 k_fm_viewAt_14 rfl rfl ?_
    refine tr_ialdx (pc := 15) k_fm_viewAt_15 (mvin (hsk.2.1 11 25 _ rfl) hv.1) rfl ?_
    replace hv := hv.2
    refine tr_iload_n (pc := 16) 1 k_fm_viewAt_16 rfl rfl ?_
    refine tr_icmp_gt (pc := 17) 32 k_fm_viewAt_17 (by decide) (fun q => ?_) (fun q => ?_)
    · replace hv := hv.1 q
      refine tr_iinc (pc := 32) (v := (x2 + 1)) k_fm_viewAt_32 rfl rfl (by decide) rfl ?_
      show mT g me_fm_viewAt (d + 1) 0 0 35 [some (vr 10 0), some (vi x1), some (vi (x2 + 1))] [] h _
      refine tr_goto (pc := 35) 2 k_fm_viewAt_35 (by decide) ?_
      exact hv
    · replace hv := hv.2 q
      refine tr_iload_n (pc := 20) 1 k_fm_viewAt_20 rfl rfl ?_
      refine tr_aload_n (pc := 21) 0 k_fm_viewAt_21 rfl rfl ?_
      refine tr_getP (pc := 22) k_fm_viewAt_22 fl_fm_81 rfl (Eq.trans rfl (hsk.1 10 29 _ rfl)) ?_
      refine tr_iload_n (pc := 25) 2 k_fm_viewAt_25 rfl rfl ?_
      refine tr_ialdx (pc := 26) k_fm_viewAt_26 (mvin (hsk.2.1 11 26 _ rfl) hv.1) rfl ?_
      replace hv := hv.2
      refine tr_icmp_gt (pc := 27) 32 k_fm_viewAt_27 (by decide) (fun q => ?_) (fun q => ?_)
      · replace hv := hv.1 q
        refine tr_iinc (pc := 32) (v := (x2 + 1)) k_fm_viewAt_32 rfl rfl (by decide) rfl ?_
        show mT g me_fm_viewAt (d + 1) 0 0 35 [some (vr 10 0), some (vi x1), some (vi (x2 + 1))] [] h _
        refine tr_goto (pc := 35) 2 k_fm_viewAt_35 (by decide) ?_
        exact hv
      · replace hv := hv.2 q
        refine tr_iload_n (pc := 30) 2 k_fm_viewAt_30 rfl rfl ?_
        refine tr_ireturn (pc := 31) k_fm_viewAt_31 rfl rfl ?_
        exact hv
theorem v_fm_most_0 {g : mG} {d : Nat}  {h : mH} {Q : Option mV → mH → Prop} (hsk : mSK h) (hv : mT g me_fm_hasWalk (d + 3) 0 0 0 [some (vr 10 0)] [] h (fun v h1 => ∃ y2, v = some (vi y2) ∧ mSK h1 ∧ ((¬ y2 = 0 → mT g me_fm_walks (d + 3) 0 0 0 [some (vr 10 0), some (vi (0 : Int32)), none, none, none, none] [] h1 (fun v h3 => v = none ∧ mSK h3 ∧ Q (some (vi (hI h3 10 0 48))) h3)) ∧ (y2 = 0 → mT g me_fm_refuse (d + 3) 0 0 0 [some (vr 10 0), some (vi (-3 : Int32))] [] h1 (fun v h4 => ∃ y5, v = some (vi y5) ∧ mSK h4 ∧ Q (some (vi y5)) h4))))) : mT g me_fm_most (d + 4) 0 0 0 [some (vr 10 0)] [] h Q := by
  refine tr_aload_n (pc := 0) 0 k_fm_most_0 rfl rfl ?_
  have hT := hv
  clear hv
  refine tr_callV (pc := 1) (d' := d + 3) (mc' := 0) (ms' := 0) [] k_fm_most_1 ca_fm_hasWalk ml_fm_240 ii_fm_hasWalk ⟨by decide, rfl⟩ pa_fm_hasWalk (by omega) (by omega) (by omega) rfl (Nat.le_of_ble_eq_true rfl) (Nat.le_of_ble_eq_true rfl) hT (fun v h9 hv => ?_)
  clear hT
  obtain ⟨y2, rfl, hv⟩ := hv
  obtain ⟨h1, eh⟩ : ∃ z, z = h9 := ⟨_, rfl⟩
  subst eh
  obtain ⟨hskh1, hv⟩ := hv
  show mT g me_fm_most (d + 4) 0 0 4 [some (vr 10 0)] [vi y2] h1 _
  refine tr_if_ne (pc := 4) 14 k_fm_most_4 (by decide) (fun q => ?_) (fun q => ?_)
  · replace hv := hv.1 q
    refine tr_aload_n (pc := 14) 0 k_fm_most_14 rfl rfl ?_
    refine tr_iconst (pc := 15) (v := 0) k_fm_most_15 (by decide) ?_
    have hT := hv
    clear hv
    refine tr_callV (pc := 16) (d' := d + 3) (mc' := 0) (ms' := 0) [vi (0 : Int32)] k_fm_most_16 ca_fm_walks ml_fm_244 ii_fm_walks ⟨by decide, rfl⟩ pa_fm_walks (by omega) (by omega) (by omega) rfl (Nat.le_of_ble_eq_true rfl) (Nat.le_of_ble_eq_true rfl) hT (fun v h9 hv => ?_)
    clear hT
    obtain ⟨rfl, hv⟩ := hv
    obtain ⟨h3, eh⟩ : ∃ z, z = h9 := ⟨_, rfl⟩
    subst eh
    obtain ⟨hskh3, hv⟩ := hv
    show mT g me_fm_most (d + 4) 0 0 19 [some (vr 10 0)] [] h3 _
    refine tr_aload_n (pc := 19) 0 k_fm_most_19 rfl rfl ?_
    refine tr_getIx (pc := 20) k_fm_most_20 fl_fm_231 rfl rfl ?_
    refine tr_ireturn (pc := 23) k_fm_most_23 rfl rfl ?_
    exact hv
  · replace hv := hv.2 q
    refine tr_aload_n (pc := 7) 0 k_fm_most_7 rfl rfl ?_
    refine tr_bipush (pc := 8) (v := -3) k_fm_most_8 (by decide) ?_
    have hT := hv
    clear hv
    refine tr_callV (pc := 10) (d' := d + 3) (mc' := 0) (ms' := 0) [vi (-3 : Int32)] k_fm_most_10 ca_fm_refuse ml_fm_133 ii_fm_refuse ⟨by decide, rfl⟩ pa_fm_refuse (by omega) (by omega) (by omega) rfl (Nat.le_of_ble_eq_true rfl) (Nat.le_of_ble_eq_true rfl) hT (fun v h9 hv => ?_)
    clear hT
    obtain ⟨y5, rfl, hv⟩ := hv
    obtain ⟨h4, eh⟩ : ∃ z, z = h9 := ⟨_, rfl⟩
    subst eh
    obtain ⟨hskh4, hv⟩ := hv
    show mT g me_fm_most (d + 4) 0 0 13 [some (vr 10 0)] [vi y5] h4 _
    refine tr_ireturn (pc := 13) k_fm_most_13 rfl rfl ?_
    exact hv
theorem v_fm_pace_0 {g : mG} {d : Nat} (x1 : Int32) {h : mH} {Q : Option mV → mH → Prop} (hsk : mSK h) (hv : (((0 : Int32) ≤ x1 → ((x1 ≤ (30 : Int32) → Q (some (vi (hI h 10 0 6))) (setI h 10 0 6 x1)) ∧ (¬ x1 ≤ (30 : Int32) → mT g me_fm_refuse (d + 1) 0 0 0 [some (vr 10 0), some (vi (-6 : Int32))] [] h (fun v h1 => ∃ y2, v = some (vi y2) ∧ mSK h1 ∧ Q (some (vi y2)) h1)))) ∧ (¬ (0 : Int32) ≤ x1 → mT g me_fm_refuse (d + 1) 0 0 0 [some (vr 10 0), some (vi (-4 : Int32))] [] h (fun v h3 => ∃ y4, v = some (vi y4) ∧ mSK h3 ∧ Q (some (vi y4)) h3)))) : mT g me_fm_pace (d + 2) 0 0 0 [some (vr 10 0), some (vi x1), none, none] [] h Q := by
  refine tr_iload_n (pc := 0) 1 k_fm_pace_0 rfl rfl ?_
  refine tr_iconst (pc := 1) (v := 0) k_fm_pace_1 (by decide) ?_
  refine tr_bipush (pc := 2) (v := 30) k_fm_pace_2 (by decide) ?_
  refine tr_callS (pc := 4) (d' := d + 1) (mc' := 0) (ms' := 0) [vi x1, vi (0 : Int32), vi (30 : Int32)] k_fm_pace_4 ca_fm_wrong ml_fm_148 is_fm_wrong pa_fm_wrong (by omega) (by omega) (by omega) rfl (Nat.le_of_ble_eq_true rfl) (Nat.le_of_ble_eq_true rfl) (Qk := fun v h9 => mT g me_fm_pace (d + 2) 0 0 7 [some (vr 10 0), some (vi x1), none, none] (v.toList ++ []) h9 _) ?_ (fun _ _ z => z)
  show mT g me_fm_wrong (d + 1) 0 0 0 [some (vi x1), some (vi (0 : Int32)), some (vi (30 : Int32))] [] h _
  refine tr_iload_n (pc := 0) 0 k_fm_wrong_0 rfl rfl ?_
  refine tr_iload_n (pc := 1) 1 k_fm_wrong_1 rfl rfl ?_
  refine tr_icmp_ge (pc := 2) 10 k_fm_wrong_2 (by decide) (fun q => ?_) (fun q => ?_)
  · replace hv := hv.1 q
    refine tr_iload_n (pc := 10) 0 k_fm_wrong_10 rfl rfl ?_
    refine tr_iload_n (pc := 11) 2 k_fm_wrong_11 rfl rfl ?_
    refine tr_icmp_le (pc := 12) 20 k_fm_wrong_12 (by decide) (fun q => ?_) (fun q => ?_)
    · replace hv := hv.1 q
      refine tr_iconst (pc := 20) (v := 0) k_fm_wrong_20 (by decide) ?_
      refine tr_ireturn (pc := 21) k_fm_wrong_21 rfl rfl ?_
      show mT g me_fm_pace (d + 2) 0 0 7 [some (vr 10 0), some (vi x1), none, none] [vi (0 : Int32)] h _
      refine tr_istore_n (pc := 7) 2 k_fm_pace_7 rfl (by decide) rfl ?_
      show mT g me_fm_pace (d + 2) 0 0 8 [some (vr 10 0), some (vi x1), some (vi (0 : Int32)), none] [] h _
      refine tr_iload_n (pc := 8) 2 k_fm_pace_8 rfl rfl ?_
      refine tr_if_eq (pc := 9) 18 k_fm_pace_9 (by decide) (fun _ => ?_) (fun q => absurd q (by decide))
      refine tr_aload_n (pc := 18) 0 k_fm_pace_18 rfl rfl ?_
      refine tr_getIx (pc := 19) k_fm_pace_19 fl_fm_13 rfl rfl ?_
      refine tr_istore_n (pc := 22) 3 k_fm_pace_22 rfl (by decide) rfl ?_
      show mT g me_fm_pace (d + 2) 0 0 23 [some (vr 10 0), some (vi x1), some (vi (0 : Int32)), some (vi (hI h 10 0 6))] [] h _
      refine tr_aload_n (pc := 23) 0 k_fm_pace_23 rfl rfl ?_
      refine tr_iload_n (pc := 24) 1 k_fm_pace_24 rfl rfl ?_
      refine tr_putI (pc := 25) k_fm_pace_25 fl_fm_13 (Or.inl rfl) rfl ⟨rfl, rfl⟩ ?_
      refine tr_iload_n (pc := 28) 3 k_fm_pace_28 rfl rfl ?_
      refine tr_ireturn (pc := 29) k_fm_pace_29 rfl rfl ?_
      exact hv
    · replace hv := hv.2 q
      refine tr_bipush (pc := 15) (v := -6) k_fm_wrong_15 (by decide) ?_
      refine tr_goto (pc := 17) 21 k_fm_wrong_17 (by decide) ?_
      refine tr_ireturn (pc := 21) k_fm_wrong_21 rfl rfl ?_
      show mT g me_fm_pace (d + 2) 0 0 7 [some (vr 10 0), some (vi x1), none, none] [vi (-6 : Int32)] h _
      refine tr_istore_n (pc := 7) 2 k_fm_pace_7 rfl (by decide) rfl ?_
      show mT g me_fm_pace (d + 2) 0 0 8 [some (vr 10 0), some (vi x1), some (vi (-6 : Int32)), none] [] h _
      refine tr_iload_n (pc := 8) 2 k_fm_pace_8 rfl rfl ?_
      refine tr_if_eq (pc := 9) 18 k_fm_pace_9 (by decide) (fun q => absurd q (by decide)) (fun _ => ?_)
      refine tr_aload_n (pc := 12) 0 k_fm_pace_12 rfl rfl ?_
      refine tr_iload_n (pc := 13) 2 k_fm_pace_13 rfl rfl ?_
      have hT := hv
      clear hv
      refine tr_callV (pc := 14) (d' := d + 1) (mc' := 0) (ms' := 0) [vi (-6 : Int32)] k_fm_pace_14 ca_fm_refuse ml_fm_133 ii_fm_refuse ⟨by decide, rfl⟩ pa_fm_refuse (by omega) (by omega) (by omega) rfl (Nat.le_of_ble_eq_true rfl) (Nat.le_of_ble_eq_true rfl) hT (fun v h9 hv => ?_)
      clear hT
      obtain ⟨y2, rfl, hv⟩ := hv
      obtain ⟨h1, eh⟩ : ∃ z, z = h9 := ⟨_, rfl⟩
      subst eh
      obtain ⟨hskh1, hv⟩ := hv
      show mT g me_fm_pace (d + 2) 0 0 17 [some (vr 10 0), some (vi x1), some (vi (-6 : Int32)), none] [vi y2] h1 _
      refine tr_ireturn (pc := 17) k_fm_pace_17 rfl rfl ?_
      exact hv
  · replace hv := hv.2 q
    refine tr_bipush (pc := 5) (v := -4) k_fm_wrong_5 (by decide) ?_
    refine tr_goto (pc := 7) 21 k_fm_wrong_7 (by decide) ?_
    refine tr_ireturn (pc := 21) k_fm_wrong_21 rfl rfl ?_
    show mT g me_fm_pace (d + 2) 0 0 7 [some (vr 10 0), some (vi x1), none, none] [vi (-4 : Int32)] h _
    refine tr_istore_n (pc := 7) 2 k_fm_pace_7 rfl (by decide) rfl ?_
    show mT g me_fm_pace (d + 2) 0 0 8 [some (vr 10 0), some (vi x1), some (vi (-4 : Int32)), none] [] h _
    refine tr_iload_n (pc := 8) 2 k_fm_pace_8 rfl rfl ?_
    refine tr_if_eq (pc := 9) 18 k_fm_pace_9 (by decide) (fun q => absurd q (by decide)) (fun _ => ?_)
    refine tr_aload_n (pc := 12) 0 k_fm_pace_12 rfl rfl ?_
    refine tr_iload_n (pc := 13) 2 k_fm_pace_13 rfl rfl ?_
    have hT := hv
    clear hv
    refine tr_callV (pc := 14) (d' := d + 1) (mc' := 0) (ms' := 0) [vi (-4 : Int32)] k_fm_pace_14 ca_fm_refuse ml_fm_133 ii_fm_refuse ⟨by decide, rfl⟩ pa_fm_refuse (by omega) (by omega) (by omega) rfl (Nat.le_of_ble_eq_true rfl) (Nat.le_of_ble_eq_true rfl) hT (fun v h9 hv => ?_)
    clear hT
    obtain ⟨y4, rfl, hv⟩ := hv
    obtain ⟨h3, eh⟩ : ∃ z, z = h9 := ⟨_, rfl⟩
    subst eh
    obtain ⟨hskh3, hv⟩ := hv
    show mT g me_fm_pace (d + 2) 0 0 17 [some (vr 10 0), some (vi x1), some (vi (-4 : Int32)), none] [vi y4] h3 _
    refine tr_ireturn (pc := 17) k_fm_pace_17 rfl rfl ?_
    exact hv
theorem v_fm_tasks_0 {g : mG} {d : Nat}  {h : mH} {Q : Option mV → mH → Prop} (hsk : mSK h) (hv : mT g me_fm_findTasks (d + 2) 0 0 0 [some (vr 10 0), none, none, none] [] h (fun v h1 => v = none ∧ mSK h1 ∧ Q (some (vi (hI h1 10 0 52))) h1)) : mT g me_fm_tasks (d + 3) 0 0 0 [some (vr 10 0)] [] h Q := by
  refine tr_aload_n (pc := 0) 0 k_fm_tasks_0 rfl rfl ?_
  have hT := hv
  clear hv
  refine tr_callV (pc := 1) (d' := d + 2) (mc' := 0) (ms' := 0) [] k_fm_tasks_1 ca_fm_findTasks ml_fm_255 ii_fm_findTasks ⟨by decide, rfl⟩ pa_fm_findTasks (by omega) (by omega) (by omega) rfl (Nat.le_of_ble_eq_true rfl) (Nat.le_of_ble_eq_true rfl) hT (fun v h9 hv => ?_)
  clear hT
  obtain ⟨rfl, hv⟩ := hv
  obtain ⟨h1, eh⟩ : ∃ z, z = h9 := ⟨_, rfl⟩
  subst eh
  obtain ⟨hskh1, hv⟩ := hv
  show mT g me_fm_tasks (d + 3) 0 0 4 [some (vr 10 0)] [] h1 _
  refine tr_aload_n (pc := 4) 0 k_fm_tasks_4 rfl rfl ?_
  refine tr_getIx (pc := 5) k_fm_tasks_5 fl_fm_248 rfl rfl ?_
  refine tr_ireturn (pc := 8) k_fm_tasks_8 rfl rfl ?_
  exact hv
theorem v_fm_findTasks_0 {g : mG} {d : Nat}  {h : mH} {Q : Option mV → mH → Prop} (hsk : mSK h) (hv : mT g me_fm_findTasks (d + 2) 0 0 9 [some (vr 10 0), some (vi (0 : Int32)), some (vi (0 : Int32)), none] [] (setI h 10 0 52 (0 : Int32)) Q) : mT g me_fm_findTasks (d + 2) 0 0 0 [some (vr 10 0), none, none, none] [] h Q := by
  refine tr_aload_n (pc := 0) 0 k_fm_findTasks_0 rfl rfl ?_
  refine tr_iconst (pc := 1) (v := 0) k_fm_findTasks_1 (by decide) ?_
  refine tr_putI (pc := 2) k_fm_findTasks_2 fl_fm_248 (Or.inl rfl) rfl ⟨rfl, rfl⟩ ?_
  refine tr_iconst (pc := 5) (v := 0) k_fm_findTasks_5 (by decide) ?_
  refine tr_istore_n (pc := 6) 1 k_fm_findTasks_6 rfl (by decide) rfl ?_
  show mT g me_fm_findTasks (d + 2) 0 0 7 [some (vr 10 0), some (vi (0 : Int32)), none, none] [] (setI h 10 0 52 (0 : Int32)) _
  refine tr_iconst (pc := 7) (v := 0) k_fm_findTasks_7 (by decide) ?_
  refine tr_istore_n (pc := 8) 2 k_fm_findTasks_8 rfl (by decide) rfl ?_
  show mT g me_fm_findTasks (d + 2) 0 0 9 [some (vr 10 0), some (vi (0 : Int32)), some (vi (0 : Int32)), none] [] (setI h 10 0 52 (0 : Int32)) _
  exact hv
theorem v_fm_findTasks_9 {g : mG} {d : Nat} (x1 : Int32) (x2 : Int32) (o3 : Option mV) {h : mH} {Q : Option mV → mH → Prop} (hsk : mSK h) (hv : (((hI h 10 0 5) ≤ x2 → (((hI h 10 0 5) ≤ 0 → Q none h) ∧ (¬ (hI h 10 0 5) ≤ 0 → (vp_in ((hI h 10 0 5) - (1 : Int32)) 12 ∧ mT g me_fm_adds (d + 1) 0 0 0 [some (vr 10 0), some (vi ((hI h 11 26 (((hI h 10 0 5) - (1 : Int32)).toNatClampNeg)) + (1 : Int32))), some (vi (0 : Int32)), some (vi x1), none] [] h (fun v h1 => v = none ∧ mSK h1 ∧ Q none h1))))) ∧ (¬ (hI h 10 0 5) ≤ x2 → ((x2 ≤ 0 → ((x2 ≤ 0 → (vp_in x2 12 ∧ (vp_in x2 12 ∧ (vp_in x2 12 ∧ mT g me_fm_adds (d + 1) 0 0 0 [some (vr 10 0), some (vi (hI h 11 25 x2.toNatClampNeg)), some (vi ((hI h 11 24 x2.toNatClampNeg) &&& (x1 ^^^ (-1 : Int32)))), some (vi (x1 &&& ((hI h 11 24 x2.toNatClampNeg) ^^^ (-1 : Int32)))), none] [] h (fun v h2 => v = none ∧ mSK h2 ∧ (vp_in x2 12 ∧ mT g me_fm_findTasks (d + 2) 0 0 9 [some (vr 10 0), some (vi (hI h2 11 24 x2.toNatClampNeg)), some (vi (x2 + 1)), some (vi (0 : Int32))] [] h2 Q)))))) ∧ (¬ x2 ≤ 0 → (vp_in (x2 - (1 : Int32)) 12 ∧ mT g me_fm_adds (d + 1) 0 0 0 [some (vr 10 0), some (vi ((hI h 11 26 ((x2 - (1 : Int32)).toNatClampNeg)) + (1 : Int32))), some (vi (0 : Int32)), some (vi x1), none] [] h (fun v h3 => v = none ∧ mSK h3 ∧ (vp_in x2 12 ∧ (vp_in x2 12 ∧ (vp_in x2 12 ∧ mT g me_fm_adds (d + 1) 0 0 0 [some (vr 10 0), some (vi (hI h3 11 25 x2.toNatClampNeg)), some (vi ((hI h3 11 24 x2.toNatClampNeg) &&& ((0 : Int32) ^^^ (-1 : Int32)))), some (vi ((0 : Int32) &&& ((hI h3 11 24 x2.toNatClampNeg) ^^^ (-1 : Int32)))), none] [] h3 (fun v h4 => v = none ∧ mSK h4 ∧ (vp_in x2 12 ∧ mT g me_fm_findTasks (d + 2) 0 0 9 [some (vr 10 0), some (vi (hI h4 11 24 x2.toNatClampNeg)), some (vi (x2 + 1)), some (vi (0 : Int32))] [] h4 Q)))))))))) ∧ (¬ x2 ≤ 0 → (vp_in (x2 - (1 : Int32)) 12 ∧ (vp_in x2 12 ∧ ((¬ ((hI h 11 26 ((x2 - (1 : Int32)).toNatClampNeg)) + (1 : Int32)) = (hI h 11 25 x2.toNatClampNeg) → ((x2 ≤ 0 → (vp_in x2 12 ∧ (vp_in x2 12 ∧ (vp_in x2 12 ∧ mT g me_fm_adds (d + 1) 0 0 0 [some (vr 10 0), some (vi (hI h 11 25 x2.toNatClampNeg)), some (vi ((hI h 11 24 x2.toNatClampNeg) &&& (x1 ^^^ (-1 : Int32)))), some (vi (x1 &&& ((hI h 11 24 x2.toNatClampNeg) ^^^ (-1 : Int32)))), none] [] h (fun v h5 => v = none ∧ mSK h5 ∧ (vp_in x2 12 ∧ mT g me_fm_findTasks (d + 2) 0 0 9 [some (vr 10 0), some (vi (hI h5 11 24 x2.toNatClampNeg)), some (vi (x2 + 1)), some (vi (0 : Int32))] [] h5 Q)))))) ∧ (¬ x2 ≤ 0 → (vp_in (x2 - (1 : Int32)) 12 ∧ mT g me_fm_adds (d + 1) 0 0 0 [some (vr 10 0), some (vi ((hI h 11 26 ((x2 - (1 : Int32)).toNatClampNeg)) + (1 : Int32))), some (vi (0 : Int32)), some (vi x1), none] [] h (fun v h6 => v = none ∧ mSK h6 ∧ (vp_in x2 12 ∧ (vp_in x2 12 ∧ (vp_in x2 12 ∧ mT g me_fm_adds (d + 1) 0 0 0 [some (vr 10 0), some (vi (hI h6 11 25 x2.toNatClampNeg)), some (vi ((hI h6 11 24 x2.toNatClampNeg) &&& ((0 : Int32) ^^^ (-1 : Int32)))), some (vi ((0 : Int32) &&& ((hI h6 11 24 x2.toNatClampNeg) ^^^ (-1 : Int32)))), none] [] h6 (fun v h7 => v = none ∧ mSK h7 ∧ (vp_in x2 12 ∧ mT g me_fm_findTasks (d + 2) 0 0 9 [some (vr 10 0), some (vi (hI h7 11 24 x2.toNatClampNeg)), some (vi (x2 + 1)), some (vi (0 : Int32))] [] h7 Q)))))))))) ∧ (((hI h 11 26 ((x2 - (1 : Int32)).toNatClampNeg)) + (1 : Int32)) = (hI h 11 25 x2.toNatClampNeg) → ((x2 ≤ 0 → (vp_in x2 12 ∧ (vp_in x2 12 ∧ (vp_in x2 12 ∧ mT g me_fm_adds (d + 1) 0 0 0 [some (vr 10 0), some (vi (hI h 11 25 x2.toNatClampNeg)), some (vi ((hI h 11 24 x2.toNatClampNeg) &&& (x1 ^^^ (-1 : Int32)))), some (vi (x1 &&& ((hI h 11 24 x2.toNatClampNeg) ^^^ (-1 : Int32)))), none] [] h (fun v h8 => v = none ∧ mSK h8 ∧ (vp_in x2 12 ∧ mT g me_fm_findTasks (d + 2) 0 0 9 [some (vr 10 0), some (vi (hI h8 11 24 x2.toNatClampNeg)), some (vi (x2 + 1)), some (vi (1 : Int32))] [] h8 Q)))))) ∧ (¬ x2 ≤ 0 → (vp_in x2 12 ∧ (vp_in x2 12 ∧ (vp_in x2 12 ∧ mT g me_fm_adds (d + 1) 0 0 0 [some (vr 10 0), some (vi (hI h 11 25 x2.toNatClampNeg)), some (vi ((hI h 11 24 x2.toNatClampNeg) &&& (x1 ^^^ (-1 : Int32)))), some (vi (x1 &&& ((hI h 11 24 x2.toNatClampNeg) ^^^ (-1 : Int32)))), none] [] h (fun v h9 => v = none ∧ mSK h9 ∧ (vp_in x2 12 ∧ mT g me_fm_findTasks (d + 2) 0 0 9 [some (vr 10 0), some (vi (hI h9 11 24 x2.toNatClampNeg)), some (vi (x2 + 1)), some (vi (1 : Int32))] [] h9 Q)))))))))))))))) : mT g me_fm_findTasks (d + 2) 0 0 9 [some (vr 10 0), some (vi x1), some (vi x2), o3] [] h Q := by
  refine tr_iload_n (pc := 9) 2 k_fm_findTasks_9 rfl rfl ?_
  refine tr_aload_n (pc := 10) 0 k_fm_findTasks_10 rfl rfl ?_
  refine tr_getIx (pc := 11) k_fm_findTasks_11 fl_fm_213 rfl rfl ?_
  refine tr_icmp_ge (pc := 14) 115 k_fm_findTasks_14 (by decide) (fun q => ?_) (fun q => ?_)
  · replace hv := hv.1 q
    refine tr_aload_n (pc := 115) 0 k_fm_findTasks_115 rfl rfl ?_
    refine tr_getIx (pc := 116) k_fm_findTasks_116 fl_fm_213 rfl rfl ?_
    refine tr_if_le (pc := 119) 141 k_fm_findTasks_119 (by decide) (fun q => ?_) (fun q => ?_)
    · replace hv := hv.1 q
      refine tr_return (pc := 141) k_fm_findTasks_141 rfl ?_
      exact hv
    · replace hv := hv.2 q
      refine tr_aload_n (pc := 122) 0 k_fm_findTasks_122 rfl rfl ?_
      refine tr_aload_n (pc := 123) 0 k_fm_findTasks_123 rfl rfl ?_
      refine tr_getP (pc := 124) k_fm_findTasks_124 fl_fm_81 rfl (Eq.trans rfl (hsk.1 10 29 _ rfl)) ?_
      refine tr_aload_n (pc := 127) 0 k_fm_findTasks_127 rfl rfl ?_
      refine tr_getIx (pc := 128) k_fm_findTasks_128 fl_fm_213 rfl rfl ?_
      refine tr_iconst (pc := 131) (v := 1) k_fm_findTasks_131 (by decide) ?_
      refine tr_isub (pc := 132) k_fm_findTasks_132 ?_
      refine tr_ialdx (pc := 133) k_fm_findTasks_133 (mvin (hsk.2.1 11 26 _ rfl) hv.1) rfl ?_
      replace hv := hv.2
      refine tr_iconst (pc := 134) (v := 1) k_fm_findTasks_134 (by decide) ?_
      refine tr_iadd (pc := 135) k_fm_findTasks_135 ?_
      refine tr_iconst (pc := 136) (v := 0) k_fm_findTasks_136 (by decide) ?_
      refine tr_iload_n (pc := 137) 1 k_fm_findTasks_137 rfl rfl ?_
      have hT := hv
      clear hv
      refine tr_callV (pc := 138) (d' := d + 1) (mc' := 0) (ms' := 0) [vi ((hI h 11 26 (((hI h 10 0 5) - (1 : Int32)).toNatClampNeg)) + (1 : Int32)), vi (0 : Int32), vi x1] k_fm_findTasks_138 ca_fm_adds ml_fm_251 ii_fm_adds ⟨by decide, rfl⟩ pa_fm_adds (by omega) (by omega) (by omega) rfl (Nat.le_of_ble_eq_true rfl) (Nat.le_of_ble_eq_true rfl) hT (fun v h9 hv => ?_)
      clear hT
      obtain ⟨rfl, hv⟩ := hv
      obtain ⟨h1, eh⟩ : ∃ z, z = h9 := ⟨_, rfl⟩
      subst eh
      obtain ⟨hskh1, hv⟩ := hv
      show mT g me_fm_findTasks (d + 2) 0 0 141 [some (vr 10 0), some (vi x1), some (vi x2), o3] [] h1 _
      refine tr_return (pc := 141) k_fm_findTasks_141 rfl ?_
      exact hv
  · replace hv := hv.2 q
    refine tr_iload_n (pc := 17) 2 k_fm_findTasks_17 rfl rfl ?_
    refine tr_if_le (pc := 18) 44 k_fm_findTasks_18 (by decide) (fun q => ?_) (fun q => ?_)
    · replace hv := hv.1 q
      refine tr_iconst (pc := 44) (v := 0) k_fm_findTasks_44 (by decide) ?_
      refine tr_istore_n (pc := 45) 3 k_fm_findTasks_45 rfl (by decide) rfl ?_
      show mT g me_fm_findTasks (d + 2) 0 0 46 [some (vr 10 0), some (vi x1), some (vi x2), some (vi (0 : Int32))] [] h _
      refine tr_iload_n (pc := 46) 2 k_fm_findTasks_46 rfl rfl ?_
      refine tr_if_le (pc := 47) 72 k_fm_findTasks_47 (by decide) (fun q => ?_) (fun q => ?_)
      · replace hv := hv.1 q
        refine tr_aload_n (pc := 72) 0 k_fm_findTasks_72 rfl rfl ?_
        refine tr_aload_n (pc := 73) 0 k_fm_findTasks_73 rfl rfl ?_
        refine tr_getP (pc := 74) k_fm_findTasks_74 fl_fm_78 rfl (Eq.trans rfl (hsk.1 10 28 _ rfl)) ?_
        refine tr_iload_n (pc := 77) 2 k_fm_findTasks_77 rfl rfl ?_
        refine tr_ialdx (pc := 78) k_fm_findTasks_78 (mvin (hsk.2.1 11 25 _ rfl) hv.1) rfl ?_
        replace hv := hv.2
        refine tr_aload_n (pc := 79) 0 k_fm_findTasks_79 rfl rfl ?_
        refine tr_getP (pc := 80) k_fm_findTasks_80 fl_fm_75 rfl (Eq.trans rfl (hsk.1 10 27 _ rfl)) ?_
        refine tr_iload_n (pc := 83) 2 k_fm_findTasks_83 rfl rfl ?_
        refine tr_ialdx (pc := 84) k_fm_findTasks_84 (mvin (hsk.2.1 11 24 _ rfl) hv.1) rfl ?_
        replace hv := hv.2
        refine tr_iload_n (pc := 85) 1 k_fm_findTasks_85 rfl rfl ?_
        refine tr_iconst (pc := 86) (v := -1) k_fm_findTasks_86 (by decide) ?_
        refine tr_ixor (pc := 87) k_fm_findTasks_87 ?_
        refine tr_iand (pc := 88) k_fm_findTasks_88 ?_
        refine tr_iload_n (pc := 89) 1 k_fm_findTasks_89 rfl rfl ?_
        refine tr_aload_n (pc := 90) 0 k_fm_findTasks_90 rfl rfl ?_
        refine tr_getP (pc := 91) k_fm_findTasks_91 fl_fm_75 rfl (Eq.trans rfl (hsk.1 10 27 _ rfl)) ?_
        refine tr_iload_n (pc := 94) 2 k_fm_findTasks_94 rfl rfl ?_
        refine tr_ialdx (pc := 95) k_fm_findTasks_95 (mvin (hsk.2.1 11 24 _ rfl) hv.1) rfl ?_
        replace hv := hv.2
        refine tr_iconst (pc := 96) (v := -1) k_fm_findTasks_96 (by decide) ?_
        refine tr_ixor (pc := 97) k_fm_findTasks_97 ?_
        refine tr_iand (pc := 98) k_fm_findTasks_98 ?_
        have hT := hv
        clear hv
        refine tr_callV (pc := 99) (d' := d + 1) (mc' := 0) (ms' := 0) [vi (hI h 11 25 x2.toNatClampNeg), vi ((hI h 11 24 x2.toNatClampNeg) &&& (x1 ^^^ (-1 : Int32))), vi (x1 &&& ((hI h 11 24 x2.toNatClampNeg) ^^^ (-1 : Int32)))] k_fm_findTasks_99 ca_fm_adds ml_fm_251 ii_fm_adds ⟨by decide, rfl⟩ pa_fm_adds (by omega) (by omega) (by omega) rfl (Nat.le_of_ble_eq_true rfl) (Nat.le_of_ble_eq_true rfl) hT (fun v h9 hv => ?_)
        clear hT
        obtain ⟨rfl, hv⟩ := hv
        obtain ⟨h2, eh⟩ : ∃ z, z = h9 := ⟨_, rfl⟩
        subst eh
        obtain ⟨hskh2, hv⟩ := hv
        show mT g me_fm_findTasks (d + 2) 0 0 102 [some (vr 10 0), some (vi x1), some (vi x2), some (vi (0 : Int32))] [] h2 _
        refine tr_aload_n (pc := 102) 0 k_fm_findTasks_102 rfl rfl ?_
        refine tr_getP (pc := 103) k_fm_findTasks_103 fl_fm_75 rfl (Eq.trans rfl (hskh2.1 10 27 _ rfl)) ?_
        refine tr_iload_n (pc := 106) 2 k_fm_findTasks_106 rfl rfl ?_
        refine tr_ialdx (pc := 107) k_fm_findTasks_107 (mvin (hskh2.2.1 11 24 _ rfl) hv.1) rfl ?_
        replace hv := hv.2
        refine tr_istore_n (pc := 108) 1 k_fm_findTasks_108 rfl (by decide) rfl ?_
        show mT g me_fm_findTasks (d + 2) 0 0 109 [some (vr 10 0), some (vi (hI h2 11 24 x2.toNatClampNeg)), some (vi x2), some (vi (0 : Int32))] [] h2 _
        refine tr_iinc (pc := 109) (v := (x2 + 1)) k_fm_findTasks_109 rfl rfl (by decide) rfl ?_
        show mT g me_fm_findTasks (d + 2) 0 0 112 [some (vr 10 0), some (vi (hI h2 11 24 x2.toNatClampNeg)), some (vi (x2 + 1)), some (vi (0 : Int32))] [] h2 _
        refine tr_goto (pc := 112) 9 k_fm_findTasks_112 (by decide) ?_
        exact hv
      · replace hv := hv.2 q
        refine tr_iload_n (pc := 50) 3 k_fm_findTasks_50 rfl rfl ?_
        refine tr_if_ne (pc := 51) 72 k_fm_findTasks_51 (by decide) (fun q => absurd q (by decide)) (fun _ => ?_)
        refine tr_aload_n (pc := 54) 0 k_fm_findTasks_54 rfl rfl ?_
        refine tr_aload_n (pc := 55) 0 k_fm_findTasks_55 rfl rfl ?_
        refine tr_getP (pc := 56) k_fm_findTasks_56 fl_fm_81 rfl (Eq.trans rfl (hsk.1 10 29 _ rfl)) ?_
        refine tr_iload_n (pc := 59) 2 k_fm_findTasks_59 rfl rfl ?_
        refine tr_iconst (pc := 60) (v := 1) k_fm_findTasks_60 (by decide) ?_
        refine tr_isub (pc := 61) k_fm_findTasks_61 ?_
        refine tr_ialdx (pc := 62) k_fm_findTasks_62 (mvin (hsk.2.1 11 26 _ rfl) hv.1) rfl ?_
        replace hv := hv.2
        refine tr_iconst (pc := 63) (v := 1) k_fm_findTasks_63 (by decide) ?_
        refine tr_iadd (pc := 64) k_fm_findTasks_64 ?_
        refine tr_iconst (pc := 65) (v := 0) k_fm_findTasks_65 (by decide) ?_
        refine tr_iload_n (pc := 66) 1 k_fm_findTasks_66 rfl rfl ?_
        have hT := hv
        clear hv
        refine tr_callV (pc := 67) (d' := d + 1) (mc' := 0) (ms' := 0) [vi ((hI h 11 26 ((x2 - (1 : Int32)).toNatClampNeg)) + (1 : Int32)), vi (0 : Int32), vi x1] k_fm_findTasks_67 ca_fm_adds ml_fm_251 ii_fm_adds ⟨by decide, rfl⟩ pa_fm_adds (by omega) (by omega) (by omega) rfl (Nat.le_of_ble_eq_true rfl) (Nat.le_of_ble_eq_true rfl) hT (fun v h9 hv => ?_)
        clear hT
        obtain ⟨rfl, hv⟩ := hv
        obtain ⟨h3, eh⟩ : ∃ z, z = h9 := ⟨_, rfl⟩
        subst eh
        obtain ⟨hskh3, hv⟩ := hv
        show mT g me_fm_findTasks (d + 2) 0 0 70 [some (vr 10 0), some (vi x1), some (vi x2), some (vi (0 : Int32))] [] h3 _
        refine tr_iconst (pc := 70) (v := 0) k_fm_findTasks_70 (by decide) ?_
        refine tr_istore_n (pc := 71) 1 k_fm_findTasks_71 rfl (by decide) rfl ?_
        show mT g me_fm_findTasks (d + 2) 0 0 72 [some (vr 10 0), some (vi (0 : Int32)), some (vi x2), some (vi (0 : Int32))] [] h3 _
        refine tr_aload_n (pc := 72) 0 k_fm_findTasks_72 rfl rfl ?_
        refine tr_aload_n (pc := 73) 0 k_fm_findTasks_73 rfl rfl ?_
        refine tr_getP (pc := 74) k_fm_findTasks_74 fl_fm_78 rfl (Eq.trans rfl (hskh3.1 10 28 _ rfl)) ?_
        refine tr_iload_n (pc := 77) 2 k_fm_findTasks_77 rfl rfl ?_
        refine tr_ialdx (pc := 78) k_fm_findTasks_78 (mvin (hskh3.2.1 11 25 _ rfl) hv.1) rfl ?_
        replace hv := hv.2
        refine tr_aload_n (pc := 79) 0 k_fm_findTasks_79 rfl rfl ?_
        refine tr_getP (pc := 80) k_fm_findTasks_80 fl_fm_75 rfl (Eq.trans rfl (hskh3.1 10 27 _ rfl)) ?_
        refine tr_iload_n (pc := 83) 2 k_fm_findTasks_83 rfl rfl ?_
        refine tr_ialdx (pc := 84) k_fm_findTasks_84 (mvin (hskh3.2.1 11 24 _ rfl) hv.1) rfl ?_
        replace hv := hv.2
        refine tr_iload_n (pc := 85) 1 k_fm_findTasks_85 rfl rfl ?_
        refine tr_iconst (pc := 86) (v := -1) k_fm_findTasks_86 (by decide) ?_
        refine tr_ixor (pc := 87) k_fm_findTasks_87 ?_
        refine tr_iand (pc := 88) k_fm_findTasks_88 ?_
        refine tr_iload_n (pc := 89) 1 k_fm_findTasks_89 rfl rfl ?_
        refine tr_aload_n (pc := 90) 0 k_fm_findTasks_90 rfl rfl ?_
        refine tr_getP (pc := 91) k_fm_findTasks_91 fl_fm_75 rfl (Eq.trans rfl (hskh3.1 10 27 _ rfl)) ?_
        refine tr_iload_n (pc := 94) 2 k_fm_findTasks_94 rfl rfl ?_
        refine tr_ialdx (pc := 95) k_fm_findTasks_95 (mvin (hskh3.2.1 11 24 _ rfl) hv.1) rfl ?_
        replace hv := hv.2
        refine tr_iconst (pc := 96) (v := -1) k_fm_findTasks_96 (by decide) ?_
        refine tr_ixor (pc := 97) k_fm_findTasks_97 ?_
        refine tr_iand (pc := 98) k_fm_findTasks_98 ?_
        have hT := hv
        clear hv
        refine tr_callV (pc := 99) (d' := d + 1) (mc' := 0) (ms' := 0) [vi (hI h3 11 25 x2.toNatClampNeg), vi ((hI h3 11 24 x2.toNatClampNeg) &&& ((0 : Int32) ^^^ (-1 : Int32))), vi ((0 : Int32) &&& ((hI h3 11 24 x2.toNatClampNeg) ^^^ (-1 : Int32)))] k_fm_findTasks_99 ca_fm_adds ml_fm_251 ii_fm_adds ⟨by decide, rfl⟩ pa_fm_adds (by omega) (by omega) (by omega) rfl (Nat.le_of_ble_eq_true rfl) (Nat.le_of_ble_eq_true rfl) hT (fun v h9 hv => ?_)
        clear hT
        obtain ⟨rfl, hv⟩ := hv
        obtain ⟨h4, eh⟩ : ∃ z, z = h9 := ⟨_, rfl⟩
        subst eh
        obtain ⟨hskh4, hv⟩ := hv
        show mT g me_fm_findTasks (d + 2) 0 0 102 [some (vr 10 0), some (vi (0 : Int32)), some (vi x2), some (vi (0 : Int32))] [] h4 _
        refine tr_aload_n (pc := 102) 0 k_fm_findTasks_102 rfl rfl ?_
        refine tr_getP (pc := 103) k_fm_findTasks_103 fl_fm_75 rfl (Eq.trans rfl (hskh4.1 10 27 _ rfl)) ?_
        refine tr_iload_n (pc := 106) 2 k_fm_findTasks_106 rfl rfl ?_
        refine tr_ialdx (pc := 107) k_fm_findTasks_107 (mvin (hskh4.2.1 11 24 _ rfl) hv.1) rfl ?_
        replace hv := hv.2
        refine tr_istore_n (pc := 108) 1 k_fm_findTasks_108 rfl (by decide) rfl ?_
        show mT g me_fm_findTasks (d + 2) 0 0 109 [some (vr 10 0), some (vi (hI h4 11 24 x2.toNatClampNeg)), some (vi x2), some (vi (0 : Int32))] [] h4 _
        refine tr_iinc (pc := 109) (v := (x2 + 1)) k_fm_findTasks_109 rfl rfl (by decide) rfl ?_
        show mT g me_fm_findTasks (d + 2) 0 0 112 [some (vr 10 0), some (vi (hI h4 11 24 x2.toNatClampNeg)), some (vi (x2 + 1)), some (vi (0 : Int32))] [] h4 _
        refine tr_goto (pc := 112) 9 k_fm_findTasks_112 (by decide) ?_
        exact hv
    · replace hv := hv.2 q
      refine tr_aload_n (pc := 21) 0 k_fm_findTasks_21 rfl rfl ?_
      refine tr_getP (pc := 22) k_fm_findTasks_22 fl_fm_81 rfl (Eq.trans rfl (hsk.1 10 29 _ rfl)) ?_
      refine tr_iload_n (pc := 25) 2 k_fm_findTasks_25 rfl rfl ?_
      refine tr_iconst (pc := 26) (v := 1) k_fm_findTasks_26 (by decide) ?_
      refine tr_isub (pc := 27) k_fm_findTasks_27 ?_
      refine tr_ialdx (pc := 28) k_fm_findTasks_28 (mvin (hsk.2.1 11 26 _ rfl) hv.1) rfl ?_
      replace hv := hv.2
      refine tr_iconst (pc := 29) (v := 1) k_fm_findTasks_29 (by decide) ?_
      refine tr_iadd (pc := 30) k_fm_findTasks_30 ?_
      refine tr_aload_n (pc := 31) 0 k_fm_findTasks_31 rfl rfl ?_
      refine tr_getP (pc := 32) k_fm_findTasks_32 fl_fm_78 rfl (Eq.trans rfl (hsk.1 10 28 _ rfl)) ?_
      refine tr_iload_n (pc := 35) 2 k_fm_findTasks_35 rfl rfl ?_
      refine tr_ialdx (pc := 36) k_fm_findTasks_36 (mvin (hsk.2.1 11 25 _ rfl) hv.1) rfl ?_
      replace hv := hv.2
      refine tr_icmp_ne (pc := 37) 44 k_fm_findTasks_37 (by decide) (fun q => ?_) (fun q => ?_)
      · replace hv := hv.1 q
        refine tr_iconst (pc := 44) (v := 0) k_fm_findTasks_44 (by decide) ?_
        refine tr_istore_n (pc := 45) 3 k_fm_findTasks_45 rfl (by decide) rfl ?_
        show mT g me_fm_findTasks (d + 2) 0 0 46 [some (vr 10 0), some (vi x1), some (vi x2), some (vi (0 : Int32))] [] h _
        refine tr_iload_n (pc := 46) 2 k_fm_findTasks_46 rfl rfl ?_
        refine tr_if_le (pc := 47) 72 k_fm_findTasks_47 (by decide) (fun q => ?_) (fun q => ?_)
        · replace hv := hv.1 q
          refine tr_aload_n (pc := 72) 0 k_fm_findTasks_72 rfl rfl ?_
          refine tr_aload_n (pc := 73) 0 k_fm_findTasks_73 rfl rfl ?_
          refine tr_getP (pc := 74) k_fm_findTasks_74 fl_fm_78 rfl (Eq.trans rfl (hsk.1 10 28 _ rfl)) ?_
          refine tr_iload_n (pc := 77) 2 k_fm_findTasks_77 rfl rfl ?_
          refine tr_ialdx (pc := 78) k_fm_findTasks_78 (mvin (hsk.2.1 11 25 _ rfl) hv.1) rfl ?_
          replace hv := hv.2
          refine tr_aload_n (pc := 79) 0 k_fm_findTasks_79 rfl rfl ?_
          refine tr_getP (pc := 80) k_fm_findTasks_80 fl_fm_75 rfl (Eq.trans rfl (hsk.1 10 27 _ rfl)) ?_
          refine tr_iload_n (pc := 83) 2 k_fm_findTasks_83 rfl rfl ?_
          refine tr_ialdx (pc := 84) k_fm_findTasks_84 (mvin (hsk.2.1 11 24 _ rfl) hv.1) rfl ?_
          replace hv := hv.2
          refine tr_iload_n (pc := 85) 1 k_fm_findTasks_85 rfl rfl ?_
          refine tr_iconst (pc := 86) (v := -1) k_fm_findTasks_86 (by decide) ?_
          refine tr_ixor (pc := 87) k_fm_findTasks_87 ?_
          refine tr_iand (pc := 88) k_fm_findTasks_88 ?_
          refine tr_iload_n (pc := 89) 1 k_fm_findTasks_89 rfl rfl ?_
          refine tr_aload_n (pc := 90) 0 k_fm_findTasks_90 rfl rfl ?_
          refine tr_getP (pc := 91) k_fm_findTasks_91 fl_fm_75 rfl (Eq.trans rfl (hsk.1 10 27 _ rfl)) ?_
          refine tr_iload_n (pc := 94) 2 k_fm_findTasks_94 rfl rfl ?_
          refine tr_ialdx (pc := 95) k_fm_findTasks_95 (mvin (hsk.2.1 11 24 _ rfl) hv.1) rfl ?_
          replace hv := hv.2
          refine tr_iconst (pc := 96) (v := -1) k_fm_findTasks_96 (by decide) ?_
          refine tr_ixor (pc := 97) k_fm_findTasks_97 ?_
          refine tr_iand (pc := 98) k_fm_findTasks_98 ?_
          have hT := hv
          clear hv
          refine tr_callV (pc := 99) (d' := d + 1) (mc' := 0) (ms' := 0) [vi (hI h 11 25 x2.toNatClampNeg), vi ((hI h 11 24 x2.toNatClampNeg) &&& (x1 ^^^ (-1 : Int32))), vi (x1 &&& ((hI h 11 24 x2.toNatClampNeg) ^^^ (-1 : Int32)))] k_fm_findTasks_99 ca_fm_adds ml_fm_251 ii_fm_adds ⟨by decide, rfl⟩ pa_fm_adds (by omega) (by omega) (by omega) rfl (Nat.le_of_ble_eq_true rfl) (Nat.le_of_ble_eq_true rfl) hT (fun v h9 hv => ?_)
          clear hT
          obtain ⟨rfl, hv⟩ := hv
          obtain ⟨h5, eh⟩ : ∃ z, z = h9 := ⟨_, rfl⟩
          subst eh
          obtain ⟨hskh5, hv⟩ := hv
          show mT g me_fm_findTasks (d + 2) 0 0 102 [some (vr 10 0), some (vi x1), some (vi x2), some (vi (0 : Int32))] [] h5 _
          refine tr_aload_n (pc := 102) 0 k_fm_findTasks_102 rfl rfl ?_
          refine tr_getP (pc := 103) k_fm_findTasks_103 fl_fm_75 rfl (Eq.trans rfl (hskh5.1 10 27 _ rfl)) ?_
          refine tr_iload_n (pc := 106) 2 k_fm_findTasks_106 rfl rfl ?_
          refine tr_ialdx (pc := 107) k_fm_findTasks_107 (mvin (hskh5.2.1 11 24 _ rfl) hv.1) rfl ?_
          replace hv := hv.2
          refine tr_istore_n (pc := 108) 1 k_fm_findTasks_108 rfl (by decide) rfl ?_
          show mT g me_fm_findTasks (d + 2) 0 0 109 [some (vr 10 0), some (vi (hI h5 11 24 x2.toNatClampNeg)), some (vi x2), some (vi (0 : Int32))] [] h5 _
          refine tr_iinc (pc := 109) (v := (x2 + 1)) k_fm_findTasks_109 rfl rfl (by decide) rfl ?_
          show mT g me_fm_findTasks (d + 2) 0 0 112 [some (vr 10 0), some (vi (hI h5 11 24 x2.toNatClampNeg)), some (vi (x2 + 1)), some (vi (0 : Int32))] [] h5 _
          refine tr_goto (pc := 112) 9 k_fm_findTasks_112 (by decide) ?_
          exact hv
        · replace hv := hv.2 q
          refine tr_iload_n (pc := 50) 3 k_fm_findTasks_50 rfl rfl ?_
          refine tr_if_ne (pc := 51) 72 k_fm_findTasks_51 (by decide) (fun q => absurd q (by decide)) (fun _ => ?_)
          refine tr_aload_n (pc := 54) 0 k_fm_findTasks_54 rfl rfl ?_
          refine tr_aload_n (pc := 55) 0 k_fm_findTasks_55 rfl rfl ?_
          refine tr_getP (pc := 56) k_fm_findTasks_56 fl_fm_81 rfl (Eq.trans rfl (hsk.1 10 29 _ rfl)) ?_
          refine tr_iload_n (pc := 59) 2 k_fm_findTasks_59 rfl rfl ?_
          refine tr_iconst (pc := 60) (v := 1) k_fm_findTasks_60 (by decide) ?_
          refine tr_isub (pc := 61) k_fm_findTasks_61 ?_
          refine tr_ialdx (pc := 62) k_fm_findTasks_62 (mvin (hsk.2.1 11 26 _ rfl) hv.1) rfl ?_
          replace hv := hv.2
          refine tr_iconst (pc := 63) (v := 1) k_fm_findTasks_63 (by decide) ?_
          refine tr_iadd (pc := 64) k_fm_findTasks_64 ?_
          refine tr_iconst (pc := 65) (v := 0) k_fm_findTasks_65 (by decide) ?_
          refine tr_iload_n (pc := 66) 1 k_fm_findTasks_66 rfl rfl ?_
          have hT := hv
          clear hv
          refine tr_callV (pc := 67) (d' := d + 1) (mc' := 0) (ms' := 0) [vi ((hI h 11 26 ((x2 - (1 : Int32)).toNatClampNeg)) + (1 : Int32)), vi (0 : Int32), vi x1] k_fm_findTasks_67 ca_fm_adds ml_fm_251 ii_fm_adds ⟨by decide, rfl⟩ pa_fm_adds (by omega) (by omega) (by omega) rfl (Nat.le_of_ble_eq_true rfl) (Nat.le_of_ble_eq_true rfl) hT (fun v h9 hv => ?_)
          clear hT
          obtain ⟨rfl, hv⟩ := hv
          obtain ⟨h6, eh⟩ : ∃ z, z = h9 := ⟨_, rfl⟩
          subst eh
          obtain ⟨hskh6, hv⟩ := hv
          show mT g me_fm_findTasks (d + 2) 0 0 70 [some (vr 10 0), some (vi x1), some (vi x2), some (vi (0 : Int32))] [] h6 _
          refine tr_iconst (pc := 70) (v := 0) k_fm_findTasks_70 (by decide) ?_
          refine tr_istore_n (pc := 71) 1 k_fm_findTasks_71 rfl (by decide) rfl ?_
          show mT g me_fm_findTasks (d + 2) 0 0 72 [some (vr 10 0), some (vi (0 : Int32)), some (vi x2), some (vi (0 : Int32))] [] h6 _
          refine tr_aload_n (pc := 72) 0 k_fm_findTasks_72 rfl rfl ?_
          refine tr_aload_n (pc := 73) 0 k_fm_findTasks_73 rfl rfl ?_
          refine tr_getP (pc := 74) k_fm_findTasks_74 fl_fm_78 rfl (Eq.trans rfl (hskh6.1 10 28 _ rfl)) ?_
          refine tr_iload_n (pc := 77) 2 k_fm_findTasks_77 rfl rfl ?_
          refine tr_ialdx (pc := 78) k_fm_findTasks_78 (mvin (hskh6.2.1 11 25 _ rfl) hv.1) rfl ?_
          replace hv := hv.2
          refine tr_aload_n (pc := 79) 0 k_fm_findTasks_79 rfl rfl ?_
          refine tr_getP (pc := 80) k_fm_findTasks_80 fl_fm_75 rfl (Eq.trans rfl (hskh6.1 10 27 _ rfl)) ?_
          refine tr_iload_n (pc := 83) 2 k_fm_findTasks_83 rfl rfl ?_
          refine tr_ialdx (pc := 84) k_fm_findTasks_84 (mvin (hskh6.2.1 11 24 _ rfl) hv.1) rfl ?_
          replace hv := hv.2
          refine tr_iload_n (pc := 85) 1 k_fm_findTasks_85 rfl rfl ?_
          refine tr_iconst (pc := 86) (v := -1) k_fm_findTasks_86 (by decide) ?_
          refine tr_ixor (pc := 87) k_fm_findTasks_87 ?_
          refine tr_iand (pc := 88) k_fm_findTasks_88 ?_
          refine tr_iload_n (pc := 89) 1 k_fm_findTasks_89 rfl rfl ?_
          refine tr_aload_n (pc := 90) 0 k_fm_findTasks_90 rfl rfl ?_
          refine tr_getP (pc := 91) k_fm_findTasks_91 fl_fm_75 rfl (Eq.trans rfl (hskh6.1 10 27 _ rfl)) ?_
          refine tr_iload_n (pc := 94) 2 k_fm_findTasks_94 rfl rfl ?_
          refine tr_ialdx (pc := 95) k_fm_findTasks_95 (mvin (hskh6.2.1 11 24 _ rfl) hv.1) rfl ?_
          replace hv := hv.2
          refine tr_iconst (pc := 96) (v := -1) k_fm_findTasks_96 (by decide) ?_
          refine tr_ixor (pc := 97) k_fm_findTasks_97 ?_
          refine tr_iand (pc := 98) k_fm_findTasks_98 ?_
          have hT := hv
          clear hv
          refine tr_callV (pc := 99) (d' := d + 1) (mc' := 0) (ms' := 0) [vi (hI h6 11 25 x2.toNatClampNeg), vi ((hI h6 11 24 x2.toNatClampNeg) &&& ((0 : Int32) ^^^ (-1 : Int32))), vi ((0 : Int32) &&& ((hI h6 11 24 x2.toNatClampNeg) ^^^ (-1 : Int32)))] k_fm_findTasks_99 ca_fm_adds ml_fm_251 ii_fm_adds ⟨by decide, rfl⟩ pa_fm_adds (by omega) (by omega) (by omega) rfl (Nat.le_of_ble_eq_true rfl) (Nat.le_of_ble_eq_true rfl) hT (fun v h9 hv => ?_)
          clear hT
          obtain ⟨rfl, hv⟩ := hv
          obtain ⟨h7, eh⟩ : ∃ z, z = h9 := ⟨_, rfl⟩
          subst eh
          obtain ⟨hskh7, hv⟩ := hv
          show mT g me_fm_findTasks (d + 2) 0 0 102 [some (vr 10 0), some (vi (0 : Int32)), some (vi x2), some (vi (0 : Int32))] [] h7 _
          refine tr_aload_n (pc := 102) 0 k_fm_findTasks_102 rfl rfl ?_
          refine tr_getP (pc := 103) k_fm_findTasks_103 fl_fm_75 rfl (Eq.trans rfl (hskh7.1 10 27 _ rfl)) ?_
          refine tr_iload_n (pc := 106) 2 k_fm_findTasks_106 rfl rfl ?_
          refine tr_ialdx (pc := 107) k_fm_findTasks_107 (mvin (hskh7.2.1 11 24 _ rfl) hv.1) rfl ?_
          replace hv := hv.2
          refine tr_istore_n (pc := 108) 1 k_fm_findTasks_108 rfl (by decide) rfl ?_
          show mT g me_fm_findTasks (d + 2) 0 0 109 [some (vr 10 0), some (vi (hI h7 11 24 x2.toNatClampNeg)), some (vi x2), some (vi (0 : Int32))] [] h7 _
          refine tr_iinc (pc := 109) (v := (x2 + 1)) k_fm_findTasks_109 rfl rfl (by decide) rfl ?_
          show mT g me_fm_findTasks (d + 2) 0 0 112 [some (vr 10 0), some (vi (hI h7 11 24 x2.toNatClampNeg)), some (vi (x2 + 1)), some (vi (0 : Int32))] [] h7 _
          refine tr_goto (pc := 112) 9 k_fm_findTasks_112 (by decide) ?_
          exact hv
      · replace hv := hv.2 q
        refine tr_iconst (pc := 40) (v := 1) k_fm_findTasks_40 (by decide) ?_
        refine tr_goto (pc := 41) 45 k_fm_findTasks_41 (by decide) ?_
        refine tr_istore_n (pc := 45) 3 k_fm_findTasks_45 rfl (by decide) rfl ?_
        show mT g me_fm_findTasks (d + 2) 0 0 46 [some (vr 10 0), some (vi x1), some (vi x2), some (vi (1 : Int32))] [] h _
        refine tr_iload_n (pc := 46) 2 k_fm_findTasks_46 rfl rfl ?_
        refine tr_if_le (pc := 47) 72 k_fm_findTasks_47 (by decide) (fun q => ?_) (fun q => ?_)
        · replace hv := hv.1 q
          refine tr_aload_n (pc := 72) 0 k_fm_findTasks_72 rfl rfl ?_
          refine tr_aload_n (pc := 73) 0 k_fm_findTasks_73 rfl rfl ?_
          refine tr_getP (pc := 74) k_fm_findTasks_74 fl_fm_78 rfl (Eq.trans rfl (hsk.1 10 28 _ rfl)) ?_
          refine tr_iload_n (pc := 77) 2 k_fm_findTasks_77 rfl rfl ?_
          refine tr_ialdx (pc := 78) k_fm_findTasks_78 (mvin (hsk.2.1 11 25 _ rfl) hv.1) rfl ?_
          replace hv := hv.2
          refine tr_aload_n (pc := 79) 0 k_fm_findTasks_79 rfl rfl ?_
          refine tr_getP (pc := 80) k_fm_findTasks_80 fl_fm_75 rfl (Eq.trans rfl (hsk.1 10 27 _ rfl)) ?_
          refine tr_iload_n (pc := 83) 2 k_fm_findTasks_83 rfl rfl ?_
          refine tr_ialdx (pc := 84) k_fm_findTasks_84 (mvin (hsk.2.1 11 24 _ rfl) hv.1) rfl ?_
          replace hv := hv.2
          refine tr_iload_n (pc := 85) 1 k_fm_findTasks_85 rfl rfl ?_
          refine tr_iconst (pc := 86) (v := -1) k_fm_findTasks_86 (by decide) ?_
          refine tr_ixor (pc := 87) k_fm_findTasks_87 ?_
          refine tr_iand (pc := 88) k_fm_findTasks_88 ?_
          refine tr_iload_n (pc := 89) 1 k_fm_findTasks_89 rfl rfl ?_
          refine tr_aload_n (pc := 90) 0 k_fm_findTasks_90 rfl rfl ?_
          refine tr_getP (pc := 91) k_fm_findTasks_91 fl_fm_75 rfl (Eq.trans rfl (hsk.1 10 27 _ rfl)) ?_
          refine tr_iload_n (pc := 94) 2 k_fm_findTasks_94 rfl rfl ?_
          refine tr_ialdx (pc := 95) k_fm_findTasks_95 (mvin (hsk.2.1 11 24 _ rfl) hv.1) rfl ?_
          replace hv := hv.2
          refine tr_iconst (pc := 96) (v := -1) k_fm_findTasks_96 (by decide) ?_
          refine tr_ixor (pc := 97) k_fm_findTasks_97 ?_
          refine tr_iand (pc := 98) k_fm_findTasks_98 ?_
          have hT := hv
          clear hv
          refine tr_callV (pc := 99) (d' := d + 1) (mc' := 0) (ms' := 0) [vi (hI h 11 25 x2.toNatClampNeg), vi ((hI h 11 24 x2.toNatClampNeg) &&& (x1 ^^^ (-1 : Int32))), vi (x1 &&& ((hI h 11 24 x2.toNatClampNeg) ^^^ (-1 : Int32)))] k_fm_findTasks_99 ca_fm_adds ml_fm_251 ii_fm_adds ⟨by decide, rfl⟩ pa_fm_adds (by omega) (by omega) (by omega) rfl (Nat.le_of_ble_eq_true rfl) (Nat.le_of_ble_eq_true rfl) hT (fun v h9 hv => ?_)
          clear hT
          obtain ⟨rfl, hv⟩ := hv
          obtain ⟨h8, eh⟩ : ∃ z, z = h9 := ⟨_, rfl⟩
          subst eh
          obtain ⟨hskh8, hv⟩ := hv
          show mT g me_fm_findTasks (d + 2) 0 0 102 [some (vr 10 0), some (vi x1), some (vi x2), some (vi (1 : Int32))] [] h8 _
          refine tr_aload_n (pc := 102) 0 k_fm_findTasks_102 rfl rfl ?_
          refine tr_getP (pc := 103) k_fm_findTasks_103 fl_fm_75 rfl (Eq.trans rfl (hskh8.1 10 27 _ rfl)) ?_
          refine tr_iload_n (pc := 106) 2 k_fm_findTasks_106 rfl rfl ?_
          refine tr_ialdx (pc := 107) k_fm_findTasks_107 (mvin (hskh8.2.1 11 24 _ rfl) hv.1) rfl ?_
          replace hv := hv.2
          refine tr_istore_n (pc := 108) 1 k_fm_findTasks_108 rfl (by decide) rfl ?_
          show mT g me_fm_findTasks (d + 2) 0 0 109 [some (vr 10 0), some (vi (hI h8 11 24 x2.toNatClampNeg)), some (vi x2), some (vi (1 : Int32))] [] h8 _
          refine tr_iinc (pc := 109) (v := (x2 + 1)) k_fm_findTasks_109 rfl rfl (by decide) rfl ?_
          show mT g me_fm_findTasks (d + 2) 0 0 112 [some (vr 10 0), some (vi (hI h8 11 24 x2.toNatClampNeg)), some (vi (x2 + 1)), some (vi (1 : Int32))] [] h8 _
          refine tr_goto (pc := 112) 9 k_fm_findTasks_112 (by decide) ?_
          exact hv
        · replace hv := hv.2 q
          refine tr_iload_n (pc := 50) 3 k_fm_findTasks_50 rfl rfl ?_
          refine tr_if_ne (pc := 51) 72 k_fm_findTasks_51 (by decide) (fun _ => ?_) (fun q => absurd q (by decide))
          refine tr_aload_n (pc := 72) 0 k_fm_findTasks_72 rfl rfl ?_
          refine tr_aload_n (pc := 73) 0 k_fm_findTasks_73 rfl rfl ?_
          refine tr_getP (pc := 74) k_fm_findTasks_74 fl_fm_78 rfl (Eq.trans rfl (hsk.1 10 28 _ rfl)) ?_
          refine tr_iload_n (pc := 77) 2 k_fm_findTasks_77 rfl rfl ?_
          refine tr_ialdx (pc := 78) k_fm_findTasks_78 (mvin (hsk.2.1 11 25 _ rfl) hv.1) rfl ?_
          replace hv := hv.2
          refine tr_aload_n (pc := 79) 0 k_fm_findTasks_79 rfl rfl ?_
          refine tr_getP (pc := 80) k_fm_findTasks_80 fl_fm_75 rfl (Eq.trans rfl (hsk.1 10 27 _ rfl)) ?_
          refine tr_iload_n (pc := 83) 2 k_fm_findTasks_83 rfl rfl ?_
          refine tr_ialdx (pc := 84) k_fm_findTasks_84 (mvin (hsk.2.1 11 24 _ rfl) hv.1) rfl ?_
          replace hv := hv.2
          refine tr_iload_n (pc := 85) 1 k_fm_findTasks_85 rfl rfl ?_
          refine tr_iconst (pc := 86) (v := -1) k_fm_findTasks_86 (by decide) ?_
          refine tr_ixor (pc := 87) k_fm_findTasks_87 ?_
          refine tr_iand (pc := 88) k_fm_findTasks_88 ?_
          refine tr_iload_n (pc := 89) 1 k_fm_findTasks_89 rfl rfl ?_
          refine tr_aload_n (pc := 90) 0 k_fm_findTasks_90 rfl rfl ?_
          refine tr_getP (pc := 91) k_fm_findTasks_91 fl_fm_75 rfl (Eq.trans rfl (hsk.1 10 27 _ rfl)) ?_
          refine tr_iload_n (pc := 94) 2 k_fm_findTasks_94 rfl rfl ?_
          refine tr_ialdx (pc := 95) k_fm_findTasks_95 (mvin (hsk.2.1 11 24 _ rfl) hv.1) rfl ?_
          replace hv := hv.2
          refine tr_iconst (pc := 96) (v := -1) k_fm_findTasks_96 (by decide) ?_
          refine tr_ixor (pc := 97) k_fm_findTasks_97 ?_
          refine tr_iand (pc := 98) k_fm_findTasks_98 ?_
          have hT := hv
          clear hv
          refine tr_callV (pc := 99) (d' := d + 1) (mc' := 0) (ms' := 0) [vi (hI h 11 25 x2.toNatClampNeg), vi ((hI h 11 24 x2.toNatClampNeg) &&& (x1 ^^^ (-1 : Int32))), vi (x1 &&& ((hI h 11 24 x2.toNatClampNeg) ^^^ (-1 : Int32)))] k_fm_findTasks_99 ca_fm_adds ml_fm_251 ii_fm_adds ⟨by decide, rfl⟩ pa_fm_adds (by omega) (by omega) (by omega) rfl (Nat.le_of_ble_eq_true rfl) (Nat.le_of_ble_eq_true rfl) hT (fun v h9 hv => ?_)
          clear hT
          obtain ⟨rfl, hv⟩ := hv
          obtain ⟨h9, eh⟩ : ∃ z, z = h9 := ⟨_, rfl⟩
          subst eh
          obtain ⟨hskh9, hv⟩ := hv
          show mT g me_fm_findTasks (d + 2) 0 0 102 [some (vr 10 0), some (vi x1), some (vi x2), some (vi (1 : Int32))] [] h9 _
          refine tr_aload_n (pc := 102) 0 k_fm_findTasks_102 rfl rfl ?_
          refine tr_getP (pc := 103) k_fm_findTasks_103 fl_fm_75 rfl (Eq.trans rfl (hskh9.1 10 27 _ rfl)) ?_
          refine tr_iload_n (pc := 106) 2 k_fm_findTasks_106 rfl rfl ?_
          refine tr_ialdx (pc := 107) k_fm_findTasks_107 (mvin (hskh9.2.1 11 24 _ rfl) hv.1) rfl ?_
          replace hv := hv.2
          refine tr_istore_n (pc := 108) 1 k_fm_findTasks_108 rfl (by decide) rfl ?_
          show mT g me_fm_findTasks (d + 2) 0 0 109 [some (vr 10 0), some (vi (hI h9 11 24 x2.toNatClampNeg)), some (vi x2), some (vi (1 : Int32))] [] h9 _
          refine tr_iinc (pc := 109) (v := (x2 + 1)) k_fm_findTasks_109 rfl rfl (by decide) rfl ?_
          show mT g me_fm_findTasks (d + 2) 0 0 112 [some (vr 10 0), some (vi (hI h9 11 24 x2.toNatClampNeg)), some (vi (x2 + 1)), some (vi (1 : Int32))] [] h9 _
          refine tr_goto (pc := 112) 9 k_fm_findTasks_112 (by decide) ?_
          exact hv
theorem v_fm_adds_0 {g : mG} {d : Nat} (x1 : Int32) (x2 : Int32) (x3 : Int32) {h : mH} {Q : Option mV → mH → Prop} (hsk : mSK h) (hv : mT g me_fm_adds (d + 1) 0 0 3 [some (vr 10 0), some (vi x1), some (vi x2), some (vi x3), some (vi (0 : Int32))] [] h Q) : mT g me_fm_adds (d + 1) 0 0 0 [some (vr 10 0), some (vi x1), some (vi x2), some (vi x3), none] [] h Q := by
  refine tr_iconst (pc := 0) (v := 0) k_fm_adds_0 (by decide) ?_
  refine tr_istore (pc := 1) k_fm_adds_1 (by decide) rfl ?_
  show mT g me_fm_adds (d + 1) 0 0 3 [some (vr 10 0), some (vi x1), some (vi x2), some (vi x3), some (vi (0 : Int32))] [] h _
  exact hv
theorem v_fm_adds_3 {g : mG} {d : Nat} (x1 : Int32) (x2 : Int32) (x3 : Int32) (x4 : Int32) {h : mH} {Q : Option mV → mH → Prop} (hsk : mSK h) (hv : (((hI h 10 0 4) ≤ x4 → Q none h) ∧ (¬ (hI h 10 0 4) ≤ x4 → ((¬ (((x2 ||| x3) >>> (x4 &&& 31)) &&& (1 : Int32)) = 0 → (vp_in (hI h 10 0 52) 576 ∧ (vp_in (hI h 10 0 52) 576 ∧ (vp_in (hI h 10 0 52) 576 ∧ mT g me_fm_adds (d + 1) 0 0 3 [some (vr 10 0), some (vi x1), some (vi x2), some (vi x3), some (vi (x4 + 1))] [] (setI (setI (setI (setI h 11 36 ((hI h 10 0 52).toNatClampNeg) x1) 11 37 ((hI h 10 0 52).toNatClampNeg) x4) 11 38 ((hI h 10 0 52).toNatClampNeg) ((x2 >>> (x4 &&& 31)) &&& (1 : Int32))) 10 0 52 ((hI h 10 0 52) + (1 : Int32))) Q)))) ∧ ((((x2 ||| x3) >>> (x4 &&& 31)) &&& (1 : Int32)) = 0 → mT g me_fm_adds (d + 1) 0 0 3 [some (vr 10 0), some (vi x1), some (vi x2), some (vi x3), some (vi (x4 + 1))] [] h Q))))) : mT g me_fm_adds (d + 1) 0 0 3 [some (vr 10 0), some (vi x1), some (vi x2), some (vi x3), some (vi x4)] [] h Q := by
  refine tr_iload (pc := 3) k_fm_adds_3 rfl ?_
  refine tr_aload_n (pc := 5) 0 k_fm_adds_5 rfl rfl ?_
  refine tr_getIx (pc := 6) k_fm_adds_6 fl_fm_158 rfl rfl ?_
  refine tr_icmp_ge (pc := 9) 78 k_fm_adds_9 (by decide) (fun q => ?_) (fun q => ?_)
  · replace hv := hv.1 q
    refine tr_return (pc := 78) k_fm_adds_78 rfl ?_
    exact hv
  · replace hv := hv.2 q
    refine tr_iload_n (pc := 12) 2 k_fm_adds_12 rfl rfl ?_
    refine tr_iload_n (pc := 13) 3 k_fm_adds_13 rfl rfl ?_
    refine tr_ior (pc := 14) k_fm_adds_14 ?_
    refine tr_iload (pc := 15) k_fm_adds_15 rfl ?_
    refine tr_ishr (pc := 17) k_fm_adds_17 ?_
    refine tr_iconst (pc := 18) (v := 1) k_fm_adds_18 (by decide) ?_
    refine tr_iand (pc := 19) k_fm_adds_19 ?_
    refine tr_if_ne (pc := 20) 26 k_fm_adds_20 (by decide) (fun q => ?_) (fun q => ?_)
    · replace hv := hv.1 q
      refine tr_aload_n (pc := 26) 0 k_fm_adds_26 rfl rfl ?_
      refine tr_getP (pc := 27) k_fm_adds_27 fl_fm_114 rfl (Eq.trans rfl (hsk.1 10 49 _ rfl)) ?_
      refine tr_aload_n (pc := 30) 0 k_fm_adds_30 rfl rfl ?_
      refine tr_getIx (pc := 31) k_fm_adds_31 fl_fm_248 rfl rfl ?_
      refine tr_iload_n (pc := 34) 1 k_fm_adds_34 rfl rfl ?_
      refine tr_iast (pc := 35) k_fm_adds_35 (mvin (hsk.2.1 11 36 _ rfl) hv.1) ?_
      replace hv := hv.2
      refine tr_aload_n (pc := 36) 0 k_fm_adds_36 rfl rfl ?_
      refine tr_getP (pc := 37) k_fm_adds_37 fl_fm_117 rfl (Eq.trans (hP_setI) (hsk.1 10 50 _ rfl)) ?_
      refine tr_aload_n (pc := 40) 0 k_fm_adds_40 rfl rfl ?_
      refine tr_getIx (pc := 41) k_fm_adds_41 fl_fm_248 rfl (hI_nk (by decide)) ?_
      refine tr_iload (pc := 44) k_fm_adds_44 rfl ?_
      refine tr_iast (pc := 46) k_fm_adds_46 (mvin (hsk.2.1 11 37 _ rfl) hv.1) ?_
      replace hv := hv.2
      refine tr_aload_n (pc := 47) 0 k_fm_adds_47 rfl rfl ?_
      refine tr_getP (pc := 48) k_fm_adds_48 fl_fm_120 rfl (Eq.trans (Eq.trans (hP_setI) (hP_setI)) (hsk.1 10 51 _ rfl)) ?_
      refine tr_aload_n (pc := 51) 0 k_fm_adds_51 rfl rfl ?_
      refine tr_getIx (pc := 52) k_fm_adds_52 fl_fm_248 rfl (Eq.trans (hI_nk (by decide)) (hI_nk (by decide))) ?_
      refine tr_iload_n (pc := 55) 2 k_fm_adds_55 rfl rfl ?_
      refine tr_iload (pc := 56) k_fm_adds_56 rfl ?_
      refine tr_ishr (pc := 58) k_fm_adds_58 ?_
      refine tr_iconst (pc := 59) (v := 1) k_fm_adds_59 (by decide) ?_
      refine tr_iand (pc := 60) k_fm_adds_60 ?_
      refine tr_iast (pc := 61) k_fm_adds_61 (mvin (hsk.2.1 11 38 _ rfl) hv.1) ?_
      replace hv := hv.2
      refine tr_aload_n (pc := 62) 0 k_fm_adds_62 rfl rfl ?_
      refine tr_dup (pc := 63) k_fm_adds_63 rfl ?_
      refine tr_getIx (pc := 64) k_fm_adds_64 fl_fm_248 rfl (Eq.trans (hI_nk (by decide)) (Eq.trans (hI_nk (by decide)) (hI_nk (by decide)))) ?_
      refine tr_iconst (pc := 67) (v := 1) k_fm_adds_67 (by decide) ?_
      refine tr_iadd (pc := 68) k_fm_adds_68 ?_
      refine tr_putI (pc := 69) k_fm_adds_69 fl_fm_248 (Or.inl rfl) rfl ⟨rfl, rfl⟩ ?_
      refine tr_iinc (pc := 72) (v := (x4 + 1)) k_fm_adds_72 rfl rfl (by decide) rfl ?_
      show mT g me_fm_adds (d + 1) 0 0 75 [some (vr 10 0), some (vi x1), some (vi x2), some (vi x3), some (vi (x4 + 1))] [] (setI (setI (setI (setI h 11 36 ((hI h 10 0 52).toNatClampNeg) x1) 11 37 ((hI h 10 0 52).toNatClampNeg) x4) 11 38 ((hI h 10 0 52).toNatClampNeg) ((x2 >>> (x4 &&& 31)) &&& (1 : Int32))) 10 0 52 ((hI h 10 0 52) + (1 : Int32))) _
      refine tr_goto (pc := 75) 3 k_fm_adds_75 (by decide) ?_
      exact hv
    · replace hv := hv.2 q
      refine tr_goto (pc := 23) 72 k_fm_adds_23 (by decide) ?_
      refine tr_iinc (pc := 72) (v := (x4 + 1)) k_fm_adds_72 rfl rfl (by decide) rfl ?_
      show mT g me_fm_adds (d + 1) 0 0 75 [some (vr 10 0), some (vi x1), some (vi x2), some (vi x3), some (vi (x4 + 1))] [] h _
      refine tr_goto (pc := 75) 3 k_fm_adds_75 (by decide) ?_
      exact hv
theorem v_fm_task_0 {g : mG} {d : Nat} (x1 : Int32) (x2 : Int32) {h : mH} {Q : Option mV → mH → Prop} (hsk : mSK h) (hv : mT g me_fm_findTasks (d + 2) 0 0 0 [some (vr 10 0), none, none, none] [] h (fun v h1 => v = none ∧ mSK h1 ∧ ((x1 < 0 → mT g me_fm_refuse (d + 2) 0 0 0 [some (vr 10 0), some (vi (-1 : Int32))] [] h1 (fun v h2 => ∃ y3, v = some (vi y3) ∧ mSK h2 ∧ Q (some (vi y3)) h2)) ∧ (¬ x1 < 0 → (((hI h1 10 0 52) ≤ x1 → mT g me_fm_refuse (d + 2) 0 0 0 [some (vr 10 0), some (vi (-1 : Int32))] [] h1 (fun v h4 => ∃ y5, v = some (vi y5) ∧ mSK h4 ∧ Q (some (vi y5)) h4)) ∧ (¬ (hI h1 10 0 52) ≤ x1 → ((¬ x2 = 0 → ((¬ x2 = (1 : Int32) → ((¬ x2 = (2 : Int32) → mT g me_fm_refuse (d + 2) 0 0 0 [some (vr 10 0), some (vi (-2 : Int32))] [] h1 (fun v h6 => ∃ y7, v = some (vi y7) ∧ mSK h6 ∧ Q (some (vi y7)) h6)) ∧ (x2 = (2 : Int32) → (vp_in x1 576 ∧ Q (some (vi (hI h1 11 38 x1.toNatClampNeg))) h1)))) ∧ (x2 = (1 : Int32) → (vp_in x1 576 ∧ Q (some (vi (hI h1 11 37 x1.toNatClampNeg))) h1)))) ∧ (x2 = 0 → (vp_in x1 576 ∧ Q (some (vi (hI h1 11 36 x1.toNatClampNeg))) h1))))))))) : mT g me_fm_task (d + 3) 0 0 0 [some (vr 10 0), some (vi x1), some (vi x2)] [] h Q := by
  refine tr_aload_n (pc := 0) 0 k_fm_task_0 rfl rfl ?_
  have hT := hv
  clear hv
  refine tr_callV (pc := 1) (d' := d + 2) (mc' := 0) (ms' := 0) [] k_fm_task_1 ca_fm_findTasks ml_fm_255 ii_fm_findTasks ⟨by decide, rfl⟩ pa_fm_findTasks (by omega) (by omega) (by omega) rfl (Nat.le_of_ble_eq_true rfl) (Nat.le_of_ble_eq_true rfl) hT (fun v h9 hv => ?_)
  clear hT
  obtain ⟨rfl, hv⟩ := hv
  obtain ⟨h1, eh⟩ : ∃ z, z = h9 := ⟨_, rfl⟩
  subst eh
  obtain ⟨hskh1, hv⟩ := hv
  show mT g me_fm_task (d + 3) 0 0 4 [some (vr 10 0), some (vi x1), some (vi x2)] [] h1 _
  refine tr_iload_n (pc := 4) 1 k_fm_task_4 rfl rfl ?_
  refine tr_aload_n (pc := 5) 0 k_fm_task_5 rfl rfl ?_
  refine tr_getIx (pc := 6) k_fm_task_6 fl_fm_248 rfl rfl ?_
  refine tr_callS (pc := 9) (d' := d + 2) (mc' := 0) (ms' := 0) [vi x1, vi (hI h1 10 0 52)] k_fm_task_9 ca_fm_isIn ml_fm_144 is_fm_isIn pa_fm_isIn (by omega) (by omega) (by omega) rfl (Nat.le_of_ble_eq_true rfl) (Nat.le_of_ble_eq_true rfl) (Qk := fun v h9 => mT g me_fm_task (d + 3) 0 0 12 [some (vr 10 0), some (vi x1), some (vi x2)] (v.toList ++ []) h9 _) ?_ (fun _ _ z => z)
  show mT g me_fm_isIn (d + 2) 0 0 0 [some (vi x1), some (vi (hI h1 10 0 52))] [] h1 _
  refine tr_iload_n (pc := 0) 0 k_fm_isIn_0 rfl rfl ?_
  refine tr_if_lt (pc := 1) 13 k_fm_isIn_1 (by decide) (fun q => ?_) (fun q => ?_)
  · replace hv := hv.1 q
    refine tr_iconst (pc := 13) (v := 0) k_fm_isIn_13 (by decide) ?_
    refine tr_ireturn (pc := 14) k_fm_isIn_14 rfl rfl ?_
    show mT g me_fm_task (d + 3) 0 0 12 [some (vr 10 0), some (vi x1), some (vi x2)] [vi (0 : Int32)] h1 _
    refine tr_if_ne (pc := 12) 21 k_fm_task_12 (by decide) (fun q => absurd q (by decide)) (fun _ => ?_)
    refine tr_aload_n (pc := 15) 0 k_fm_task_15 rfl rfl ?_
    refine tr_iconst (pc := 16) (v := -1) k_fm_task_16 (by decide) ?_
    have hT := hv
    clear hv
    refine tr_callV (pc := 17) (d' := d + 2) (mc' := 0) (ms' := 0) [vi (-1 : Int32)] k_fm_task_17 ca_fm_refuse ml_fm_133 ii_fm_refuse ⟨by decide, rfl⟩ pa_fm_refuse (by omega) (by omega) (by omega) rfl (Nat.le_of_ble_eq_true rfl) (Nat.le_of_ble_eq_true rfl) hT (fun v h9 hv => ?_)
    clear hT
    obtain ⟨y3, rfl, hv⟩ := hv
    obtain ⟨h2, eh⟩ : ∃ z, z = h9 := ⟨_, rfl⟩
    subst eh
    obtain ⟨hskh2, hv⟩ := hv
    show mT g me_fm_task (d + 3) 0 0 20 [some (vr 10 0), some (vi x1), some (vi x2)] [vi y3] h2 _
    refine tr_ireturn (pc := 20) k_fm_task_20 rfl rfl ?_
    exact hv
  · replace hv := hv.2 q
    refine tr_iload_n (pc := 4) 0 k_fm_isIn_4 rfl rfl ?_
    refine tr_iload_n (pc := 5) 1 k_fm_isIn_5 rfl rfl ?_
    refine tr_icmp_ge (pc := 6) 13 k_fm_isIn_6 (by decide) (fun q => ?_) (fun q => ?_)
    · replace hv := hv.1 q
      refine tr_iconst (pc := 13) (v := 0) k_fm_isIn_13 (by decide) ?_
      refine tr_ireturn (pc := 14) k_fm_isIn_14 rfl rfl ?_
      show mT g me_fm_task (d + 3) 0 0 12 [some (vr 10 0), some (vi x1), some (vi x2)] [vi (0 : Int32)] h1 _
      refine tr_if_ne (pc := 12) 21 k_fm_task_12 (by decide) (fun q => absurd q (by decide)) (fun _ => ?_)
      refine tr_aload_n (pc := 15) 0 k_fm_task_15 rfl rfl ?_
      refine tr_iconst (pc := 16) (v := -1) k_fm_task_16 (by decide) ?_
      have hT := hv
      clear hv
      refine tr_callV (pc := 17) (d' := d + 2) (mc' := 0) (ms' := 0) [vi (-1 : Int32)] k_fm_task_17 ca_fm_refuse ml_fm_133 ii_fm_refuse ⟨by decide, rfl⟩ pa_fm_refuse (by omega) (by omega) (by omega) rfl (Nat.le_of_ble_eq_true rfl) (Nat.le_of_ble_eq_true rfl) hT (fun v h9 hv => ?_)
      clear hT
      obtain ⟨y5, rfl, hv⟩ := hv
      obtain ⟨h4, eh⟩ : ∃ z, z = h9 := ⟨_, rfl⟩
      subst eh
      obtain ⟨hskh4, hv⟩ := hv
      show mT g me_fm_task (d + 3) 0 0 20 [some (vr 10 0), some (vi x1), some (vi x2)] [vi y5] h4 _
      refine tr_ireturn (pc := 20) k_fm_task_20 rfl rfl ?_
      exact hv
    · replace hv := hv.2 q
      refine tr_iconst (pc := 9) (v := 1) k_fm_isIn_9 (by decide) ?_
      refine tr_goto (pc := 10) 14 k_fm_isIn_10 (by decide) ?_
      refine tr_ireturn (pc := 14) k_fm_isIn_14 rfl rfl ?_
      show mT g me_fm_task (d + 3) 0 0 12 [some (vr 10 0), some (vi x1), some (vi x2)] [vi (1 : Int32)] h1 _
      refine tr_if_ne (pc := 12) 21 k_fm_task_12 (by decide) (fun _ => ?_) (fun q => absurd q (by decide))
      refine tr_iload_n (pc := 21) 2 k_fm_task_21 rfl rfl ?_
      refine tr_if_ne (pc := 22) 34 k_fm_task_22 (by decide) (fun q => ?_) (fun q => ?_)
      · replace hv := hv.1 q
        refine tr_iload_n (pc := 34) 2 k_fm_task_34 rfl rfl ?_
        refine tr_iconst (pc := 35) (v := 1) k_fm_task_35 (by decide) ?_
        refine tr_icmp_ne (pc := 36) 48 k_fm_task_36 (by decide) (fun q => ?_) (fun q => ?_)
        · replace hv := hv.1 q
          refine tr_iload_n (pc := 48) 2 k_fm_task_48 rfl rfl ?_
          refine tr_iconst (pc := 49) (v := 2) k_fm_task_49 (by decide) ?_
          refine tr_icmp_ne (pc := 50) 62 k_fm_task_50 (by decide) (fun q => ?_) (fun q => ?_)
          · replace hv := hv.1 q
            refine tr_aload_n (pc := 62) 0 k_fm_task_62 rfl rfl ?_
            refine tr_bipush (pc := 63) (v := -2) k_fm_task_63 (by decide) ?_
            have hT := hv
            clear hv
            refine tr_callV (pc := 65) (d' := d + 2) (mc' := 0) (ms' := 0) [vi (-2 : Int32)] k_fm_task_65 ca_fm_refuse ml_fm_133 ii_fm_refuse ⟨by decide, rfl⟩ pa_fm_refuse (by omega) (by omega) (by omega) rfl (Nat.le_of_ble_eq_true rfl) (Nat.le_of_ble_eq_true rfl) hT (fun v h9 hv => ?_)
            clear hT
            obtain ⟨y7, rfl, hv⟩ := hv
            obtain ⟨h6, eh⟩ : ∃ z, z = h9 := ⟨_, rfl⟩
            subst eh
            obtain ⟨hskh6, hv⟩ := hv
            show mT g me_fm_task (d + 3) 0 0 68 [some (vr 10 0), some (vi x1), some (vi x2)] [vi y7] h6 _
            refine tr_ireturn (pc := 68) k_fm_task_68 rfl rfl ?_
            exact hv
          · replace hv := hv.2 q
            refine tr_aload_n (pc := 53) 0 k_fm_task_53 rfl rfl ?_
            refine tr_getP (pc := 54) k_fm_task_54 fl_fm_120 rfl (Eq.trans rfl (hskh1.1 10 51 _ rfl)) ?_
            refine tr_iload_n (pc := 57) 1 k_fm_task_57 rfl rfl ?_
            refine tr_ialdx (pc := 58) k_fm_task_58 (mvin (hskh1.2.1 11 38 _ rfl) hv.1) rfl ?_
            replace hv := hv.2
            refine tr_goto (pc := 59) 68 k_fm_task_59 (by decide) ?_
            refine tr_ireturn (pc := 68) k_fm_task_68 rfl rfl ?_
            exact hv
        · replace hv := hv.2 q
          refine tr_aload_n (pc := 39) 0 k_fm_task_39 rfl rfl ?_
          refine tr_getP (pc := 40) k_fm_task_40 fl_fm_117 rfl (Eq.trans rfl (hskh1.1 10 50 _ rfl)) ?_
          refine tr_iload_n (pc := 43) 1 k_fm_task_43 rfl rfl ?_
          refine tr_ialdx (pc := 44) k_fm_task_44 (mvin (hskh1.2.1 11 37 _ rfl) hv.1) rfl ?_
          replace hv := hv.2
          refine tr_goto (pc := 45) 68 k_fm_task_45 (by decide) ?_
          refine tr_ireturn (pc := 68) k_fm_task_68 rfl rfl ?_
          exact hv
      · replace hv := hv.2 q
        refine tr_aload_n (pc := 25) 0 k_fm_task_25 rfl rfl ?_
        refine tr_getP (pc := 26) k_fm_task_26 fl_fm_114 rfl (Eq.trans rfl (hskh1.1 10 49 _ rfl)) ?_
        refine tr_iload_n (pc := 29) 1 k_fm_task_29 rfl rfl ?_
        refine tr_ialdx (pc := 30) k_fm_task_30 (mvin (hskh1.2.1 11 36 _ rfl) hv.1) rfl ?_
        replace hv := hv.2
        refine tr_goto (pc := 31) 68 k_fm_task_31 (by decide) ?_
        refine tr_ireturn (pc := 68) k_fm_task_68 rfl rfl ?_
        exact hv
theorem v_fm_boys_0 {g : mG} {d : Nat}  {h : mH} {Q : Option mV → mH → Prop} (hsk : mSK h) (hv : mT g me_fm_findTasks (d + 2) 0 0 0 [some (vr 10 0), none, none, none] [] h (fun v h1 => v = none ∧ mSK h1 ∧ (((hI h1 10 0 52) ≤ (60 : Int32) → mT g me_fm_boys (d + 3) 0 0 22 [some (vr 10 0), some (vi (0 : Int32)), none, none] [] h1 Q) ∧ (¬ (hI h1 10 0 52) ≤ (60 : Int32) → mT g me_fm_refuse (d + 2) 0 0 0 [some (vr 10 0), some (vi (-6 : Int32))] [] h1 (fun v h2 => ∃ y3, v = some (vi y3) ∧ mSK h2 ∧ Q (some (vi y3)) h2))))) : mT g me_fm_boys (d + 3) 0 0 0 [some (vr 10 0), none, none, none] [] h Q := by
  refine tr_aload_n (pc := 0) 0 k_fm_boys_0 rfl rfl ?_
  have hT := hv
  clear hv
  refine tr_callV (pc := 1) (d' := d + 2) (mc' := 0) (ms' := 0) [] k_fm_boys_1 ca_fm_findTasks ml_fm_255 ii_fm_findTasks ⟨by decide, rfl⟩ pa_fm_findTasks (by omega) (by omega) (by omega) rfl (Nat.le_of_ble_eq_true rfl) (Nat.le_of_ble_eq_true rfl) hT (fun v h9 hv => ?_)
  clear hT
  obtain ⟨rfl, hv⟩ := hv
  obtain ⟨h1, eh⟩ : ∃ z, z = h9 := ⟨_, rfl⟩
  subst eh
  obtain ⟨hskh1, hv⟩ := hv
  show mT g me_fm_boys (d + 3) 0 0 4 [some (vr 10 0), none, none, none] [] h1 _
  refine tr_aload_n (pc := 4) 0 k_fm_boys_4 rfl rfl ?_
  refine tr_getIx (pc := 5) k_fm_boys_5 fl_fm_248 rfl rfl ?_
  refine tr_bipush (pc := 8) (v := 60) k_fm_boys_8 (by decide) ?_
  refine tr_icmp_le (pc := 10) 20 k_fm_boys_10 (by decide) (fun q => ?_) (fun q => ?_)
  · replace hv := hv.1 q
    refine tr_iconst (pc := 20) (v := 0) k_fm_boys_20 (by decide) ?_
    refine tr_istore_n (pc := 21) 1 k_fm_boys_21 rfl (by decide) rfl ?_
    show mT g me_fm_boys (d + 3) 0 0 22 [some (vr 10 0), some (vi (0 : Int32)), none, none] [] h1 _
    exact hv
  · replace hv := hv.2 q
    refine tr_aload_n (pc := 13) 0 k_fm_boys_13 rfl rfl ?_
    refine tr_bipush (pc := 14) (v := -6) k_fm_boys_14 (by decide) ?_
    have hT := hv
    clear hv
    refine tr_callV (pc := 16) (d' := d + 2) (mc' := 0) (ms' := 0) [vi (-6 : Int32)] k_fm_boys_16 ca_fm_refuse ml_fm_133 ii_fm_refuse ⟨by decide, rfl⟩ pa_fm_refuse (by omega) (by omega) (by omega) rfl (Nat.le_of_ble_eq_true rfl) (Nat.le_of_ble_eq_true rfl) hT (fun v h9 hv => ?_)
    clear hT
    obtain ⟨y3, rfl, hv⟩ := hv
    obtain ⟨h2, eh⟩ : ∃ z, z = h9 := ⟨_, rfl⟩
    subst eh
    obtain ⟨hskh2, hv⟩ := hv
    show mT g me_fm_boys (d + 3) 0 0 19 [some (vr 10 0), none, none, none] [vi y3] h2 _
    refine tr_ireturn (pc := 19) k_fm_boys_19 rfl rfl ?_
    exact hv
theorem v_fm_boys_22 {g : mG} {d : Nat} (x1 : Int32) (o2 : Option mV) (o3 : Option mV) {h : mH} {Q : Option mV → mH → Prop} (hsk : mSK h) (hv : (((hI h 10 0 52) ≤ x1 → mT g me_fm_boys (d + 3) 0 0 50 [some (vr 10 0), some (vi (hI h 10 0 52)), some (vi (0 : Int32)), o3] [] h Q) ∧ (¬ (hI h 10 0 52) ≤ x1 → (vp_in x1 60 ∧ mT g me_fm_boys (d + 3) 0 0 22 [some (vr 10 0), some (vi (x1 + 1)), o2, o3] [] (setI h 11 39 x1.toNatClampNeg (-1 : Int32)) Q)))) : mT g me_fm_boys (d + 3) 0 0 22 [some (vr 10 0), some (vi x1), o2, o3] [] h Q := by
  refine tr_iload_n (pc := 22) 1 k_fm_boys_22 rfl rfl ?_
  refine tr_aload_n (pc := 23) 0 k_fm_boys_23 rfl rfl ?_
  refine tr_getIx (pc := 24) k_fm_boys_24 fl_fm_248 rfl rfl ?_
  refine tr_icmp_ge (pc := 27) 43 k_fm_boys_27 (by decide) (fun q => ?_) (fun q => ?_)
  · replace hv := hv.1 q
    refine tr_aload_n (pc := 43) 0 k_fm_boys_43 rfl rfl ?_
    refine tr_getIx (pc := 44) k_fm_boys_44 fl_fm_248 rfl rfl ?_
    refine tr_istore_n (pc := 47) 1 k_fm_boys_47 rfl (by decide) rfl ?_
    show mT g me_fm_boys (d + 3) 0 0 48 [some (vr 10 0), some (vi (hI h 10 0 52)), o2, o3] [] h _
    refine tr_iconst (pc := 48) (v := 0) k_fm_boys_48 (by decide) ?_
    refine tr_istore_n (pc := 49) 2 k_fm_boys_49 rfl (by decide) rfl ?_
    show mT g me_fm_boys (d + 3) 0 0 50 [some (vr 10 0), some (vi (hI h 10 0 52)), some (vi (0 : Int32)), o3] [] h _
    exact hv
  · replace hv := hv.2 q
    refine tr_aload_n (pc := 30) 0 k_fm_boys_30 rfl rfl ?_
    refine tr_getP (pc := 31) k_fm_boys_31 fl_fm_123 rfl (Eq.trans rfl (hsk.1 10 53 _ rfl)) ?_
    refine tr_iload_n (pc := 34) 1 k_fm_boys_34 rfl rfl ?_
    refine tr_iconst (pc := 35) (v := -1) k_fm_boys_35 (by decide) ?_
    refine tr_iast (pc := 36) k_fm_boys_36 (mvin (hsk.2.1 11 39 _ rfl) hv.1) ?_
    replace hv := hv.2
    refine tr_iinc (pc := 37) (v := (x1 + 1)) k_fm_boys_37 rfl rfl (by decide) rfl ?_
    show mT g me_fm_boys (d + 3) 0 0 40 [some (vr 10 0), some (vi (x1 + 1)), o2, o3] [] (setI h 11 39 x1.toNatClampNeg (-1 : Int32)) _
    refine tr_goto (pc := 40) 22 k_fm_boys_40 (by decide) ?_
    exact hv
theorem v_fm_boys_50 {g : mG} {d : Nat} (x1 : Int32) (x2 : Int32) (o3 : Option mV) {h : mH} {Q : Option mV → mH → Prop} (hsk : mSK h) (hv : (((hI h 10 0 52) ≤ x2 → Q (some (vi x1)) h) ∧ (¬ (hI h 10 0 52) ≤ x2 → mT g me_fm_boys (d + 3) 0 0 60 [some (vr 10 0), some (vi x1), some (vi x2), some (vi (0 : Int32))] [] h Q))) : mT g me_fm_boys (d + 3) 0 0 50 [some (vr 10 0), some (vi x1), some (vi x2), o3] [] h Q := by
  refine tr_iload_n (pc := 50) 2 k_fm_boys_50 rfl rfl ?_
  refine tr_aload_n (pc := 51) 0 k_fm_boys_51 rfl rfl ?_
  refine tr_getIx (pc := 52) k_fm_boys_52 fl_fm_248 rfl rfl ?_
  refine tr_icmp_ge (pc := 55) 103 k_fm_boys_55 (by decide) (fun q => ?_) (fun q => ?_)
  · replace hv := hv.1 q
    refine tr_iload_n (pc := 103) 1 k_fm_boys_103 rfl rfl ?_
    refine tr_ireturn (pc := 104) k_fm_boys_104 rfl rfl ?_
    exact hv
  · replace hv := hv.2 q
    refine tr_iconst (pc := 58) (v := 0) k_fm_boys_58 (by decide) ?_
    refine tr_istore_n (pc := 59) 3 k_fm_boys_59 rfl (by decide) rfl ?_
    show mT g me_fm_boys (d + 3) 0 0 60 [some (vr 10 0), some (vi x1), some (vi x2), some (vi (0 : Int32))] [] h _
    exact hv
theorem v_fm_boys_60 {g : mG} {d : Nat} (x1 : Int32) (x2 : Int32) (x3 : Int32) {h : mH} {Q : Option mV → mH → Prop} (hsk : mSK h) (hv : (((hI h 10 0 52) ≤ x3 → mT g me_fm_leads (d + 2) 0 0 0 [some (vr 10 0), some (vi x2), none] [] h (fun v h1 => ∃ y2, v = some (vi y2) ∧ mSK h1 ∧ ((y2 = 0 → mT g me_fm_boys (d + 3) 0 0 50 [some (vr 10 0), some (vi (x1 - (0 : Int32))), some (vi (x2 + 1)), some (vi x3)] [] h1 Q) ∧ (¬ y2 = 0 → mT g me_fm_boys (d + 3) 0 0 50 [some (vr 10 0), some (vi (x1 - (1 : Int32))), some (vi (x2 + 1)), some (vi x3)] [] h1 Q)))) ∧ (¬ (hI h 10 0 52) ≤ x3 → (vp_in x3 60 ∧ mT g me_fm_boys (d + 3) 0 0 60 [some (vr 10 0), some (vi x1), some (vi x2), some (vi (x3 + 1))] [] (setI h 12 3 x3.toNatClampNeg (0 : Int32)) Q)))) : mT g me_fm_boys (d + 3) 0 0 60 [some (vr 10 0), some (vi x1), some (vi x2), some (vi x3)] [] h Q := by
  refine tr_iload_n (pc := 60) 3 k_fm_boys_60 rfl rfl ?_
  refine tr_aload_n (pc := 61) 0 k_fm_boys_61 rfl rfl ?_
  refine tr_getIx (pc := 62) k_fm_boys_62 fl_fm_248 rfl rfl ?_
  refine tr_icmp_ge (pc := 65) 81 k_fm_boys_65 (by decide) (fun q => ?_) (fun q => ?_)
  · replace hv := hv.1 q
    refine tr_iload_n (pc := 81) 1 k_fm_boys_81 rfl rfl ?_
    refine tr_aload_n (pc := 82) 0 k_fm_boys_82 rfl rfl ?_
    refine tr_iload_n (pc := 83) 2 k_fm_boys_83 rfl rfl ?_
    have hT := hv
    clear hv
    refine tr_callV (pc := 84) (d' := d + 2) (mc' := 0) (ms' := 0) [vi x2] k_fm_boys_84 ca_fm_leads ml_fm_264 ii_fm_leads ⟨by decide, rfl⟩ pa_fm_leads (by omega) (by omega) (by omega) rfl (Nat.le_of_ble_eq_true rfl) (Nat.le_of_ble_eq_true rfl) hT (fun v h9 hv => ?_)
    clear hT
    obtain ⟨y2, rfl, hv⟩ := hv
    obtain ⟨h1, eh⟩ : ∃ z, z = h9 := ⟨_, rfl⟩
    subst eh
    obtain ⟨hskh1, hv⟩ := hv
    show mT g me_fm_boys (d + 3) 0 0 87 [some (vr 10 0), some (vi x1), some (vi x2), some (vi x3)] [vi y2, vi x1] h1 _
    refine tr_if_eq (pc := 87) 94 k_fm_boys_87 (by decide) (fun q => ?_) (fun q => ?_)
    · replace hv := hv.1 q
      refine tr_iconst (pc := 94) (v := 0) k_fm_boys_94 (by decide) ?_
      refine tr_isub (pc := 95) k_fm_boys_95 ?_
      refine tr_istore_n (pc := 96) 1 k_fm_boys_96 rfl (by decide) rfl ?_
      show mT g me_fm_boys (d + 3) 0 0 97 [some (vr 10 0), some (vi (x1 - (0 : Int32))), some (vi x2), some (vi x3)] [] h1 _
      refine tr_iinc (pc := 97) (v := (x2 + 1)) k_fm_boys_97 rfl rfl (by decide) rfl ?_
      show mT g me_fm_boys (d + 3) 0 0 100 [some (vr 10 0), some (vi (x1 - (0 : Int32))), some (vi (x2 + 1)), some (vi x3)] [] h1 _
      refine tr_goto (pc := 100) 50 k_fm_boys_100 (by decide) ?_
      exact hv
    · replace hv := hv.2 q
      refine tr_iconst (pc := 90) (v := 1) k_fm_boys_90 (by decide) ?_
      refine tr_goto (pc := 91) 95 k_fm_boys_91 (by decide) ?_
      refine tr_isub (pc := 95) k_fm_boys_95 ?_
      refine tr_istore_n (pc := 96) 1 k_fm_boys_96 rfl (by decide) rfl ?_
      show mT g me_fm_boys (d + 3) 0 0 97 [some (vr 10 0), some (vi (x1 - (1 : Int32))), some (vi x2), some (vi x3)] [] h1 _
      refine tr_iinc (pc := 97) (v := (x2 + 1)) k_fm_boys_97 rfl rfl (by decide) rfl ?_
      show mT g me_fm_boys (d + 3) 0 0 100 [some (vr 10 0), some (vi (x1 - (1 : Int32))), some (vi (x2 + 1)), some (vi x3)] [] h1 _
      refine tr_goto (pc := 100) 50 k_fm_boys_100 (by decide) ?_
      exact hv
  · replace hv := hv.2 q
    refine tr_aload_n (pc := 68) 0 k_fm_boys_68 rfl rfl ?_
    refine tr_getP (pc := 69) k_fm_boys_69 fl_fm_126 rfl (Eq.trans rfl (hsk.1 10 54 _ rfl)) ?_
    refine tr_iload_n (pc := 72) 3 k_fm_boys_72 rfl rfl ?_
    refine tr_iconst (pc := 73) (v := 0) k_fm_boys_73 (by decide) ?_
    refine tr_zast (pc := 74) k_fm_boys_74 (mvin (hsk.2.1 12 3 _ rfl) hv.1) rfl ?_
    replace hv := hv.2
    refine tr_iinc (pc := 75) (v := (x3 + 1)) k_fm_boys_75 rfl rfl (by decide) rfl ?_
    show mT g me_fm_boys (d + 3) 0 0 78 [some (vr 10 0), some (vi x1), some (vi x2), some (vi (x3 + 1))] [] (setI h 12 3 x3.toNatClampNeg (0 : Int32)) _
    refine tr_goto (pc := 78) 60 k_fm_boys_78 (by decide) ?_
    exact hv
theorem v_fm_leads_0 {g : mG} {d : Nat} (x1 : Int32) {h : mH} {Q : Option mV → mH → Prop} (hsk : mSK h) (hv : mT g me_fm_leads (d + 2) 0 0 2 [some (vr 10 0), some (vi x1), some (vi (0 : Int32))] [] h Q) : mT g me_fm_leads (d + 2) 0 0 0 [some (vr 10 0), some (vi x1), none] [] h Q := by
  refine tr_iconst (pc := 0) (v := 0) k_fm_leads_0 (by decide) ?_
  refine tr_istore_n (pc := 1) 2 k_fm_leads_1 rfl (by decide) rfl ?_
  show mT g me_fm_leads (d + 2) 0 0 2 [some (vr 10 0), some (vi x1), some (vi (0 : Int32))] [] h _
  exact hv
theorem v_fm_leads_2 {g : mG} {d : Nat} (x1 : Int32) (x2 : Int32) {h : mH} {Q : Option mV → mH → Prop} (hsk : mSK h) (hv : (((hI h 10 0 52) ≤ x2 → Q (some (vi (0 : Int32))) h) ∧ (¬ (hI h 10 0 52) ≤ x2 → (vp_in x2 60 ∧ ((¬ (hI h 12 3 x2.toNatClampNeg) = 0 → mT g me_fm_leads (d + 2) 0 0 2 [some (vr 10 0), some (vi x1), some (vi (x2 + 1))] [] h Q) ∧ ((hI h 12 3 x2.toNatClampNeg) = 0 → mT g me_fm_canFollow (d + 1) 0 0 0 [some (vr 10 0), some (vi x1), some (vi x2)] [] h (fun v h1 => ∃ y2, v = some (vi y2) ∧ mSK h1 ∧ ((¬ y2 = 0 → (vp_in x2 60 ∧ (vp_in x2 60 ∧ (((hI h1 11 39 x2.toNatClampNeg) < 0 → (vp_in x2 60 ∧ Q (some (vi (1 : Int32))) (setI (setI h1 12 3 x2.toNatClampNeg (1 : Int32)) 11 39 x2.toNatClampNeg x1))) ∧ (¬ (hI h1 11 39 x2.toNatClampNeg) < 0 → (vp_in x2 60 ∧ mT g me_fm_leads (d + 1) 0 0 0 [some (vr 10 0), some (vi (hI h1 11 39 x2.toNatClampNeg)), none] [] (setI h1 12 3 x2.toNatClampNeg (1 : Int32)) (fun v h3 => ∃ y4, v = some (vi y4) ∧ mSK h3 ∧ ((y4 = 0 → mT g me_fm_leads (d + 2) 0 0 2 [some (vr 10 0), some (vi x1), some (vi (x2 + 1))] [] h3 Q) ∧ (¬ y4 = 0 → (vp_in x2 60 ∧ Q (some (vi (1 : Int32))) (setI h3 11 39 x2.toNatClampNeg x1))))))))))) ∧ (y2 = 0 → mT g me_fm_leads (d + 2) 0 0 2 [some (vr 10 0), some (vi x1), some (vi (x2 + 1))] [] h1 Q))))))))) : mT g me_fm_leads (d + 2) 0 0 2 [some (vr 10 0), some (vi x1), some (vi x2)] [] h Q := by
  refine tr_iload_n (pc := 2) 2 k_fm_leads_2 rfl rfl ?_
  refine tr_aload_n (pc := 3) 0 k_fm_leads_3 rfl rfl ?_
  refine tr_getIx (pc := 4) k_fm_leads_4 fl_fm_248 rfl rfl ?_
  refine tr_icmp_ge (pc := 7) 75 k_fm_leads_7 (by decide) (fun q => ?_) (fun q => ?_)
  · replace hv := hv.1 q
    refine tr_iconst (pc := 75) (v := 0) k_fm_leads_75 (by decide) ?_
    refine tr_ireturn (pc := 76) k_fm_leads_76 rfl rfl ?_
    exact hv
  · replace hv := hv.2 q
    refine tr_aload_n (pc := 10) 0 k_fm_leads_10 rfl rfl ?_
    refine tr_getP (pc := 11) k_fm_leads_11 fl_fm_126 rfl (Eq.trans rfl (hsk.1 10 54 _ rfl)) ?_
    refine tr_iload_n (pc := 14) 2 k_fm_leads_14 rfl rfl ?_
    refine tr_zaldx (pc := 15) k_fm_leads_15 (mvin (hsk.2.1 12 3 _ rfl) hv.1) rfl ?_
    replace hv := hv.2
    refine tr_if_ne (pc := 16) 69 k_fm_leads_16 (by decide) (fun q => ?_) (fun q => ?_)
    · replace hv := hv.1 q
      refine tr_iinc (pc := 69) (v := (x2 + 1)) k_fm_leads_69 rfl rfl (by decide) rfl ?_
      show mT g me_fm_leads (d + 2) 0 0 72 [some (vr 10 0), some (vi x1), some (vi (x2 + 1))] [] h _
      refine tr_goto (pc := 72) 2 k_fm_leads_72 (by decide) ?_
      exact hv
    · replace hv := hv.2 q
      refine tr_aload_n (pc := 19) 0 k_fm_leads_19 rfl rfl ?_
      refine tr_iload_n (pc := 20) 1 k_fm_leads_20 rfl rfl ?_
      refine tr_iload_n (pc := 21) 2 k_fm_leads_21 rfl rfl ?_
      have hT := hv
      clear hv
      refine tr_callV (pc := 22) (d' := d + 1) (mc' := 0) (ms' := 0) [vi x1, vi x2] k_fm_leads_22 ca_fm_canFollow ml_fm_261 ii_fm_canFollow ⟨by decide, rfl⟩ pa_fm_canFollow (by omega) (by omega) (by omega) rfl (Nat.le_of_ble_eq_true rfl) (Nat.le_of_ble_eq_true rfl) hT (fun v h9 hv => ?_)
      clear hT
      obtain ⟨y2, rfl, hv⟩ := hv
      obtain ⟨h1, eh⟩ : ∃ z, z = h9 := ⟨_, rfl⟩
      subst eh
      obtain ⟨hskh1, hv⟩ := hv
      show mT g me_fm_leads (d + 2) 0 0 25 [some (vr 10 0), some (vi x1), some (vi x2)] [vi y2] h1 _
      refine tr_if_ne (pc := 25) 31 k_fm_leads_25 (by decide) (fun q => ?_) (fun q => ?_)
      · replace hv := hv.1 q
        refine tr_aload_n (pc := 31) 0 k_fm_leads_31 rfl rfl ?_
        refine tr_getP (pc := 32) k_fm_leads_32 fl_fm_126 rfl (Eq.trans rfl (hskh1.1 10 54 _ rfl)) ?_
        refine tr_iload_n (pc := 35) 2 k_fm_leads_35 rfl rfl ?_
        refine tr_iconst (pc := 36) (v := 1) k_fm_leads_36 (by decide) ?_
        refine tr_zast (pc := 37) k_fm_leads_37 (mvin (hskh1.2.1 12 3 _ rfl) hv.1) rfl ?_
        replace hv := hv.2
        refine tr_aload_n (pc := 38) 0 k_fm_leads_38 rfl rfl ?_
        refine tr_getP (pc := 39) k_fm_leads_39 fl_fm_123 rfl (Eq.trans (hP_setI) (hskh1.1 10 53 _ rfl)) ?_
        refine tr_iload_n (pc := 42) 2 k_fm_leads_42 rfl rfl ?_
        refine tr_ialdx (pc := 43) k_fm_leads_43 (mvin (hskh1.2.1 11 39 _ rfl) hv.1) (hI_nk (by decide)) ?_
        replace hv := hv.2
        refine tr_if_lt (pc := 44) 60 k_fm_leads_44 (by decide) (fun q => ?_) (fun q => ?_)
        · replace hv := hv.1 q
          refine tr_aload_n (pc := 60) 0 k_fm_leads_60 rfl rfl ?_
          refine tr_getP (pc := 61) k_fm_leads_61 fl_fm_123 rfl (Eq.trans (hP_setI) (hskh1.1 10 53 _ rfl)) ?_
          refine tr_iload_n (pc := 64) 2 k_fm_leads_64 rfl rfl ?_
          refine tr_iload_n (pc := 65) 1 k_fm_leads_65 rfl rfl ?_
          refine tr_iast (pc := 66) k_fm_leads_66 (mvin (hskh1.2.1 11 39 _ rfl) hv.1) ?_
          replace hv := hv.2
          refine tr_iconst (pc := 67) (v := 1) k_fm_leads_67 (by decide) ?_
          refine tr_ireturn (pc := 68) k_fm_leads_68 rfl rfl ?_
          exact hv
        · replace hv := hv.2 q
          refine tr_aload_n (pc := 47) 0 k_fm_leads_47 rfl rfl ?_
          refine tr_aload_n (pc := 48) 0 k_fm_leads_48 rfl rfl ?_
          refine tr_getP (pc := 49) k_fm_leads_49 fl_fm_123 rfl (Eq.trans (hP_setI) (hskh1.1 10 53 _ rfl)) ?_
          refine tr_iload_n (pc := 52) 2 k_fm_leads_52 rfl rfl ?_
          refine tr_ialdx (pc := 53) k_fm_leads_53 (mvin (hskh1.2.1 11 39 _ rfl) hv.1) (hI_nk (by decide)) ?_
          replace hv := hv.2
          have hT := hv
          clear hv
          refine tr_callV (pc := 54) (d' := d + 1) (mc' := 0) (ms' := 0) [vi (hI h1 11 39 x2.toNatClampNeg)] k_fm_leads_54 ca_fm_leads ml_fm_264 ii_fm_leads ⟨by decide, rfl⟩ pa_fm_leads (by omega) (by omega) (by omega) rfl (Nat.le_of_ble_eq_true rfl) (Nat.le_of_ble_eq_true rfl) hT (fun v h9 hv => ?_)
          clear hT
          obtain ⟨y4, rfl, hv⟩ := hv
          obtain ⟨h3, eh⟩ : ∃ z, z = h9 := ⟨_, rfl⟩
          subst eh
          obtain ⟨hskh3, hv⟩ := hv
          show mT g me_fm_leads (d + 2) 0 0 57 [some (vr 10 0), some (vi x1), some (vi x2)] [vi y4] h3 _
          refine tr_if_eq (pc := 57) 69 k_fm_leads_57 (by decide) (fun q => ?_) (fun q => ?_)
          · replace hv := hv.1 q
            refine tr_iinc (pc := 69) (v := (x2 + 1)) k_fm_leads_69 rfl rfl (by decide) rfl ?_
            show mT g me_fm_leads (d + 2) 0 0 72 [some (vr 10 0), some (vi x1), some (vi (x2 + 1))] [] h3 _
            refine tr_goto (pc := 72) 2 k_fm_leads_72 (by decide) ?_
            exact hv
          · replace hv := hv.2 q
            refine tr_aload_n (pc := 60) 0 k_fm_leads_60 rfl rfl ?_
            refine tr_getP (pc := 61) k_fm_leads_61 fl_fm_123 rfl (Eq.trans rfl (hskh3.1 10 53 _ rfl)) ?_
            refine tr_iload_n (pc := 64) 2 k_fm_leads_64 rfl rfl ?_
            refine tr_iload_n (pc := 65) 1 k_fm_leads_65 rfl rfl ?_
            refine tr_iast (pc := 66) k_fm_leads_66 (mvin (hskh3.2.1 11 39 _ rfl) hv.1) ?_
            replace hv := hv.2
            refine tr_iconst (pc := 67) (v := 1) k_fm_leads_67 (by decide) ?_
            refine tr_ireturn (pc := 68) k_fm_leads_68 rfl rfl ?_
            exact hv
      · replace hv := hv.2 q
        refine tr_goto (pc := 28) 69 k_fm_leads_28 (by decide) ?_
        refine tr_iinc (pc := 69) (v := (x2 + 1)) k_fm_leads_69 rfl rfl (by decide) rfl ?_
        show mT g me_fm_leads (d + 2) 0 0 72 [some (vr 10 0), some (vi x1), some (vi (x2 + 1))] [] h1 _
        refine tr_goto (pc := 72) 2 k_fm_leads_72 (by decide) ?_
        exact hv
theorem v_fm_canFollow_0 {g : mG} {d : Nat} (x1 : Int32) (x2 : Int32) {h : mH} {Q : Option mV → mH → Prop} (hsk : mSK h) (hv : ((x2 ≤ x1 → Q (some (vi (0 : Int32))) h) ∧ (¬ x2 ≤ x1 → (vp_in x2 576 ∧ (vp_in x1 576 ∧ (vp_in x1 576 ∧ (vp_in (hI h 11 37 x1.toNatClampNeg) 24 ∧ (vp_in x2 576 ∧ (vp_in (hI h 11 37 x2.toNatClampNeg) 24 ∧ (((hI h 11 36 x2.toNatClampNeg) < ((hI h 11 36 x1.toNatClampNeg) + ((hI h 10 0 6) * (if 0 ≤ ((hI h 11 21 ((hI h 11 37 x1.toNatClampNeg).toNatClampNeg)) - (hI h 11 21 ((hI h 11 37 x2.toNatClampNeg).toNatClampNeg))) then ((hI h 11 21 ((hI h 11 37 x1.toNatClampNeg).toNatClampNeg)) - (hI h 11 21 ((hI h 11 37 x2.toNatClampNeg).toNatClampNeg))) else 0 - ((hI h 11 21 ((hI h 11 37 x1.toNatClampNeg).toNatClampNeg)) - (hI h 11 21 ((hI h 11 37 x2.toNatClampNeg).toNatClampNeg)))))) → Q (some (vi (0 : Int32))) h) ∧ (¬ (hI h 11 36 x2.toNatClampNeg) < ((hI h 11 36 x1.toNatClampNeg) + ((hI h 10 0 6) * (if 0 ≤ ((hI h 11 21 ((hI h 11 37 x1.toNatClampNeg).toNatClampNeg)) - (hI h 11 21 ((hI h 11 37 x2.toNatClampNeg).toNatClampNeg))) then ((hI h 11 21 ((hI h 11 37 x1.toNatClampNeg).toNatClampNeg)) - (hI h 11 21 ((hI h 11 37 x2.toNatClampNeg).toNatClampNeg))) else 0 - ((hI h 11 21 ((hI h 11 37 x1.toNatClampNeg).toNatClampNeg)) - (hI h 11 21 ((hI h 11 37 x2.toNatClampNeg).toNatClampNeg)))))) → Q (some (vi (1 : Int32))) h))))))))))) : mT g me_fm_canFollow (d + 1) 0 0 0 [some (vr 10 0), some (vi x1), some (vi x2)] [] h Q := by
  refine tr_iload_n (pc := 0) 1 k_fm_canFollow_0 rfl rfl ?_
  refine tr_iload_n (pc := 1) 2 k_fm_canFollow_1 rfl rfl ?_
  refine tr_icmp_ge (pc := 2) 56 k_fm_canFollow_2 (by decide) (fun q => ?_) (fun q => ?_)
  · replace hv := hv.1 q
    refine tr_iconst (pc := 56) (v := 0) k_fm_canFollow_56 (by decide) ?_
    refine tr_ireturn (pc := 57) k_fm_canFollow_57 rfl rfl ?_
    exact hv
  · replace hv := hv.2 q
    refine tr_aload_n (pc := 5) 0 k_fm_canFollow_5 rfl rfl ?_
    refine tr_getP (pc := 6) k_fm_canFollow_6 fl_fm_114 rfl (Eq.trans rfl (hsk.1 10 49 _ rfl)) ?_
    refine tr_iload_n (pc := 9) 2 k_fm_canFollow_9 rfl rfl ?_
    refine tr_ialdx (pc := 10) k_fm_canFollow_10 (mvin (hsk.2.1 11 36 _ rfl) hv.1) rfl ?_
    replace hv := hv.2
    refine tr_aload_n (pc := 11) 0 k_fm_canFollow_11 rfl rfl ?_
    refine tr_getP (pc := 12) k_fm_canFollow_12 fl_fm_114 rfl (Eq.trans rfl (hsk.1 10 49 _ rfl)) ?_
    refine tr_iload_n (pc := 15) 1 k_fm_canFollow_15 rfl rfl ?_
    refine tr_ialdx (pc := 16) k_fm_canFollow_16 (mvin (hsk.2.1 11 36 _ rfl) hv.1) rfl ?_
    replace hv := hv.2
    refine tr_aload_n (pc := 17) 0 k_fm_canFollow_17 rfl rfl ?_
    refine tr_getIx (pc := 18) k_fm_canFollow_18 fl_fm_13 rfl rfl ?_
    refine tr_aload_n (pc := 21) 0 k_fm_canFollow_21 rfl rfl ?_
    refine tr_getP (pc := 22) k_fm_canFollow_22 fl_fm_63 rfl (Eq.trans rfl (hsk.1 10 23 _ rfl)) ?_
    refine tr_aload_n (pc := 25) 0 k_fm_canFollow_25 rfl rfl ?_
    refine tr_getP (pc := 26) k_fm_canFollow_26 fl_fm_117 rfl (Eq.trans rfl (hsk.1 10 50 _ rfl)) ?_
    refine tr_iload_n (pc := 29) 1 k_fm_canFollow_29 rfl rfl ?_
    refine tr_ialdx (pc := 30) k_fm_canFollow_30 (mvin (hsk.2.1 11 37 _ rfl) hv.1) rfl ?_
    replace hv := hv.2
    refine tr_ialdx (pc := 31) k_fm_canFollow_31 (mvin (hsk.2.1 11 21 _ rfl) hv.1) rfl ?_
    replace hv := hv.2
    refine tr_aload_n (pc := 32) 0 k_fm_canFollow_32 rfl rfl ?_
    refine tr_getP (pc := 33) k_fm_canFollow_33 fl_fm_63 rfl (Eq.trans rfl (hsk.1 10 23 _ rfl)) ?_
    refine tr_aload_n (pc := 36) 0 k_fm_canFollow_36 rfl rfl ?_
    refine tr_getP (pc := 37) k_fm_canFollow_37 fl_fm_117 rfl (Eq.trans rfl (hsk.1 10 50 _ rfl)) ?_
    refine tr_iload_n (pc := 40) 2 k_fm_canFollow_40 rfl rfl ?_
    refine tr_ialdx (pc := 41) k_fm_canFollow_41 (mvin (hsk.2.1 11 37 _ rfl) hv.1) rfl ?_
    replace hv := hv.2
    refine tr_ialdx (pc := 42) k_fm_canFollow_42 (mvin (hsk.2.1 11 21 _ rfl) hv.1) rfl ?_
    replace hv := hv.2
    refine tr_isub (pc := 43) k_fm_canFollow_43 ?_
    refine tr_abs (pc := 44) k_fm_canFollow_44 ml_fm_258 (by omega) (Nat.le_of_ble_eq_true rfl) ?_
    refine tr_imul (pc := 47) k_fm_canFollow_47 ?_
    refine tr_iadd (pc := 48) k_fm_canFollow_48 ?_
    refine tr_icmp_lt (pc := 49) 56 k_fm_canFollow_49 (by decide) (fun q => ?_) (fun q => ?_)
    · replace hv := hv.1 q
      refine tr_iconst (pc := 56) (v := 0) k_fm_canFollow_56 (by decide) ?_
      refine tr_ireturn (pc := 57) k_fm_canFollow_57 rfl rfl ?_
      exact hv
    · replace hv := hv.2 q
      refine tr_iconst (pc := 52) (v := 1) k_fm_canFollow_52 (by decide) ?_
      refine tr_goto (pc := 53) 57 k_fm_canFollow_53 (by decide) ?_
      refine tr_ireturn (pc := 57) k_fm_canFollow_57 rfl rfl ?_
      exact hv
theorem v_fm_gauge_0 {g : mG} {d : Nat} (x1 : Int32) (x2 : Int32) {h : mH} {Q : Option mV → mH → Prop} (hsk : mSK h) (hv : ((x1 < 0 → mT g me_fm_refuse (d + 1) 0 0 0 [some (vr 10 0), some (vi (-1 : Int32))] [] h (fun v h1 => ∃ y2, v = some (vi y2) ∧ mSK h1 ∧ Q (some (vi ((1000000000 : Int32) - y2))) h1)) ∧ (¬ x1 < 0 → (((hI h 10 0 4) ≤ x1 → mT g me_fm_refuse (d + 1) 0 0 0 [some (vr 10 0), some (vi (-1 : Int32))] [] h (fun v h3 => ∃ y4, v = some (vi y4) ∧ mSK h3 ∧ Q (some (vi ((1000000000 : Int32) - y4))) h3)) ∧ (¬ (hI h 10 0 4) ≤ x1 → (((-1 : Int32) ≤ x2 → ((x2 ≤ (500 : Int32) → (vp_in x1 24 ∧ (vp_in x1 24 ∧ Q (some (vi (hI h 11 23 x1.toNatClampNeg))) (setI (setI h 11 23 x1.toNatClampNeg x2) 10 0 55 (0 : Int32))))) ∧ (¬ x2 ≤ (500 : Int32) → mT g me_fm_refuse (d + 1) 0 0 0 [some (vr 10 0), some (vi (-6 : Int32))] [] h (fun v h5 => ∃ y6, v = some (vi y6) ∧ mSK h5 ∧ Q (some (vi ((1000000000 : Int32) - y6))) h5)))) ∧ (¬ (-1 : Int32) ≤ x2 → mT g me_fm_refuse (d + 1) 0 0 0 [some (vr 10 0), some (vi (-4 : Int32))] [] h (fun v h7 => ∃ y8, v = some (vi y8) ∧ mSK h7 ∧ Q (some (vi ((1000000000 : Int32) - y8))) h7)))))))) : mT g me_fm_gauge (d + 3) 0 0 0 [some (vr 10 0), some (vi x1), some (vi x2), none, none] [] h Q := by
  refine tr_aload_n (pc := 0) 0 k_fm_gauge_0 rfl rfl ?_
  refine tr_iload_n (pc := 1) 1 k_fm_gauge_1 rfl rfl ?_
  refine tr_callV (pc := 2) (d' := d + 2) (mc' := 0) (ms' := 0) [vi x1] k_fm_gauge_2 ca_fm_isJet ml_fm_165 ii_fm_isJet ⟨by decide, rfl⟩ pa_fm_isJet (by omega) (by omega) (by omega) rfl (Nat.le_of_ble_eq_true rfl) (Nat.le_of_ble_eq_true rfl) (Qk := fun v h9 => mT g me_fm_gauge (d + 3) 0 0 5 [some (vr 10 0), some (vi x1), some (vi x2), none, none] (v.toList ++ []) h9 _) ?_ (fun _ _ z => z)
  show mT g me_fm_isJet (d + 2) 0 0 0 [some (vr 10 0), some (vi x1)] [] h _
  refine tr_iload_n (pc := 0) 1 k_fm_isJet_0 rfl rfl ?_
  refine tr_aload_n (pc := 1) 0 k_fm_isJet_1 rfl rfl ?_
  refine tr_getIx (pc := 2) k_fm_isJet_2 fl_fm_158 rfl rfl ?_
  refine tr_callS (pc := 5) (d' := d + 1) (mc' := 0) (ms' := 0) [vi x1, vi (hI h 10 0 4)] k_fm_isJet_5 ca_fm_isIn ml_fm_144 is_fm_isIn pa_fm_isIn (by omega) (by omega) (by omega) rfl (Nat.le_of_ble_eq_true rfl) (Nat.le_of_ble_eq_true rfl) (Qk := fun v h9 => mT g me_fm_isJet (d + 2) 0 0 8 [some (vr 10 0), some (vi x1)] (v.toList ++ []) h9 _) ?_ (fun _ _ z => z)
  show mT g me_fm_isIn (d + 1) 0 0 0 [some (vi x1), some (vi (hI h 10 0 4))] [] h _
  refine tr_iload_n (pc := 0) 0 k_fm_isIn_0 rfl rfl ?_
  refine tr_if_lt (pc := 1) 13 k_fm_isIn_1 (by decide) (fun q => ?_) (fun q => ?_)
  · replace hv := hv.1 q
    refine tr_iconst (pc := 13) (v := 0) k_fm_isIn_13 (by decide) ?_
    refine tr_ireturn (pc := 14) k_fm_isIn_14 rfl rfl ?_
    show mT g me_fm_isJet (d + 2) 0 0 8 [some (vr 10 0), some (vi x1)] [vi (0 : Int32)] h _
    refine tr_ireturn (pc := 8) k_fm_isJet_8 rfl rfl ?_
    show mT g me_fm_gauge (d + 3) 0 0 5 [some (vr 10 0), some (vi x1), some (vi x2), none, none] [vi (0 : Int32)] h _
    refine tr_if_eq (pc := 5) 19 k_fm_gauge_5 (by decide) (fun _ => ?_) (fun q => absurd q (by decide))
    refine tr_iconst (pc := 19) (v := -1) k_fm_gauge_19 (by decide) ?_
    refine tr_istore_n (pc := 20) 3 k_fm_gauge_20 rfl (by decide) rfl ?_
    show mT g me_fm_gauge (d + 3) 0 0 21 [some (vr 10 0), some (vi x1), some (vi x2), some (vi (-1 : Int32)), none] [] h _
    refine tr_iload_n (pc := 21) 3 k_fm_gauge_21 rfl rfl ?_
    refine tr_if_eq (pc := 22) 31 k_fm_gauge_22 (by decide) (fun q => absurd q (by decide)) (fun _ => ?_)
    refine tr_aload_n (pc := 25) 0 k_fm_gauge_25 rfl rfl ?_
    refine tr_iload_n (pc := 26) 3 k_fm_gauge_26 rfl rfl ?_
    refine tr_callV (pc := 27) (d' := d + 2) (mc' := 0) (ms' := 0) [vi (-1 : Int32)] k_fm_gauge_27 ca_fm_refuseFar ml_fm_182 ii_fm_refuseFar ⟨by decide, rfl⟩ pa_fm_refuseFar (by omega) (by omega) (by omega) rfl (Nat.le_of_ble_eq_true rfl) (Nat.le_of_ble_eq_true rfl) (Qk := fun v h9 => mT g me_fm_gauge (d + 3) 0 0 30 [some (vr 10 0), some (vi x1), some (vi x2), some (vi (-1 : Int32)), none] (v.toList ++ []) h9 _) ?_ (fun _ _ z => z)
    show mT g me_fm_refuseFar (d + 2) 0 0 0 [some (vr 10 0), some (vi (-1 : Int32))] [] h _
    refine tr_ldc (pc := 0) (v := 1000000000) k_fm_refuseFar_0 co_fm_132 ?_
    refine tr_aload_n (pc := 2) 0 k_fm_refuseFar_2 rfl rfl ?_
    refine tr_iload_n (pc := 3) 1 k_fm_refuseFar_3 rfl rfl ?_
    have hT := hv
    clear hv
    refine tr_callV (pc := 4) (d' := d + 1) (mc' := 0) (ms' := 0) [vi (-1 : Int32)] k_fm_refuseFar_4 ca_fm_refuse ml_fm_133 ii_fm_refuse ⟨by decide, rfl⟩ pa_fm_refuse (by omega) (by omega) (by omega) rfl (Nat.le_of_ble_eq_true rfl) (Nat.le_of_ble_eq_true rfl) hT (fun v h9 hv => ?_)
    clear hT
    obtain ⟨y2, rfl, hv⟩ := hv
    obtain ⟨h1, eh⟩ : ∃ z, z = h9 := ⟨_, rfl⟩
    subst eh
    obtain ⟨hskh1, hv⟩ := hv
    show mT g me_fm_refuseFar (d + 2) 0 0 7 [some (vr 10 0), some (vi (-1 : Int32))] [vi y2, vi (1000000000 : Int32)] h1 _
    refine tr_isub (pc := 7) k_fm_refuseFar_7 ?_
    refine tr_ireturn (pc := 8) k_fm_refuseFar_8 rfl rfl ?_
    show mT g me_fm_gauge (d + 3) 0 0 30 [some (vr 10 0), some (vi x1), some (vi x2), some (vi (-1 : Int32)), none] [vi ((1000000000 : Int32) - y2)] h1 _
    refine tr_ireturn (pc := 30) k_fm_gauge_30 rfl rfl ?_
    exact hv
  · replace hv := hv.2 q
    refine tr_iload_n (pc := 4) 0 k_fm_isIn_4 rfl rfl ?_
    refine tr_iload_n (pc := 5) 1 k_fm_isIn_5 rfl rfl ?_
    refine tr_icmp_ge (pc := 6) 13 k_fm_isIn_6 (by decide) (fun q => ?_) (fun q => ?_)
    · replace hv := hv.1 q
      refine tr_iconst (pc := 13) (v := 0) k_fm_isIn_13 (by decide) ?_
      refine tr_ireturn (pc := 14) k_fm_isIn_14 rfl rfl ?_
      show mT g me_fm_isJet (d + 2) 0 0 8 [some (vr 10 0), some (vi x1)] [vi (0 : Int32)] h _
      refine tr_ireturn (pc := 8) k_fm_isJet_8 rfl rfl ?_
      show mT g me_fm_gauge (d + 3) 0 0 5 [some (vr 10 0), some (vi x1), some (vi x2), none, none] [vi (0 : Int32)] h _
      refine tr_if_eq (pc := 5) 19 k_fm_gauge_5 (by decide) (fun _ => ?_) (fun q => absurd q (by decide))
      refine tr_iconst (pc := 19) (v := -1) k_fm_gauge_19 (by decide) ?_
      refine tr_istore_n (pc := 20) 3 k_fm_gauge_20 rfl (by decide) rfl ?_
      show mT g me_fm_gauge (d + 3) 0 0 21 [some (vr 10 0), some (vi x1), some (vi x2), some (vi (-1 : Int32)), none] [] h _
      refine tr_iload_n (pc := 21) 3 k_fm_gauge_21 rfl rfl ?_
      refine tr_if_eq (pc := 22) 31 k_fm_gauge_22 (by decide) (fun q => absurd q (by decide)) (fun _ => ?_)
      refine tr_aload_n (pc := 25) 0 k_fm_gauge_25 rfl rfl ?_
      refine tr_iload_n (pc := 26) 3 k_fm_gauge_26 rfl rfl ?_
      refine tr_callV (pc := 27) (d' := d + 2) (mc' := 0) (ms' := 0) [vi (-1 : Int32)] k_fm_gauge_27 ca_fm_refuseFar ml_fm_182 ii_fm_refuseFar ⟨by decide, rfl⟩ pa_fm_refuseFar (by omega) (by omega) (by omega) rfl (Nat.le_of_ble_eq_true rfl) (Nat.le_of_ble_eq_true rfl) (Qk := fun v h9 => mT g me_fm_gauge (d + 3) 0 0 30 [some (vr 10 0), some (vi x1), some (vi x2), some (vi (-1 : Int32)), none] (v.toList ++ []) h9 _) ?_ (fun _ _ z => z)
      show mT g me_fm_refuseFar (d + 2) 0 0 0 [some (vr 10 0), some (vi (-1 : Int32))] [] h _
      refine tr_ldc (pc := 0) (v := 1000000000) k_fm_refuseFar_0 co_fm_132 ?_
      refine tr_aload_n (pc := 2) 0 k_fm_refuseFar_2 rfl rfl ?_
      refine tr_iload_n (pc := 3) 1 k_fm_refuseFar_3 rfl rfl ?_
      have hT := hv
      clear hv
      refine tr_callV (pc := 4) (d' := d + 1) (mc' := 0) (ms' := 0) [vi (-1 : Int32)] k_fm_refuseFar_4 ca_fm_refuse ml_fm_133 ii_fm_refuse ⟨by decide, rfl⟩ pa_fm_refuse (by omega) (by omega) (by omega) rfl (Nat.le_of_ble_eq_true rfl) (Nat.le_of_ble_eq_true rfl) hT (fun v h9 hv => ?_)
      clear hT
      obtain ⟨y4, rfl, hv⟩ := hv
      obtain ⟨h3, eh⟩ : ∃ z, z = h9 := ⟨_, rfl⟩
      subst eh
      obtain ⟨hskh3, hv⟩ := hv
      show mT g me_fm_refuseFar (d + 2) 0 0 7 [some (vr 10 0), some (vi (-1 : Int32))] [vi y4, vi (1000000000 : Int32)] h3 _
      refine tr_isub (pc := 7) k_fm_refuseFar_7 ?_
      refine tr_ireturn (pc := 8) k_fm_refuseFar_8 rfl rfl ?_
      show mT g me_fm_gauge (d + 3) 0 0 30 [some (vr 10 0), some (vi x1), some (vi x2), some (vi (-1 : Int32)), none] [vi ((1000000000 : Int32) - y4)] h3 _
      refine tr_ireturn (pc := 30) k_fm_gauge_30 rfl rfl ?_
      exact hv
    · replace hv := hv.2 q
      refine tr_iconst (pc := 9) (v := 1) k_fm_isIn_9 (by decide) ?_
      refine tr_goto (pc := 10) 14 k_fm_isIn_10 (by decide) ?_
      refine tr_ireturn (pc := 14) k_fm_isIn_14 rfl rfl ?_
      show mT g me_fm_isJet (d + 2) 0 0 8 [some (vr 10 0), some (vi x1)] [vi (1 : Int32)] h _
      refine tr_ireturn (pc := 8) k_fm_isJet_8 rfl rfl ?_
      show mT g me_fm_gauge (d + 3) 0 0 5 [some (vr 10 0), some (vi x1), some (vi x2), none, none] [vi (1 : Int32)] h _
      refine tr_if_eq (pc := 5) 19 k_fm_gauge_5 (by decide) (fun q => absurd q (by decide)) (fun _ => ?_)
      refine tr_iload_n (pc := 8) 2 k_fm_gauge_8 rfl rfl ?_
      refine tr_iconst (pc := 9) (v := -1) k_fm_gauge_9 (by decide) ?_
      refine tr_sipush (pc := 10) (v := 500) k_fm_gauge_10 (by decide) ?_
      refine tr_callS (pc := 13) (d' := d + 2) (mc' := 0) (ms' := 0) [vi x2, vi (-1 : Int32), vi (500 : Int32)] k_fm_gauge_13 ca_fm_wrong ml_fm_148 is_fm_wrong pa_fm_wrong (by omega) (by omega) (by omega) rfl (Nat.le_of_ble_eq_true rfl) (Nat.le_of_ble_eq_true rfl) (Qk := fun v h9 => mT g me_fm_gauge (d + 3) 0 0 16 [some (vr 10 0), some (vi x1), some (vi x2), none, none] (v.toList ++ []) h9 _) ?_ (fun _ _ z => z)
      show mT g me_fm_wrong (d + 2) 0 0 0 [some (vi x2), some (vi (-1 : Int32)), some (vi (500 : Int32))] [] h _
      refine tr_iload_n (pc := 0) 0 k_fm_wrong_0 rfl rfl ?_
      refine tr_iload_n (pc := 1) 1 k_fm_wrong_1 rfl rfl ?_
      refine tr_icmp_ge (pc := 2) 10 k_fm_wrong_2 (by decide) (fun q => ?_) (fun q => ?_)
      · replace hv := hv.1 q
        refine tr_iload_n (pc := 10) 0 k_fm_wrong_10 rfl rfl ?_
        refine tr_iload_n (pc := 11) 2 k_fm_wrong_11 rfl rfl ?_
        refine tr_icmp_le (pc := 12) 20 k_fm_wrong_12 (by decide) (fun q => ?_) (fun q => ?_)
        · replace hv := hv.1 q
          refine tr_iconst (pc := 20) (v := 0) k_fm_wrong_20 (by decide) ?_
          refine tr_ireturn (pc := 21) k_fm_wrong_21 rfl rfl ?_
          show mT g me_fm_gauge (d + 3) 0 0 16 [some (vr 10 0), some (vi x1), some (vi x2), none, none] [vi (0 : Int32)] h _
          refine tr_goto (pc := 16) 20 k_fm_gauge_16 (by decide) ?_
          refine tr_istore_n (pc := 20) 3 k_fm_gauge_20 rfl (by decide) rfl ?_
          show mT g me_fm_gauge (d + 3) 0 0 21 [some (vr 10 0), some (vi x1), some (vi x2), some (vi (0 : Int32)), none] [] h _
          refine tr_iload_n (pc := 21) 3 k_fm_gauge_21 rfl rfl ?_
          refine tr_if_eq (pc := 22) 31 k_fm_gauge_22 (by decide) (fun _ => ?_) (fun q => absurd q (by decide))
          refine tr_aload_n (pc := 31) 0 k_fm_gauge_31 rfl rfl ?_
          refine tr_getP (pc := 32) k_fm_gauge_32 fl_fm_69 rfl (Eq.trans rfl (hsk.1 10 25 _ rfl)) ?_
          refine tr_iload_n (pc := 35) 1 k_fm_gauge_35 rfl rfl ?_
          refine tr_ialdx (pc := 36) k_fm_gauge_36 (mvin (hsk.2.1 11 23 _ rfl) hv.1) rfl ?_
          replace hv := hv.2
          refine tr_istore (pc := 37) k_fm_gauge_37 (by decide) rfl ?_
          show mT g me_fm_gauge (d + 3) 0 0 39 [some (vr 10 0), some (vi x1), some (vi x2), some (vi (0 : Int32)), some (vi (hI h 11 23 x1.toNatClampNeg))] [] h _
          refine tr_aload_n (pc := 39) 0 k_fm_gauge_39 rfl rfl ?_
          refine tr_getP (pc := 40) k_fm_gauge_40 fl_fm_69 rfl (Eq.trans rfl (hsk.1 10 25 _ rfl)) ?_
          refine tr_iload_n (pc := 43) 1 k_fm_gauge_43 rfl rfl ?_
          refine tr_iload_n (pc := 44) 2 k_fm_gauge_44 rfl rfl ?_
          refine tr_iast (pc := 45) k_fm_gauge_45 (mvin (hsk.2.1 11 23 _ rfl) hv.1) ?_
          replace hv := hv.2
          refine tr_aload_n (pc := 46) 0 k_fm_gauge_46 rfl rfl ?_
          refine tr_callV (pc := 47) (d' := d + 2) (mc' := 0) (ms' := 0) [] k_fm_gauge_47 ca_fm_changes ml_fm_152 ii_fm_changes ⟨by decide, rfl⟩ pa_fm_changes (by omega) (by omega) (by omega) rfl (Nat.le_of_ble_eq_true rfl) (Nat.le_of_ble_eq_true rfl) (Qk := fun v h9 => mT g me_fm_gauge (d + 3) 0 0 50 [some (vr 10 0), some (vi x1), some (vi x2), some (vi (0 : Int32)), some (vi (hI h 11 23 x1.toNatClampNeg))] (v.toList ++ []) h9 _) ?_ (fun _ _ z => z)
          show mT g me_fm_changes (d + 2) 0 0 0 [some (vr 10 0)] [] (setI h 11 23 x1.toNatClampNeg x2) _
          refine tr_aload_n (pc := 0) 0 k_fm_changes_0 rfl rfl ?_
          refine tr_iconst (pc := 1) (v := 0) k_fm_changes_1 (by decide) ?_
          refine tr_putI (pc := 2) k_fm_changes_2 fl_fm_137 (Or.inl rfl) rfl ⟨rfl, rfl⟩ ?_
          refine tr_return (pc := 5) k_fm_changes_5 rfl ?_
          show mT g me_fm_gauge (d + 3) 0 0 50 [some (vr 10 0), some (vi x1), some (vi x2), some (vi (0 : Int32)), some (vi (hI h 11 23 x1.toNatClampNeg))] [] (setI (setI h 11 23 x1.toNatClampNeg x2) 10 0 55 (0 : Int32)) _
          refine tr_iload (pc := 50) k_fm_gauge_50 rfl ?_
          refine tr_ireturn (pc := 52) k_fm_gauge_52 rfl rfl ?_
          exact hv
        · replace hv := hv.2 q
          refine tr_bipush (pc := 15) (v := -6) k_fm_wrong_15 (by decide) ?_
          refine tr_goto (pc := 17) 21 k_fm_wrong_17 (by decide) ?_
          refine tr_ireturn (pc := 21) k_fm_wrong_21 rfl rfl ?_
          show mT g me_fm_gauge (d + 3) 0 0 16 [some (vr 10 0), some (vi x1), some (vi x2), none, none] [vi (-6 : Int32)] h _
          refine tr_goto (pc := 16) 20 k_fm_gauge_16 (by decide) ?_
          refine tr_istore_n (pc := 20) 3 k_fm_gauge_20 rfl (by decide) rfl ?_
          show mT g me_fm_gauge (d + 3) 0 0 21 [some (vr 10 0), some (vi x1), some (vi x2), some (vi (-6 : Int32)), none] [] h _
          refine tr_iload_n (pc := 21) 3 k_fm_gauge_21 rfl rfl ?_
          refine tr_if_eq (pc := 22) 31 k_fm_gauge_22 (by decide) (fun q => absurd q (by decide)) (fun _ => ?_)
          refine tr_aload_n (pc := 25) 0 k_fm_gauge_25 rfl rfl ?_
          refine tr_iload_n (pc := 26) 3 k_fm_gauge_26 rfl rfl ?_
          refine tr_callV (pc := 27) (d' := d + 2) (mc' := 0) (ms' := 0) [vi (-6 : Int32)] k_fm_gauge_27 ca_fm_refuseFar ml_fm_182 ii_fm_refuseFar ⟨by decide, rfl⟩ pa_fm_refuseFar (by omega) (by omega) (by omega) rfl (Nat.le_of_ble_eq_true rfl) (Nat.le_of_ble_eq_true rfl) (Qk := fun v h9 => mT g me_fm_gauge (d + 3) 0 0 30 [some (vr 10 0), some (vi x1), some (vi x2), some (vi (-6 : Int32)), none] (v.toList ++ []) h9 _) ?_ (fun _ _ z => z)
          show mT g me_fm_refuseFar (d + 2) 0 0 0 [some (vr 10 0), some (vi (-6 : Int32))] [] h _
          refine tr_ldc (pc := 0) (v := 1000000000) k_fm_refuseFar_0 co_fm_132 ?_
          refine tr_aload_n (pc := 2) 0 k_fm_refuseFar_2 rfl rfl ?_
          refine tr_iload_n (pc := 3) 1 k_fm_refuseFar_3 rfl rfl ?_
          have hT := hv
          clear hv
          refine tr_callV (pc := 4) (d' := d + 1) (mc' := 0) (ms' := 0) [vi (-6 : Int32)] k_fm_refuseFar_4 ca_fm_refuse ml_fm_133 ii_fm_refuse ⟨by decide, rfl⟩ pa_fm_refuse (by omega) (by omega) (by omega) rfl (Nat.le_of_ble_eq_true rfl) (Nat.le_of_ble_eq_true rfl) hT (fun v h9 hv => ?_)
          clear hT
          obtain ⟨y6, rfl, hv⟩ := hv
          obtain ⟨h5, eh⟩ : ∃ z, z = h9 := ⟨_, rfl⟩
          subst eh
          obtain ⟨hskh5, hv⟩ := hv
          show mT g me_fm_refuseFar (d + 2) 0 0 7 [some (vr 10 0), some (vi (-6 : Int32))] [vi y6, vi (1000000000 : Int32)] h5 _
          refine tr_isub (pc := 7) k_fm_refuseFar_7 ?_
          refine tr_ireturn (pc := 8) k_fm_refuseFar_8 rfl rfl ?_
          show mT g me_fm_gauge (d + 3) 0 0 30 [some (vr 10 0), some (vi x1), some (vi x2), some (vi (-6 : Int32)), none] [vi ((1000000000 : Int32) - y6)] h5 _
          refine tr_ireturn (pc := 30) k_fm_gauge_30 rfl rfl ?_
          exact hv
      · replace hv := hv.2 q
        refine tr_bipush (pc := 5) (v := -4) k_fm_wrong_5 (by decide) ?_
        refine tr_goto (pc := 7) 21 k_fm_wrong_7 (by decide) ?_
        refine tr_ireturn (pc := 21) k_fm_wrong_21 rfl rfl ?_
        show mT g me_fm_gauge (d + 3) 0 0 16 [some (vr 10 0), some (vi x1), some (vi x2), none, none] [vi (-4 : Int32)] h _
        refine tr_goto (pc := 16) 20 k_fm_gauge_16 (by decide) ?_
        refine tr_istore_n (pc := 20) 3 k_fm_gauge_20 rfl (by decide) rfl ?_
        show mT g me_fm_gauge (d + 3) 0 0 21 [some (vr 10 0), some (vi x1), some (vi x2), some (vi (-4 : Int32)), none] [] h _
        refine tr_iload_n (pc := 21) 3 k_fm_gauge_21 rfl rfl ?_
        refine tr_if_eq (pc := 22) 31 k_fm_gauge_22 (by decide) (fun q => absurd q (by decide)) (fun _ => ?_)
        refine tr_aload_n (pc := 25) 0 k_fm_gauge_25 rfl rfl ?_
        refine tr_iload_n (pc := 26) 3 k_fm_gauge_26 rfl rfl ?_
        refine tr_callV (pc := 27) (d' := d + 2) (mc' := 0) (ms' := 0) [vi (-4 : Int32)] k_fm_gauge_27 ca_fm_refuseFar ml_fm_182 ii_fm_refuseFar ⟨by decide, rfl⟩ pa_fm_refuseFar (by omega) (by omega) (by omega) rfl (Nat.le_of_ble_eq_true rfl) (Nat.le_of_ble_eq_true rfl) (Qk := fun v h9 => mT g me_fm_gauge (d + 3) 0 0 30 [some (vr 10 0), some (vi x1), some (vi x2), some (vi (-4 : Int32)), none] (v.toList ++ []) h9 _) ?_ (fun _ _ z => z)
        show mT g me_fm_refuseFar (d + 2) 0 0 0 [some (vr 10 0), some (vi (-4 : Int32))] [] h _
        refine tr_ldc (pc := 0) (v := 1000000000) k_fm_refuseFar_0 co_fm_132 ?_
        refine tr_aload_n (pc := 2) 0 k_fm_refuseFar_2 rfl rfl ?_
        refine tr_iload_n (pc := 3) 1 k_fm_refuseFar_3 rfl rfl ?_
        have hT := hv
        clear hv
        refine tr_callV (pc := 4) (d' := d + 1) (mc' := 0) (ms' := 0) [vi (-4 : Int32)] k_fm_refuseFar_4 ca_fm_refuse ml_fm_133 ii_fm_refuse ⟨by decide, rfl⟩ pa_fm_refuse (by omega) (by omega) (by omega) rfl (Nat.le_of_ble_eq_true rfl) (Nat.le_of_ble_eq_true rfl) hT (fun v h9 hv => ?_)
        clear hT
        obtain ⟨y8, rfl, hv⟩ := hv
        obtain ⟨h7, eh⟩ : ∃ z, z = h9 := ⟨_, rfl⟩
        subst eh
        obtain ⟨hskh7, hv⟩ := hv
        show mT g me_fm_refuseFar (d + 2) 0 0 7 [some (vr 10 0), some (vi (-4 : Int32))] [vi y8, vi (1000000000 : Int32)] h7 _
        refine tr_isub (pc := 7) k_fm_refuseFar_7 ?_
        refine tr_ireturn (pc := 8) k_fm_refuseFar_8 rfl rfl ?_
        show mT g me_fm_gauge (d + 3) 0 0 30 [some (vr 10 0), some (vi x1), some (vi x2), some (vi (-4 : Int32)), none] [vi ((1000000000 : Int32) - y8)] h7 _
        refine tr_ireturn (pc := 30) k_fm_gauge_30 rfl rfl ?_
        exact hv
theorem v_fm_tol_0 {g : mG} {d : Nat} (x1 : Int32) {h : mH} {Q : Option mV → mH → Prop} (hsk : mSK h) (hv : (((0 : Int32) ≤ x1 → ((x1 ≤ (50 : Int32) → Q (some (vi (hI h 10 0 7))) (setI (setI h 10 0 7 x1) 10 0 55 (0 : Int32))) ∧ (¬ x1 ≤ (50 : Int32) → mT g me_fm_refuse (d + 1) 0 0 0 [some (vr 10 0), some (vi (-6 : Int32))] [] h (fun v h1 => ∃ y2, v = some (vi y2) ∧ mSK h1 ∧ Q (some (vi y2)) h1)))) ∧ (¬ (0 : Int32) ≤ x1 → mT g me_fm_refuse (d + 1) 0 0 0 [some (vr 10 0), some (vi (-4 : Int32))] [] h (fun v h3 => ∃ y4, v = some (vi y4) ∧ mSK h3 ∧ Q (some (vi y4)) h3)))) : mT g me_fm_tol (d + 2) 0 0 0 [some (vr 10 0), some (vi x1), none, none] [] h Q := by
  refine tr_iload_n (pc := 0) 1 k_fm_tol_0 rfl rfl ?_
  refine tr_iconst (pc := 1) (v := 0) k_fm_tol_1 (by decide) ?_
  refine tr_bipush (pc := 2) (v := 50) k_fm_tol_2 (by decide) ?_
  refine tr_callS (pc := 4) (d' := d + 1) (mc' := 0) (ms' := 0) [vi x1, vi (0 : Int32), vi (50 : Int32)] k_fm_tol_4 ca_fm_wrong ml_fm_148 is_fm_wrong pa_fm_wrong (by omega) (by omega) (by omega) rfl (Nat.le_of_ble_eq_true rfl) (Nat.le_of_ble_eq_true rfl) (Qk := fun v h9 => mT g me_fm_tol (d + 2) 0 0 7 [some (vr 10 0), some (vi x1), none, none] (v.toList ++ []) h9 _) ?_ (fun _ _ z => z)
  show mT g me_fm_wrong (d + 1) 0 0 0 [some (vi x1), some (vi (0 : Int32)), some (vi (50 : Int32))] [] h _
  refine tr_iload_n (pc := 0) 0 k_fm_wrong_0 rfl rfl ?_
  refine tr_iload_n (pc := 1) 1 k_fm_wrong_1 rfl rfl ?_
  refine tr_icmp_ge (pc := 2) 10 k_fm_wrong_2 (by decide) (fun q => ?_) (fun q => ?_)
  · replace hv := hv.1 q
    refine tr_iload_n (pc := 10) 0 k_fm_wrong_10 rfl rfl ?_
    refine tr_iload_n (pc := 11) 2 k_fm_wrong_11 rfl rfl ?_
    refine tr_icmp_le (pc := 12) 20 k_fm_wrong_12 (by decide) (fun q => ?_) (fun q => ?_)
    · replace hv := hv.1 q
      refine tr_iconst (pc := 20) (v := 0) k_fm_wrong_20 (by decide) ?_
      refine tr_ireturn (pc := 21) k_fm_wrong_21 rfl rfl ?_
      show mT g me_fm_tol (d + 2) 0 0 7 [some (vr 10 0), some (vi x1), none, none] [vi (0 : Int32)] h _
      refine tr_istore_n (pc := 7) 2 k_fm_tol_7 rfl (by decide) rfl ?_
      show mT g me_fm_tol (d + 2) 0 0 8 [some (vr 10 0), some (vi x1), some (vi (0 : Int32)), none] [] h _
      refine tr_iload_n (pc := 8) 2 k_fm_tol_8 rfl rfl ?_
      refine tr_if_eq (pc := 9) 18 k_fm_tol_9 (by decide) (fun _ => ?_) (fun q => absurd q (by decide))
      refine tr_aload_n (pc := 18) 0 k_fm_tol_18 rfl rfl ?_
      refine tr_getIx (pc := 19) k_fm_tol_19 fl_fm_267 rfl rfl ?_
      refine tr_istore_n (pc := 22) 3 k_fm_tol_22 rfl (by decide) rfl ?_
      show mT g me_fm_tol (d + 2) 0 0 23 [some (vr 10 0), some (vi x1), some (vi (0 : Int32)), some (vi (hI h 10 0 7))] [] h _
      refine tr_aload_n (pc := 23) 0 k_fm_tol_23 rfl rfl ?_
      refine tr_iload_n (pc := 24) 1 k_fm_tol_24 rfl rfl ?_
      refine tr_putI (pc := 25) k_fm_tol_25 fl_fm_267 (Or.inl rfl) rfl ⟨rfl, rfl⟩ ?_
      refine tr_aload_n (pc := 28) 0 k_fm_tol_28 rfl rfl ?_
      refine tr_callV (pc := 29) (d' := d + 1) (mc' := 0) (ms' := 0) [] k_fm_tol_29 ca_fm_changes ml_fm_152 ii_fm_changes ⟨by decide, rfl⟩ pa_fm_changes (by omega) (by omega) (by omega) rfl (Nat.le_of_ble_eq_true rfl) (Nat.le_of_ble_eq_true rfl) (Qk := fun v h9 => mT g me_fm_tol (d + 2) 0 0 32 [some (vr 10 0), some (vi x1), some (vi (0 : Int32)), some (vi (hI h 10 0 7))] (v.toList ++ []) h9 _) ?_ (fun _ _ z => z)
      show mT g me_fm_changes (d + 1) 0 0 0 [some (vr 10 0)] [] (setI h 10 0 7 x1) _
      refine tr_aload_n (pc := 0) 0 k_fm_changes_0 rfl rfl ?_
      refine tr_iconst (pc := 1) (v := 0) k_fm_changes_1 (by decide) ?_
      refine tr_putI (pc := 2) k_fm_changes_2 fl_fm_137 (Or.inl rfl) rfl ⟨rfl, rfl⟩ ?_
      refine tr_return (pc := 5) k_fm_changes_5 rfl ?_
      show mT g me_fm_tol (d + 2) 0 0 32 [some (vr 10 0), some (vi x1), some (vi (0 : Int32)), some (vi (hI h 10 0 7))] [] (setI (setI h 10 0 7 x1) 10 0 55 (0 : Int32)) _
      refine tr_iload_n (pc := 32) 3 k_fm_tol_32 rfl rfl ?_
      refine tr_ireturn (pc := 33) k_fm_tol_33 rfl rfl ?_
      exact hv
    · replace hv := hv.2 q
      refine tr_bipush (pc := 15) (v := -6) k_fm_wrong_15 (by decide) ?_
      refine tr_goto (pc := 17) 21 k_fm_wrong_17 (by decide) ?_
      refine tr_ireturn (pc := 21) k_fm_wrong_21 rfl rfl ?_
      show mT g me_fm_tol (d + 2) 0 0 7 [some (vr 10 0), some (vi x1), none, none] [vi (-6 : Int32)] h _
      refine tr_istore_n (pc := 7) 2 k_fm_tol_7 rfl (by decide) rfl ?_
      show mT g me_fm_tol (d + 2) 0 0 8 [some (vr 10 0), some (vi x1), some (vi (-6 : Int32)), none] [] h _
      refine tr_iload_n (pc := 8) 2 k_fm_tol_8 rfl rfl ?_
      refine tr_if_eq (pc := 9) 18 k_fm_tol_9 (by decide) (fun q => absurd q (by decide)) (fun _ => ?_)
      refine tr_aload_n (pc := 12) 0 k_fm_tol_12 rfl rfl ?_
      refine tr_iload_n (pc := 13) 2 k_fm_tol_13 rfl rfl ?_
      have hT := hv
      clear hv
      refine tr_callV (pc := 14) (d' := d + 1) (mc' := 0) (ms' := 0) [vi (-6 : Int32)] k_fm_tol_14 ca_fm_refuse ml_fm_133 ii_fm_refuse ⟨by decide, rfl⟩ pa_fm_refuse (by omega) (by omega) (by omega) rfl (Nat.le_of_ble_eq_true rfl) (Nat.le_of_ble_eq_true rfl) hT (fun v h9 hv => ?_)
      clear hT
      obtain ⟨y2, rfl, hv⟩ := hv
      obtain ⟨h1, eh⟩ : ∃ z, z = h9 := ⟨_, rfl⟩
      subst eh
      obtain ⟨hskh1, hv⟩ := hv
      show mT g me_fm_tol (d + 2) 0 0 17 [some (vr 10 0), some (vi x1), some (vi (-6 : Int32)), none] [vi y2] h1 _
      refine tr_ireturn (pc := 17) k_fm_tol_17 rfl rfl ?_
      exact hv
  · replace hv := hv.2 q
    refine tr_bipush (pc := 5) (v := -4) k_fm_wrong_5 (by decide) ?_
    refine tr_goto (pc := 7) 21 k_fm_wrong_7 (by decide) ?_
    refine tr_ireturn (pc := 21) k_fm_wrong_21 rfl rfl ?_
    show mT g me_fm_tol (d + 2) 0 0 7 [some (vr 10 0), some (vi x1), none, none] [vi (-4 : Int32)] h _
    refine tr_istore_n (pc := 7) 2 k_fm_tol_7 rfl (by decide) rfl ?_
    show mT g me_fm_tol (d + 2) 0 0 8 [some (vr 10 0), some (vi x1), some (vi (-4 : Int32)), none] [] h _
    refine tr_iload_n (pc := 8) 2 k_fm_tol_8 rfl rfl ?_
    refine tr_if_eq (pc := 9) 18 k_fm_tol_9 (by decide) (fun q => absurd q (by decide)) (fun _ => ?_)
    refine tr_aload_n (pc := 12) 0 k_fm_tol_12 rfl rfl ?_
    refine tr_iload_n (pc := 13) 2 k_fm_tol_13 rfl rfl ?_
    have hT := hv
    clear hv
    refine tr_callV (pc := 14) (d' := d + 1) (mc' := 0) (ms' := 0) [vi (-4 : Int32)] k_fm_tol_14 ca_fm_refuse ml_fm_133 ii_fm_refuse ⟨by decide, rfl⟩ pa_fm_refuse (by omega) (by omega) (by omega) rfl (Nat.le_of_ble_eq_true rfl) (Nat.le_of_ble_eq_true rfl) hT (fun v h9 hv => ?_)
    clear hT
    obtain ⟨y4, rfl, hv⟩ := hv
    obtain ⟨h3, eh⟩ : ∃ z, z = h9 := ⟨_, rfl⟩
    subst eh
    obtain ⟨hskh3, hv⟩ := hv
    show mT g me_fm_tol (d + 2) 0 0 17 [some (vr 10 0), some (vi x1), some (vi (-4 : Int32)), none] [vi y4] h3 _
    refine tr_ireturn (pc := 17) k_fm_tol_17 rfl rfl ?_
    exact hv
theorem v_fm_explain_0 {g : mG} {d : Nat}  {h : mH} {Q : Option mV → mH → Prop} (hsk : mSK h) (hv : mT g me_fm_look (d + 4) 0 0 0 [some (vr 10 0), none, none, none, none] [] h (fun v h1 => v = none ∧ mSK h1 ∧ Q (some (vi (hI h1 10 0 56))) h1)) : mT g me_fm_explain (d + 5) 0 0 0 [some (vr 10 0)] [] h Q := by
  refine tr_aload_n (pc := 0) 0 k_fm_explain_0 rfl rfl ?_
  have hT := hv
  clear hv
  refine tr_callV (pc := 1) (d' := d + 4) (mc' := 0) (ms' := 0) [] k_fm_explain_1 ca_fm_look ml_fm_295 ii_fm_look ⟨by decide, rfl⟩ pa_fm_look (by omega) (by omega) (by omega) rfl (Nat.le_of_ble_eq_true rfl) (Nat.le_of_ble_eq_true rfl) hT (fun v h9 hv => ?_)
  clear hT
  obtain ⟨rfl, hv⟩ := hv
  obtain ⟨h1, eh⟩ : ∃ z, z = h9 := ⟨_, rfl⟩
  subst eh
  obtain ⟨hskh1, hv⟩ := hv
  show mT g me_fm_explain (d + 5) 0 0 4 [some (vr 10 0)] [] h1 _
  refine tr_aload_n (pc := 4) 0 k_fm_explain_4 rfl rfl ?_
  refine tr_getIx (pc := 5) k_fm_explain_5 fl_fm_270 rfl rfl ?_
  refine tr_ireturn (pc := 8) k_fm_explain_8 rfl rfl ?_
  exact hv
theorem v_fm_look_0 {g : mG} {d : Nat}  {h : mH} {Q : Option mV → mH → Prop} (hsk : mSK h) (hv : (((hI h 10 0 55) = 0 → mT g me_fm_look (d + 4) 0 0 51 [some (vr 10 0), some (vi (0 : Int32)), some (vi (0 : Int32)), none, none] [] (setI (setI (setI (setI (setI (setI (setI h 10 0 55 (1 : Int32)) 10 0 56 (4 : Int32)) 10 0 57 (-9 : Int32)) 10 0 58 (-9 : Int32)) 10 0 59 (-9 : Int32)) 10 0 60 (-9 : Int32)) 10 0 61 (0 : Int32)) Q) ∧ (¬ (hI h 10 0 55) = 0 → Q none h))) : mT g me_fm_look (d + 4) 0 0 0 [some (vr 10 0), none, none, none, none] [] h Q := by
  refine tr_aload_n (pc := 0) 0 k_fm_look_0 rfl rfl ?_
  refine tr_getIx (pc := 1) k_fm_look_1 fl_fm_137 rfl rfl ?_
  refine tr_if_eq (pc := 4) 8 k_fm_look_4 (by decide) (fun q => ?_) (fun q => ?_)
  · replace hv := hv.1 q
    refine tr_aload_n (pc := 8) 0 k_fm_look_8 rfl rfl ?_
    refine tr_iconst (pc := 9) (v := 1) k_fm_look_9 (by decide) ?_
    refine tr_putI (pc := 10) k_fm_look_10 fl_fm_137 (Or.inl rfl) rfl ⟨rfl, rfl⟩ ?_
    refine tr_aload_n (pc := 13) 0 k_fm_look_13 rfl rfl ?_
    refine tr_iconst (pc := 14) (v := 4) k_fm_look_14 (by decide) ?_
    refine tr_putI (pc := 15) k_fm_look_15 fl_fm_270 (Or.inl rfl) rfl ⟨rfl, rfl⟩ ?_
    refine tr_aload_n (pc := 18) 0 k_fm_look_18 rfl rfl ?_
    refine tr_bipush (pc := 19) (v := -9) k_fm_look_19 (by decide) ?_
    refine tr_putI (pc := 21) k_fm_look_21 fl_fm_273 (Or.inl rfl) rfl ⟨rfl, rfl⟩ ?_
    refine tr_aload_n (pc := 24) 0 k_fm_look_24 rfl rfl ?_
    refine tr_bipush (pc := 25) (v := -9) k_fm_look_25 (by decide) ?_
    refine tr_putI (pc := 27) k_fm_look_27 fl_fm_276 (Or.inl rfl) rfl ⟨rfl, rfl⟩ ?_
    refine tr_aload_n (pc := 30) 0 k_fm_look_30 rfl rfl ?_
    refine tr_bipush (pc := 31) (v := -9) k_fm_look_31 (by decide) ?_
    refine tr_putI (pc := 33) k_fm_look_33 fl_fm_279 (Or.inl rfl) rfl ⟨rfl, rfl⟩ ?_
    refine tr_aload_n (pc := 36) 0 k_fm_look_36 rfl rfl ?_
    refine tr_bipush (pc := 37) (v := -9) k_fm_look_37 (by decide) ?_
    refine tr_putI (pc := 39) k_fm_look_39 fl_fm_282 (Or.inl rfl) rfl ⟨rfl, rfl⟩ ?_
    refine tr_aload_n (pc := 42) 0 k_fm_look_42 rfl rfl ?_
    refine tr_iconst (pc := 43) (v := 0) k_fm_look_43 (by decide) ?_
    refine tr_putI (pc := 44) k_fm_look_44 fl_fm_285 (Or.inl rfl) rfl ⟨rfl, rfl⟩ ?_
    refine tr_iconst (pc := 47) (v := 0) k_fm_look_47 (by decide) ?_
    refine tr_istore_n (pc := 48) 1 k_fm_look_48 rfl (by decide) rfl ?_
    show mT g me_fm_look (d + 4) 0 0 49 [some (vr 10 0), some (vi (0 : Int32)), none, none, none] [] (setI (setI (setI (setI (setI (setI (setI h 10 0 55 (1 : Int32)) 10 0 56 (4 : Int32)) 10 0 57 (-9 : Int32)) 10 0 58 (-9 : Int32)) 10 0 59 (-9 : Int32)) 10 0 60 (-9 : Int32)) 10 0 61 (0 : Int32)) _
    refine tr_iconst (pc := 49) (v := 0) k_fm_look_49 (by decide) ?_
    refine tr_istore_n (pc := 50) 2 k_fm_look_50 rfl (by decide) rfl ?_
    show mT g me_fm_look (d + 4) 0 0 51 [some (vr 10 0), some (vi (0 : Int32)), some (vi (0 : Int32)), none, none] [] (setI (setI (setI (setI (setI (setI (setI h 10 0 55 (1 : Int32)) 10 0 56 (4 : Int32)) 10 0 57 (-9 : Int32)) 10 0 58 (-9 : Int32)) 10 0 59 (-9 : Int32)) 10 0 60 (-9 : Int32)) 10 0 61 (0 : Int32)) _
    exact hv
  · replace hv := hv.2 q
    refine tr_return (pc := 7) k_fm_look_7 rfl ?_
    exact hv
theorem v_fm_look_51 {g : mG} {d : Nat} (x1 : Int32) (x2 : Int32) (o3 : Option mV) (o4 : Option mV) {h : mH} {Q : Option mV → mH → Prop} (hsk : mSK h) (hv : (((hI h 10 0 4) ≤ x2 → ((¬ x1 = 0 → mT g me_fm_asItIs (d + 3) 0 0 0 [some (vr 10 0), none] [] h (fun v h1 => v = none ∧ mSK h1 ∧ mT g me_fm_look (d + 4) 0 0 95 [some (vr 10 0), some (vi x1), some (vi (0 : Int32)), o3, o4] [] h1 Q)) ∧ (x1 = 0 → Q none h))) ∧ (¬ (hI h 10 0 4) ≤ x2 → ((¬ x1 = 0 → mT g me_fm_look (d + 4) 0 0 51 [some (vr 10 0), some (vi (1 : Int32)), some (vi (x2 + 1)), o3, o4] [] h Q) ∧ (x1 = 0 → (vp_in x2 24 ∧ (((hI h 11 23 x2.toNatClampNeg) < 0 → mT g me_fm_look (d + 4) 0 0 51 [some (vr 10 0), some (vi (0 : Int32)), some (vi (x2 + 1)), o3, o4] [] h Q) ∧ (¬ (hI h 11 23 x2.toNatClampNeg) < 0 → mT g me_fm_look (d + 4) 0 0 51 [some (vr 10 0), some (vi (1 : Int32)), some (vi (x2 + 1)), o3, o4] [] h Q)))))))) : mT g me_fm_look (d + 4) 0 0 51 [some (vr 10 0), some (vi x1), some (vi x2), o3, o4] [] h Q := by
  refine tr_iload_n (pc := 51) 2 k_fm_look_51 rfl rfl ?_
  refine tr_aload_n (pc := 52) 0 k_fm_look_52 rfl rfl ?_
  refine tr_getIx (pc := 53) k_fm_look_53 fl_fm_158 rfl rfl ?_
  refine tr_icmp_ge (pc := 56) 84 k_fm_look_56 (by decide) (fun q => ?_) (fun q => ?_)
  · replace hv := hv.1 q
    refine tr_iload_n (pc := 84) 1 k_fm_look_84 rfl rfl ?_
    refine tr_if_ne (pc := 85) 89 k_fm_look_85 (by decide) (fun q => ?_) (fun q => ?_)
    · replace hv := hv.1 q
      refine tr_aload_n (pc := 89) 0 k_fm_look_89 rfl rfl ?_
      have hT := hv
      clear hv
      refine tr_callV (pc := 90) (d' := d + 3) (mc' := 0) (ms' := 0) [] k_fm_look_90 ca_fm_asItIs ml_fm_173 ii_fm_asItIs ⟨by decide, rfl⟩ pa_fm_asItIs (by omega) (by omega) (by omega) rfl (Nat.le_of_ble_eq_true rfl) (Nat.le_of_ble_eq_true rfl) hT (fun v h9 hv => ?_)
      clear hT
      obtain ⟨rfl, hv⟩ := hv
      obtain ⟨h1, eh⟩ : ∃ z, z = h9 := ⟨_, rfl⟩
      subst eh
      obtain ⟨hskh1, hv⟩ := hv
      show mT g me_fm_look (d + 4) 0 0 93 [some (vr 10 0), some (vi x1), some (vi x2), o3, o4] [] h1 _
      refine tr_iconst (pc := 93) (v := 0) k_fm_look_93 (by decide) ?_
      refine tr_istore_n (pc := 94) 2 k_fm_look_94 rfl (by decide) rfl ?_
      show mT g me_fm_look (d + 4) 0 0 95 [some (vr 10 0), some (vi x1), some (vi (0 : Int32)), o3, o4] [] h1 _
      exact hv
    · replace hv := hv.2 q
      refine tr_return (pc := 88) k_fm_look_88 rfl ?_
      exact hv
  · replace hv := hv.2 q
    refine tr_iload_n (pc := 59) 1 k_fm_look_59 rfl rfl ?_
    refine tr_if_ne (pc := 60) 72 k_fm_look_60 (by decide) (fun q => ?_) (fun q => ?_)
    · replace hv := hv.1 q
      refine tr_iconst (pc := 72) (v := 1) k_fm_look_72 (by decide) ?_
      refine tr_goto (pc := 73) 77 k_fm_look_73 (by decide) ?_
      refine tr_istore_n (pc := 77) 1 k_fm_look_77 rfl (by decide) rfl ?_
      show mT g me_fm_look (d + 4) 0 0 78 [some (vr 10 0), some (vi (1 : Int32)), some (vi x2), o3, o4] [] h _
      refine tr_iinc (pc := 78) (v := (x2 + 1)) k_fm_look_78 rfl rfl (by decide) rfl ?_
      show mT g me_fm_look (d + 4) 0 0 81 [some (vr 10 0), some (vi (1 : Int32)), some (vi (x2 + 1)), o3, o4] [] h _
      refine tr_goto (pc := 81) 51 k_fm_look_81 (by decide) ?_
      exact hv
    · replace hv := hv.2 q
      refine tr_aload_n (pc := 63) 0 k_fm_look_63 rfl rfl ?_
      refine tr_getP (pc := 64) k_fm_look_64 fl_fm_69 rfl (Eq.trans rfl (hsk.1 10 25 _ rfl)) ?_
      refine tr_iload_n (pc := 67) 2 k_fm_look_67 rfl rfl ?_
      refine tr_ialdx (pc := 68) k_fm_look_68 (mvin (hsk.2.1 11 23 _ rfl) hv.1) rfl ?_
      replace hv := hv.2
      refine tr_if_lt (pc := 69) 76 k_fm_look_69 (by decide) (fun q => ?_) (fun q => ?_)
      · replace hv := hv.1 q
        refine tr_iconst (pc := 76) (v := 0) k_fm_look_76 (by decide) ?_
        refine tr_istore_n (pc := 77) 1 k_fm_look_77 rfl (by decide) rfl ?_
        show mT g me_fm_look (d + 4) 0 0 78 [some (vr 10 0), some (vi (0 : Int32)), some (vi x2), o3, o4] [] h _
        refine tr_iinc (pc := 78) (v := (x2 + 1)) k_fm_look_78 rfl rfl (by decide) rfl ?_
        show mT g me_fm_look (d + 4) 0 0 81 [some (vr 10 0), some (vi (0 : Int32)), some (vi (x2 + 1)), o3, o4] [] h _
        refine tr_goto (pc := 81) 51 k_fm_look_81 (by decide) ?_
        exact hv
      · replace hv := hv.2 q
        refine tr_iconst (pc := 72) (v := 1) k_fm_look_72 (by decide) ?_
        refine tr_goto (pc := 73) 77 k_fm_look_73 (by decide) ?_
        refine tr_istore_n (pc := 77) 1 k_fm_look_77 rfl (by decide) rfl ?_
        show mT g me_fm_look (d + 4) 0 0 78 [some (vr 10 0), some (vi (1 : Int32)), some (vi x2), o3, o4] [] h _
        refine tr_iinc (pc := 78) (v := (x2 + 1)) k_fm_look_78 rfl rfl (by decide) rfl ?_
        show mT g me_fm_look (d + 4) 0 0 81 [some (vr 10 0), some (vi (1 : Int32)), some (vi (x2 + 1)), o3, o4] [] h _
        refine tr_goto (pc := 81) 51 k_fm_look_81 (by decide) ?_
        exact hv
theorem v_fm_look_95 {g : mG} {d : Nat} (x1 : Int32) (x2 : Int32) (o3 : Option mV) (o4 : Option mV) {h : mH} {Q : Option mV → mH → Prop} (hsk : mSK h) (hv : (((hI h 10 0 3) ≤ x2 → mT g me_fm_explains (d + 3) 0 0 0 [some (vr 10 0), none, none] [] h (fun v h1 => ∃ y2, v = some (vi y2) ∧ mSK h1 ∧ ((y2 = 0 → mT g me_fm_look (d + 4) 0 0 134 [some (vr 10 0), some (vi x1), some (vi (0 : Int32)), o3, o4] [] (setI h1 10 0 56 (3 : Int32)) Q) ∧ (¬ y2 = 0 → mT g me_fm_look (d + 4) 0 0 134 [some (vr 10 0), some (vi x1), some (vi (0 : Int32)), o3, o4] [] (setI h1 10 0 56 (0 : Int32)) Q)))) ∧ (¬ (hI h 10 0 3) ≤ x2 → (vp_in x2 30 ∧ mT g me_fm_look (d + 4) 0 0 95 [some (vr 10 0), some (vi x1), some (vi (x2 + 1)), o3, o4] [] (setI h 11 28 x2.toNatClampNeg (0 : Int32)) Q)))) : mT g me_fm_look (d + 4) 0 0 95 [some (vr 10 0), some (vi x1), some (vi x2), o3, o4] [] h Q := by
  refine tr_iload_n (pc := 95) 2 k_fm_look_95 rfl rfl ?_
  refine tr_aload_n (pc := 96) 0 k_fm_look_96 rfl rfl ?_
  refine tr_getIx (pc := 97) k_fm_look_97 fl_fm_155 rfl rfl ?_
  refine tr_icmp_ge (pc := 100) 116 k_fm_look_100 (by decide) (fun q => ?_) (fun q => ?_)
  · replace hv := hv.1 q
    refine tr_aload_n (pc := 116) 0 k_fm_look_116 rfl rfl ?_
    refine tr_aload_n (pc := 117) 0 k_fm_look_117 rfl rfl ?_
    have hT := hv
    clear hv
    refine tr_callV (pc := 118) (d' := d + 3) (mc' := 0) (ms' := 0) [] k_fm_look_118 ca_fm_explains ml_fm_288 ii_fm_explains ⟨by decide, rfl⟩ pa_fm_explains (by omega) (by omega) (by omega) rfl (Nat.le_of_ble_eq_true rfl) (Nat.le_of_ble_eq_true rfl) hT (fun v h9 hv => ?_)
    clear hT
    obtain ⟨y2, rfl, hv⟩ := hv
    obtain ⟨h1, eh⟩ : ∃ z, z = h9 := ⟨_, rfl⟩
    subst eh
    obtain ⟨hskh1, hv⟩ := hv
    show mT g me_fm_look (d + 4) 0 0 121 [some (vr 10 0), some (vi x1), some (vi x2), o3, o4] [vi y2, vr 10 0] h1 _
    refine tr_if_eq (pc := 121) 128 k_fm_look_121 (by decide) (fun q => ?_) (fun q => ?_)
    · replace hv := hv.1 q
      refine tr_iconst (pc := 128) (v := 3) k_fm_look_128 (by decide) ?_
      refine tr_putI (pc := 129) k_fm_look_129 fl_fm_270 (Or.inl rfl) rfl ⟨rfl, rfl⟩ ?_
      refine tr_iconst (pc := 132) (v := 0) k_fm_look_132 (by decide) ?_
      refine tr_istore_n (pc := 133) 2 k_fm_look_133 rfl (by decide) rfl ?_
      show mT g me_fm_look (d + 4) 0 0 134 [some (vr 10 0), some (vi x1), some (vi (0 : Int32)), o3, o4] [] (setI h1 10 0 56 (3 : Int32)) _
      exact hv
    · replace hv := hv.2 q
      refine tr_iconst (pc := 124) (v := 0) k_fm_look_124 (by decide) ?_
      refine tr_goto (pc := 125) 129 k_fm_look_125 (by decide) ?_
      refine tr_putI (pc := 129) k_fm_look_129 fl_fm_270 (Or.inl rfl) rfl ⟨rfl, rfl⟩ ?_
      refine tr_iconst (pc := 132) (v := 0) k_fm_look_132 (by decide) ?_
      refine tr_istore_n (pc := 133) 2 k_fm_look_133 rfl (by decide) rfl ?_
      show mT g me_fm_look (d + 4) 0 0 134 [some (vr 10 0), some (vi x1), some (vi (0 : Int32)), o3, o4] [] (setI h1 10 0 56 (0 : Int32)) _
      exact hv
  · replace hv := hv.2 q
    refine tr_aload_n (pc := 103) 0 k_fm_look_103 rfl rfl ?_
    refine tr_getP (pc := 104) k_fm_look_104 fl_fm_87 rfl (Eq.trans rfl (hsk.1 10 31 _ rfl)) ?_
    refine tr_iload_n (pc := 107) 2 k_fm_look_107 rfl rfl ?_
    refine tr_iconst (pc := 108) (v := 0) k_fm_look_108 (by decide) ?_
    refine tr_iast (pc := 109) k_fm_look_109 (mvin (hsk.2.1 11 28 _ rfl) hv.1) ?_
    replace hv := hv.2
    refine tr_iinc (pc := 110) (v := (x2 + 1)) k_fm_look_110 rfl rfl (by decide) rfl ?_
    show mT g me_fm_look (d + 4) 0 0 113 [some (vr 10 0), some (vi x1), some (vi (x2 + 1)), o3, o4] [] (setI h 11 28 x2.toNatClampNeg (0 : Int32)) _
    refine tr_goto (pc := 113) 95 k_fm_look_113 (by decide) ?_
    exact hv
theorem v_fm_look_134 {g : mG} {d : Nat} (x1 : Int32) (x2 : Int32) (o3 : Option mV) (o4 : Option mV) {h : mH} {Q : Option mV → mH → Prop} (hsk : mSK h) (hv : (((hI h 10 0 3) ≤ x2 → mT g me_fm_look (d + 4) 0 0 238 [some (vr 10 0), some (vi x1), some (vi (0 : Int32)), o3, o4] [] h Q) ∧ (¬ (hI h 10 0 3) ≤ x2 → mT g me_fm_look (d + 4) 0 0 147 [some (vr 10 0), some (vi x1), some (vi x2), some (vi (0 : Int32)), some (vi (1 : Int32))] [] h Q))) : mT g me_fm_look (d + 4) 0 0 134 [some (vr 10 0), some (vi x1), some (vi x2), o3, o4] [] h Q := by
  refine tr_iload_n (pc := 134) 2 k_fm_look_134 rfl rfl ?_
  refine tr_aload_n (pc := 135) 0 k_fm_look_135 rfl rfl ?_
  refine tr_getIx (pc := 136) k_fm_look_136 fl_fm_155 rfl rfl ?_
  refine tr_icmp_ge (pc := 139) 236 k_fm_look_139 (by decide) (fun q => ?_) (fun q => ?_)
  · replace hv := hv.1 q
    refine tr_iconst (pc := 236) (v := 0) k_fm_look_236 (by decide) ?_
    refine tr_istore_n (pc := 237) 2 k_fm_look_237 rfl (by decide) rfl ?_
    show mT g me_fm_look (d + 4) 0 0 238 [some (vr 10 0), some (vi x1), some (vi (0 : Int32)), o3, o4] [] h _
    exact hv
  · replace hv := hv.2 q
    refine tr_iconst (pc := 142) (v := 0) k_fm_look_142 (by decide) ?_
    refine tr_istore_n (pc := 143) 3 k_fm_look_143 rfl (by decide) rfl ?_
    show mT g me_fm_look (d + 4) 0 0 144 [some (vr 10 0), some (vi x1), some (vi x2), some (vi (0 : Int32)), o4] [] h _
    refine tr_iconst (pc := 144) (v := 1) k_fm_look_144 (by decide) ?_
    refine tr_istore (pc := 145) k_fm_look_145 (by decide) rfl ?_
    show mT g me_fm_look (d + 4) 0 0 147 [some (vr 10 0), some (vi x1), some (vi x2), some (vi (0 : Int32)), some (vi (1 : Int32))] [] h _
    exact hv
theorem v_fm_look_147 {g : mG} {d : Nat} (x1 : Int32) (x2 : Int32) (x3 : Int32) (x4 : Int32) {h : mH} {Q : Option mV → mH → Prop} (hsk : mSK h) (hv : (((60 : Int32) < x4 → ((x3 = 0 → ((x3 = 0 → (vp_in x2 30 ∧ mT g me_fm_look (d + 4) 0 0 134 [some (vr 10 0), some (vi x1), some (vi (x2 + 1)), some (vi x3), some (vi x4)] [] (setI h 11 28 x2.toNatClampNeg (0 : Int32)) Q)) ∧ (¬ x3 = 0 → ((¬ (hI h 10 0 56) = (3 : Int32) → (vp_in x2 30 ∧ mT g me_fm_look (d + 4) 0 0 134 [some (vr 10 0), some (vi x1), some (vi (x2 + 1)), some (vi x3), some (vi x4)] [] (setI h 11 28 x2.toNatClampNeg (0 : Int32)) Q)) ∧ ((hI h 10 0 56) = (3 : Int32) → (vp_in x2 30 ∧ (vp_in x2 30 ∧ mT g me_fm_look (d + 4) 0 0 134 [some (vr 10 0), some (vi x1), some (vi (x2 + 1)), some (vi x3), some (vi x4)] [] (setI (setI (setI (setI h 10 0 56 (1 : Int32)) 10 0 57 x2) 10 0 58 (hI h 11 28 x2.toNatClampNeg)) 11 28 x2.toNatClampNeg (0 : Int32)) Q))))))) ∧ (¬ x3 = 0 → ((x3 = 0 → (vp_in x2 30 ∧ mT g me_fm_look (d + 4) 0 0 134 [some (vr 10 0), some (vi x1), some (vi (x2 + 1)), some (vi x3), some (vi x4)] [] (setI (setI h 10 0 61 ((hI h 10 0 61) + (1 : Int32))) 11 28 x2.toNatClampNeg (0 : Int32)) Q)) ∧ (¬ x3 = 0 → ((¬ (hI h 10 0 56) = (3 : Int32) → (vp_in x2 30 ∧ mT g me_fm_look (d + 4) 0 0 134 [some (vr 10 0), some (vi x1), some (vi (x2 + 1)), some (vi x3), some (vi x4)] [] (setI (setI h 10 0 61 ((hI h 10 0 61) + (1 : Int32))) 11 28 x2.toNatClampNeg (0 : Int32)) Q)) ∧ ((hI h 10 0 56) = (3 : Int32) → (vp_in x2 30 ∧ (vp_in x2 30 ∧ mT g me_fm_look (d + 4) 0 0 134 [some (vr 10 0), some (vi x1), some (vi (x2 + 1)), some (vi x3), some (vi x4)] [] (setI (setI (setI (setI (setI h 10 0 61 ((hI h 10 0 61) + (1 : Int32))) 10 0 56 (1 : Int32)) 10 0 57 x2) 10 0 58 (hI h 11 28 x2.toNatClampNeg)) 11 28 x2.toNatClampNeg (0 : Int32)) Q))))))))) ∧ (¬ (60 : Int32) < x4 → ((¬ x3 = 0 → ((x3 = 0 → ((x3 = 0 → (vp_in x2 30 ∧ mT g me_fm_look (d + 4) 0 0 134 [some (vr 10 0), some (vi x1), some (vi (x2 + 1)), some (vi x3), some (vi x4)] [] (setI h 11 28 x2.toNatClampNeg (0 : Int32)) Q)) ∧ (¬ x3 = 0 → ((¬ (hI h 10 0 56) = (3 : Int32) → (vp_in x2 30 ∧ mT g me_fm_look (d + 4) 0 0 134 [some (vr 10 0), some (vi x1), some (vi (x2 + 1)), some (vi x3), some (vi x4)] [] (setI h 11 28 x2.toNatClampNeg (0 : Int32)) Q)) ∧ ((hI h 10 0 56) = (3 : Int32) → (vp_in x2 30 ∧ (vp_in x2 30 ∧ mT g me_fm_look (d + 4) 0 0 134 [some (vr 10 0), some (vi x1), some (vi (x2 + 1)), some (vi x3), some (vi x4)] [] (setI (setI (setI (setI h 10 0 56 (1 : Int32)) 10 0 57 x2) 10 0 58 (hI h 11 28 x2.toNatClampNeg)) 11 28 x2.toNatClampNeg (0 : Int32)) Q))))))) ∧ (¬ x3 = 0 → ((x3 = 0 → (vp_in x2 30 ∧ mT g me_fm_look (d + 4) 0 0 134 [some (vr 10 0), some (vi x1), some (vi (x2 + 1)), some (vi x3), some (vi x4)] [] (setI (setI h 10 0 61 ((hI h 10 0 61) + (1 : Int32))) 11 28 x2.toNatClampNeg (0 : Int32)) Q)) ∧ (¬ x3 = 0 → ((¬ (hI h 10 0 56) = (3 : Int32) → (vp_in x2 30 ∧ mT g me_fm_look (d + 4) 0 0 134 [some (vr 10 0), some (vi x1), some (vi (x2 + 1)), some (vi x3), some (vi x4)] [] (setI (setI h 10 0 61 ((hI h 10 0 61) + (1 : Int32))) 11 28 x2.toNatClampNeg (0 : Int32)) Q)) ∧ ((hI h 10 0 56) = (3 : Int32) → (vp_in x2 30 ∧ (vp_in x2 30 ∧ mT g me_fm_look (d + 4) 0 0 134 [some (vr 10 0), some (vi x1), some (vi (x2 + 1)), some (vi x3), some (vi x4)] [] (setI (setI (setI (setI (setI h 10 0 61 ((hI h 10 0 61) + (1 : Int32))) 10 0 56 (1 : Int32)) 10 0 57 x2) 10 0 58 (hI h 11 28 x2.toNatClampNeg)) 11 28 x2.toNatClampNeg (0 : Int32)) Q))))))))) ∧ (x3 = 0 → (vp_in x2 30 ∧ mT g me_fm_explains (d + 3) 0 0 0 [some (vr 10 0), none, none] [] (setI h 11 28 x2.toNatClampNeg x4) (fun v h1 => ∃ y2, v = some (vi y2) ∧ mSK h1 ∧ mT g me_fm_look (d + 4) 0 0 147 [some (vr 10 0), some (vi x1), some (vi x2), some (vi y2), some (vi (x4 + 1))] [] h1 Q))))))) : mT g me_fm_look (d + 4) 0 0 147 [some (vr 10 0), some (vi x1), some (vi x2), some (vi x3), some (vi x4)] [] h Q := by
  refine tr_iload (pc := 147) k_fm_look_147 rfl ?_
  refine tr_bipush (pc := 149) (v := 60) k_fm_look_149 (by decide) ?_
  refine tr_icmp_gt (pc := 151) 177 k_fm_look_151 (by decide) (fun q => ?_) (fun q => ?_)
  · replace hv := hv.1 q
    refine tr_iload_n (pc := 177) 3 k_fm_look_177 rfl rfl ?_
    refine tr_if_eq (pc := 178) 191 k_fm_look_178 (by decide) (fun q => ?_) (fun q => ?_)
    · replace hv := hv.1 q
      refine tr_iload_n (pc := 191) 3 k_fm_look_191 rfl rfl ?_
      refine tr_if_eq (pc := 192) 223 k_fm_look_192 (by decide) (fun q => ?_) (fun q => ?_)
      · replace hv := hv.1 q
        refine tr_aload_n (pc := 223) 0 k_fm_look_223 rfl rfl ?_
        refine tr_getP (pc := 224) k_fm_look_224 fl_fm_87 rfl (Eq.trans rfl (hsk.1 10 31 _ rfl)) ?_
        refine tr_iload_n (pc := 227) 2 k_fm_look_227 rfl rfl ?_
        refine tr_iconst (pc := 228) (v := 0) k_fm_look_228 (by decide) ?_
        refine tr_iast (pc := 229) k_fm_look_229 (mvin (hsk.2.1 11 28 _ rfl) hv.1) ?_
        replace hv := hv.2
        refine tr_iinc (pc := 230) (v := (x2 + 1)) k_fm_look_230 rfl rfl (by decide) rfl ?_
        show mT g me_fm_look (d + 4) 0 0 233 [some (vr 10 0), some (vi x1), some (vi (x2 + 1)), some (vi x3), some (vi x4)] [] (setI h 11 28 x2.toNatClampNeg (0 : Int32)) _
        refine tr_goto (pc := 233) 134 k_fm_look_233 (by decide) ?_
        exact hv
      · replace hv := hv.2 q
        refine tr_aload_n (pc := 195) 0 k_fm_look_195 rfl rfl ?_
        refine tr_getIx (pc := 196) k_fm_look_196 fl_fm_270 rfl rfl ?_
        refine tr_iconst (pc := 199) (v := 3) k_fm_look_199 (by decide) ?_
        refine tr_icmp_ne (pc := 200) 223 k_fm_look_200 (by decide) (fun q => ?_) (fun q => ?_)
        · replace hv := hv.1 q
          refine tr_aload_n (pc := 223) 0 k_fm_look_223 rfl rfl ?_
          refine tr_getP (pc := 224) k_fm_look_224 fl_fm_87 rfl (Eq.trans rfl (hsk.1 10 31 _ rfl)) ?_
          refine tr_iload_n (pc := 227) 2 k_fm_look_227 rfl rfl ?_
          refine tr_iconst (pc := 228) (v := 0) k_fm_look_228 (by decide) ?_
          refine tr_iast (pc := 229) k_fm_look_229 (mvin (hsk.2.1 11 28 _ rfl) hv.1) ?_
          replace hv := hv.2
          refine tr_iinc (pc := 230) (v := (x2 + 1)) k_fm_look_230 rfl rfl (by decide) rfl ?_
          show mT g me_fm_look (d + 4) 0 0 233 [some (vr 10 0), some (vi x1), some (vi (x2 + 1)), some (vi x3), some (vi x4)] [] (setI h 11 28 x2.toNatClampNeg (0 : Int32)) _
          refine tr_goto (pc := 233) 134 k_fm_look_233 (by decide) ?_
          exact hv
        · replace hv := hv.2 q
          refine tr_aload_n (pc := 203) 0 k_fm_look_203 rfl rfl ?_
          refine tr_iconst (pc := 204) (v := 1) k_fm_look_204 (by decide) ?_
          refine tr_putI (pc := 205) k_fm_look_205 fl_fm_270 (Or.inl rfl) rfl ⟨rfl, rfl⟩ ?_
          refine tr_aload_n (pc := 208) 0 k_fm_look_208 rfl rfl ?_
          refine tr_iload_n (pc := 209) 2 k_fm_look_209 rfl rfl ?_
          refine tr_putI (pc := 210) k_fm_look_210 fl_fm_273 (Or.inl rfl) rfl ⟨rfl, rfl⟩ ?_
          refine tr_aload_n (pc := 213) 0 k_fm_look_213 rfl rfl ?_
          refine tr_aload_n (pc := 214) 0 k_fm_look_214 rfl rfl ?_
          refine tr_getP (pc := 215) k_fm_look_215 fl_fm_87 rfl (Eq.trans (Eq.trans (hP_setI) (hP_setI)) (hsk.1 10 31 _ rfl)) ?_
          refine tr_iload_n (pc := 218) 2 k_fm_look_218 rfl rfl ?_
          refine tr_ialdx (pc := 219) k_fm_look_219 (mvin (hsk.2.1 11 28 _ rfl) hv.1) (Eq.trans (hI_nk (by decide)) (hI_nk (by decide))) ?_
          replace hv := hv.2
          refine tr_putI (pc := 220) k_fm_look_220 fl_fm_276 (Or.inl rfl) rfl ⟨rfl, rfl⟩ ?_
          refine tr_aload_n (pc := 223) 0 k_fm_look_223 rfl rfl ?_
          refine tr_getP (pc := 224) k_fm_look_224 fl_fm_87 rfl (Eq.trans (Eq.trans (hP_setI) (Eq.trans (hP_setI) (hP_setI))) (hsk.1 10 31 _ rfl)) ?_
          refine tr_iload_n (pc := 227) 2 k_fm_look_227 rfl rfl ?_
          refine tr_iconst (pc := 228) (v := 0) k_fm_look_228 (by decide) ?_
          refine tr_iast (pc := 229) k_fm_look_229 (mvin (hsk.2.1 11 28 _ rfl) hv.1) ?_
          replace hv := hv.2
          refine tr_iinc (pc := 230) (v := (x2 + 1)) k_fm_look_230 rfl rfl (by decide) rfl ?_
          show mT g me_fm_look (d + 4) 0 0 233 [some (vr 10 0), some (vi x1), some (vi (x2 + 1)), some (vi x3), some (vi x4)] [] (setI (setI (setI (setI h 10 0 56 (1 : Int32)) 10 0 57 x2) 10 0 58 (hI h 11 28 x2.toNatClampNeg)) 11 28 x2.toNatClampNeg (0 : Int32)) _
          refine tr_goto (pc := 233) 134 k_fm_look_233 (by decide) ?_
          exact hv
    · replace hv := hv.2 q
      refine tr_aload_n (pc := 181) 0 k_fm_look_181 rfl rfl ?_
      refine tr_dup (pc := 182) k_fm_look_182 rfl ?_
      refine tr_getIx (pc := 183) k_fm_look_183 fl_fm_285 rfl rfl ?_
      refine tr_iconst (pc := 186) (v := 1) k_fm_look_186 (by decide) ?_
      refine tr_iadd (pc := 187) k_fm_look_187 ?_
      refine tr_putI (pc := 188) k_fm_look_188 fl_fm_285 (Or.inl rfl) rfl ⟨rfl, rfl⟩ ?_
      refine tr_iload_n (pc := 191) 3 k_fm_look_191 rfl rfl ?_
      refine tr_if_eq (pc := 192) 223 k_fm_look_192 (by decide) (fun q => ?_) (fun q => ?_)
      · replace hv := hv.1 q
        refine tr_aload_n (pc := 223) 0 k_fm_look_223 rfl rfl ?_
        refine tr_getP (pc := 224) k_fm_look_224 fl_fm_87 rfl (Eq.trans (hP_setI) (hsk.1 10 31 _ rfl)) ?_
        refine tr_iload_n (pc := 227) 2 k_fm_look_227 rfl rfl ?_
        refine tr_iconst (pc := 228) (v := 0) k_fm_look_228 (by decide) ?_
        refine tr_iast (pc := 229) k_fm_look_229 (mvin (hsk.2.1 11 28 _ rfl) hv.1) ?_
        replace hv := hv.2
        refine tr_iinc (pc := 230) (v := (x2 + 1)) k_fm_look_230 rfl rfl (by decide) rfl ?_
        show mT g me_fm_look (d + 4) 0 0 233 [some (vr 10 0), some (vi x1), some (vi (x2 + 1)), some (vi x3), some (vi x4)] [] (setI (setI h 10 0 61 ((hI h 10 0 61) + (1 : Int32))) 11 28 x2.toNatClampNeg (0 : Int32)) _
        refine tr_goto (pc := 233) 134 k_fm_look_233 (by decide) ?_
        exact hv
      · replace hv := hv.2 q
        refine tr_aload_n (pc := 195) 0 k_fm_look_195 rfl rfl ?_
        refine tr_getIx (pc := 196) k_fm_look_196 fl_fm_270 rfl (hI_nf (by decide)) ?_
        refine tr_iconst (pc := 199) (v := 3) k_fm_look_199 (by decide) ?_
        refine tr_icmp_ne (pc := 200) 223 k_fm_look_200 (by decide) (fun q => ?_) (fun q => ?_)
        · replace hv := hv.1 q
          refine tr_aload_n (pc := 223) 0 k_fm_look_223 rfl rfl ?_
          refine tr_getP (pc := 224) k_fm_look_224 fl_fm_87 rfl (Eq.trans (hP_setI) (hsk.1 10 31 _ rfl)) ?_
          refine tr_iload_n (pc := 227) 2 k_fm_look_227 rfl rfl ?_
          refine tr_iconst (pc := 228) (v := 0) k_fm_look_228 (by decide) ?_
          refine tr_iast (pc := 229) k_fm_look_229 (mvin (hsk.2.1 11 28 _ rfl) hv.1) ?_
          replace hv := hv.2
          refine tr_iinc (pc := 230) (v := (x2 + 1)) k_fm_look_230 rfl rfl (by decide) rfl ?_
          show mT g me_fm_look (d + 4) 0 0 233 [some (vr 10 0), some (vi x1), some (vi (x2 + 1)), some (vi x3), some (vi x4)] [] (setI (setI h 10 0 61 ((hI h 10 0 61) + (1 : Int32))) 11 28 x2.toNatClampNeg (0 : Int32)) _
          refine tr_goto (pc := 233) 134 k_fm_look_233 (by decide) ?_
          exact hv
        · replace hv := hv.2 q
          refine tr_aload_n (pc := 203) 0 k_fm_look_203 rfl rfl ?_
          refine tr_iconst (pc := 204) (v := 1) k_fm_look_204 (by decide) ?_
          refine tr_putI (pc := 205) k_fm_look_205 fl_fm_270 (Or.inl rfl) rfl ⟨rfl, rfl⟩ ?_
          refine tr_aload_n (pc := 208) 0 k_fm_look_208 rfl rfl ?_
          refine tr_iload_n (pc := 209) 2 k_fm_look_209 rfl rfl ?_
          refine tr_putI (pc := 210) k_fm_look_210 fl_fm_273 (Or.inl rfl) rfl ⟨rfl, rfl⟩ ?_
          refine tr_aload_n (pc := 213) 0 k_fm_look_213 rfl rfl ?_
          refine tr_aload_n (pc := 214) 0 k_fm_look_214 rfl rfl ?_
          refine tr_getP (pc := 215) k_fm_look_215 fl_fm_87 rfl (Eq.trans (Eq.trans (hP_setI) (Eq.trans (hP_setI) (hP_setI))) (hsk.1 10 31 _ rfl)) ?_
          refine tr_iload_n (pc := 218) 2 k_fm_look_218 rfl rfl ?_
          refine tr_ialdx (pc := 219) k_fm_look_219 (mvin (hsk.2.1 11 28 _ rfl) hv.1) (Eq.trans (hI_nk (by decide)) (Eq.trans (hI_nk (by decide)) (hI_nk (by decide)))) ?_
          replace hv := hv.2
          refine tr_putI (pc := 220) k_fm_look_220 fl_fm_276 (Or.inl rfl) rfl ⟨rfl, rfl⟩ ?_
          refine tr_aload_n (pc := 223) 0 k_fm_look_223 rfl rfl ?_
          refine tr_getP (pc := 224) k_fm_look_224 fl_fm_87 rfl (Eq.trans (Eq.trans (hP_setI) (Eq.trans (hP_setI) (Eq.trans (hP_setI) (hP_setI)))) (hsk.1 10 31 _ rfl)) ?_
          refine tr_iload_n (pc := 227) 2 k_fm_look_227 rfl rfl ?_
          refine tr_iconst (pc := 228) (v := 0) k_fm_look_228 (by decide) ?_
          refine tr_iast (pc := 229) k_fm_look_229 (mvin (hsk.2.1 11 28 _ rfl) hv.1) ?_
          replace hv := hv.2
          refine tr_iinc (pc := 230) (v := (x2 + 1)) k_fm_look_230 rfl rfl (by decide) rfl ?_
          show mT g me_fm_look (d + 4) 0 0 233 [some (vr 10 0), some (vi x1), some (vi (x2 + 1)), some (vi x3), some (vi x4)] [] (setI (setI (setI (setI (setI h 10 0 61 ((hI h 10 0 61) + (1 : Int32))) 10 0 56 (1 : Int32)) 10 0 57 x2) 10 0 58 (hI h 11 28 x2.toNatClampNeg)) 11 28 x2.toNatClampNeg (0 : Int32)) _
          refine tr_goto (pc := 233) 134 k_fm_look_233 (by decide) ?_
          exact hv
  · replace hv := hv.2 q
    refine tr_iload_n (pc := 154) 3 k_fm_look_154 rfl rfl ?_
    refine tr_if_ne (pc := 155) 177 k_fm_look_155 (by decide) (fun q => ?_) (fun q => ?_)
    · replace hv := hv.1 q
      refine tr_iload_n (pc := 177) 3 k_fm_look_177 rfl rfl ?_
      refine tr_if_eq (pc := 178) 191 k_fm_look_178 (by decide) (fun q => ?_) (fun q => ?_)
      · replace hv := hv.1 q
        refine tr_iload_n (pc := 191) 3 k_fm_look_191 rfl rfl ?_
        refine tr_if_eq (pc := 192) 223 k_fm_look_192 (by decide) (fun q => ?_) (fun q => ?_)
        · replace hv := hv.1 q
          refine tr_aload_n (pc := 223) 0 k_fm_look_223 rfl rfl ?_
          refine tr_getP (pc := 224) k_fm_look_224 fl_fm_87 rfl (Eq.trans rfl (hsk.1 10 31 _ rfl)) ?_
          refine tr_iload_n (pc := 227) 2 k_fm_look_227 rfl rfl ?_
          refine tr_iconst (pc := 228) (v := 0) k_fm_look_228 (by decide) ?_
          refine tr_iast (pc := 229) k_fm_look_229 (mvin (hsk.2.1 11 28 _ rfl) hv.1) ?_
          replace hv := hv.2
          refine tr_iinc (pc := 230) (v := (x2 + 1)) k_fm_look_230 rfl rfl (by decide) rfl ?_
          show mT g me_fm_look (d + 4) 0 0 233 [some (vr 10 0), some (vi x1), some (vi (x2 + 1)), some (vi x3), some (vi x4)] [] (setI h 11 28 x2.toNatClampNeg (0 : Int32)) _
          refine tr_goto (pc := 233) 134 k_fm_look_233 (by decide) ?_
          exact hv
        · replace hv := hv.2 q
          refine tr_aload_n (pc := 195) 0 k_fm_look_195 rfl rfl ?_
          refine tr_getIx (pc := 196) k_fm_look_196 fl_fm_270 rfl rfl ?_
          refine tr_iconst (pc := 199) (v := 3) k_fm_look_199 (by decide) ?_
          refine tr_icmp_ne (pc := 200) 223 k_fm_look_200 (by decide) (fun q => ?_) (fun q => ?_)
          · replace hv := hv.1 q
            refine tr_aload_n (pc := 223) 0 k_fm_look_223 rfl rfl ?_
            refine tr_getP (pc := 224) k_fm_look_224 fl_fm_87 rfl (Eq.trans rfl (hsk.1 10 31 _ rfl)) ?_
            refine tr_iload_n (pc := 227) 2 k_fm_look_227 rfl rfl ?_
            refine tr_iconst (pc := 228) (v := 0) k_fm_look_228 (by decide) ?_
            refine tr_iast (pc := 229) k_fm_look_229 (mvin (hsk.2.1 11 28 _ rfl) hv.1) ?_
            replace hv := hv.2
            refine tr_iinc (pc := 230) (v := (x2 + 1)) k_fm_look_230 rfl rfl (by decide) rfl ?_
            show mT g me_fm_look (d + 4) 0 0 233 [some (vr 10 0), some (vi x1), some (vi (x2 + 1)), some (vi x3), some (vi x4)] [] (setI h 11 28 x2.toNatClampNeg (0 : Int32)) _
            refine tr_goto (pc := 233) 134 k_fm_look_233 (by decide) ?_
            exact hv
          · replace hv := hv.2 q
            refine tr_aload_n (pc := 203) 0 k_fm_look_203 rfl rfl ?_
            refine tr_iconst (pc := 204) (v := 1) k_fm_look_204 (by decide) ?_
            refine tr_putI (pc := 205) k_fm_look_205 fl_fm_270 (Or.inl rfl) rfl ⟨rfl, rfl⟩ ?_
            refine tr_aload_n (pc := 208) 0 k_fm_look_208 rfl rfl ?_
            refine tr_iload_n (pc := 209) 2 k_fm_look_209 rfl rfl ?_
            refine tr_putI (pc := 210) k_fm_look_210 fl_fm_273 (Or.inl rfl) rfl ⟨rfl, rfl⟩ ?_
            refine tr_aload_n (pc := 213) 0 k_fm_look_213 rfl rfl ?_
            refine tr_aload_n (pc := 214) 0 k_fm_look_214 rfl rfl ?_
            refine tr_getP (pc := 215) k_fm_look_215 fl_fm_87 rfl (Eq.trans (Eq.trans (hP_setI) (hP_setI)) (hsk.1 10 31 _ rfl)) ?_
            refine tr_iload_n (pc := 218) 2 k_fm_look_218 rfl rfl ?_
            refine tr_ialdx (pc := 219) k_fm_look_219 (mvin (hsk.2.1 11 28 _ rfl) hv.1) (Eq.trans (hI_nk (by decide)) (hI_nk (by decide))) ?_
            replace hv := hv.2
            refine tr_putI (pc := 220) k_fm_look_220 fl_fm_276 (Or.inl rfl) rfl ⟨rfl, rfl⟩ ?_
            refine tr_aload_n (pc := 223) 0 k_fm_look_223 rfl rfl ?_
            refine tr_getP (pc := 224) k_fm_look_224 fl_fm_87 rfl (Eq.trans (Eq.trans (hP_setI) (Eq.trans (hP_setI) (hP_setI))) (hsk.1 10 31 _ rfl)) ?_
            refine tr_iload_n (pc := 227) 2 k_fm_look_227 rfl rfl ?_
            refine tr_iconst (pc := 228) (v := 0) k_fm_look_228 (by decide) ?_
            refine tr_iast (pc := 229) k_fm_look_229 (mvin (hsk.2.1 11 28 _ rfl) hv.1) ?_
            replace hv := hv.2
            refine tr_iinc (pc := 230) (v := (x2 + 1)) k_fm_look_230 rfl rfl (by decide) rfl ?_
            show mT g me_fm_look (d + 4) 0 0 233 [some (vr 10 0), some (vi x1), some (vi (x2 + 1)), some (vi x3), some (vi x4)] [] (setI (setI (setI (setI h 10 0 56 (1 : Int32)) 10 0 57 x2) 10 0 58 (hI h 11 28 x2.toNatClampNeg)) 11 28 x2.toNatClampNeg (0 : Int32)) _
            refine tr_goto (pc := 233) 134 k_fm_look_233 (by decide) ?_
            exact hv
      · replace hv := hv.2 q
        refine tr_aload_n (pc := 181) 0 k_fm_look_181 rfl rfl ?_
        refine tr_dup (pc := 182) k_fm_look_182 rfl ?_
        refine tr_getIx (pc := 183) k_fm_look_183 fl_fm_285 rfl rfl ?_
        refine tr_iconst (pc := 186) (v := 1) k_fm_look_186 (by decide) ?_
        refine tr_iadd (pc := 187) k_fm_look_187 ?_
        refine tr_putI (pc := 188) k_fm_look_188 fl_fm_285 (Or.inl rfl) rfl ⟨rfl, rfl⟩ ?_
        refine tr_iload_n (pc := 191) 3 k_fm_look_191 rfl rfl ?_
        refine tr_if_eq (pc := 192) 223 k_fm_look_192 (by decide) (fun q => ?_) (fun q => ?_)
        · replace hv := hv.1 q
          refine tr_aload_n (pc := 223) 0 k_fm_look_223 rfl rfl ?_
          refine tr_getP (pc := 224) k_fm_look_224 fl_fm_87 rfl (Eq.trans (hP_setI) (hsk.1 10 31 _ rfl)) ?_
          refine tr_iload_n (pc := 227) 2 k_fm_look_227 rfl rfl ?_
          refine tr_iconst (pc := 228) (v := 0) k_fm_look_228 (by decide) ?_
          refine tr_iast (pc := 229) k_fm_look_229 (mvin (hsk.2.1 11 28 _ rfl) hv.1) ?_
          replace hv := hv.2
          refine tr_iinc (pc := 230) (v := (x2 + 1)) k_fm_look_230 rfl rfl (by decide) rfl ?_
          show mT g me_fm_look (d + 4) 0 0 233 [some (vr 10 0), some (vi x1), some (vi (x2 + 1)), some (vi x3), some (vi x4)] [] (setI (setI h 10 0 61 ((hI h 10 0 61) + (1 : Int32))) 11 28 x2.toNatClampNeg (0 : Int32)) _
          refine tr_goto (pc := 233) 134 k_fm_look_233 (by decide) ?_
          exact hv
        · replace hv := hv.2 q
          refine tr_aload_n (pc := 195) 0 k_fm_look_195 rfl rfl ?_
          refine tr_getIx (pc := 196) k_fm_look_196 fl_fm_270 rfl (hI_nf (by decide)) ?_
          refine tr_iconst (pc := 199) (v := 3) k_fm_look_199 (by decide) ?_
          refine tr_icmp_ne (pc := 200) 223 k_fm_look_200 (by decide) (fun q => ?_) (fun q => ?_)
          · replace hv := hv.1 q
            refine tr_aload_n (pc := 223) 0 k_fm_look_223 rfl rfl ?_
            refine tr_getP (pc := 224) k_fm_look_224 fl_fm_87 rfl (Eq.trans (hP_setI) (hsk.1 10 31 _ rfl)) ?_
            refine tr_iload_n (pc := 227) 2 k_fm_look_227 rfl rfl ?_
            refine tr_iconst (pc := 228) (v := 0) k_fm_look_228 (by decide) ?_
            refine tr_iast (pc := 229) k_fm_look_229 (mvin (hsk.2.1 11 28 _ rfl) hv.1) ?_
            replace hv := hv.2
            refine tr_iinc (pc := 230) (v := (x2 + 1)) k_fm_look_230 rfl rfl (by decide) rfl ?_
            show mT g me_fm_look (d + 4) 0 0 233 [some (vr 10 0), some (vi x1), some (vi (x2 + 1)), some (vi x3), some (vi x4)] [] (setI (setI h 10 0 61 ((hI h 10 0 61) + (1 : Int32))) 11 28 x2.toNatClampNeg (0 : Int32)) _
            refine tr_goto (pc := 233) 134 k_fm_look_233 (by decide) ?_
            exact hv
          · replace hv := hv.2 q
            refine tr_aload_n (pc := 203) 0 k_fm_look_203 rfl rfl ?_
            refine tr_iconst (pc := 204) (v := 1) k_fm_look_204 (by decide) ?_
            refine tr_putI (pc := 205) k_fm_look_205 fl_fm_270 (Or.inl rfl) rfl ⟨rfl, rfl⟩ ?_
            refine tr_aload_n (pc := 208) 0 k_fm_look_208 rfl rfl ?_
            refine tr_iload_n (pc := 209) 2 k_fm_look_209 rfl rfl ?_
            refine tr_putI (pc := 210) k_fm_look_210 fl_fm_273 (Or.inl rfl) rfl ⟨rfl, rfl⟩ ?_
            refine tr_aload_n (pc := 213) 0 k_fm_look_213 rfl rfl ?_
            refine tr_aload_n (pc := 214) 0 k_fm_look_214 rfl rfl ?_
            refine tr_getP (pc := 215) k_fm_look_215 fl_fm_87 rfl (Eq.trans (Eq.trans (hP_setI) (Eq.trans (hP_setI) (hP_setI))) (hsk.1 10 31 _ rfl)) ?_
            refine tr_iload_n (pc := 218) 2 k_fm_look_218 rfl rfl ?_
            refine tr_ialdx (pc := 219) k_fm_look_219 (mvin (hsk.2.1 11 28 _ rfl) hv.1) (Eq.trans (hI_nk (by decide)) (Eq.trans (hI_nk (by decide)) (hI_nk (by decide)))) ?_
            replace hv := hv.2
            refine tr_putI (pc := 220) k_fm_look_220 fl_fm_276 (Or.inl rfl) rfl ⟨rfl, rfl⟩ ?_
            refine tr_aload_n (pc := 223) 0 k_fm_look_223 rfl rfl ?_
            refine tr_getP (pc := 224) k_fm_look_224 fl_fm_87 rfl (Eq.trans (Eq.trans (hP_setI) (Eq.trans (hP_setI) (Eq.trans (hP_setI) (hP_setI)))) (hsk.1 10 31 _ rfl)) ?_
            refine tr_iload_n (pc := 227) 2 k_fm_look_227 rfl rfl ?_
            refine tr_iconst (pc := 228) (v := 0) k_fm_look_228 (by decide) ?_
            refine tr_iast (pc := 229) k_fm_look_229 (mvin (hsk.2.1 11 28 _ rfl) hv.1) ?_
            replace hv := hv.2
            refine tr_iinc (pc := 230) (v := (x2 + 1)) k_fm_look_230 rfl rfl (by decide) rfl ?_
            show mT g me_fm_look (d + 4) 0 0 233 [some (vr 10 0), some (vi x1), some (vi (x2 + 1)), some (vi x3), some (vi x4)] [] (setI (setI (setI (setI (setI h 10 0 61 ((hI h 10 0 61) + (1 : Int32))) 10 0 56 (1 : Int32)) 10 0 57 x2) 10 0 58 (hI h 11 28 x2.toNatClampNeg)) 11 28 x2.toNatClampNeg (0 : Int32)) _
            refine tr_goto (pc := 233) 134 k_fm_look_233 (by decide) ?_
            exact hv
    · replace hv := hv.2 q
      refine tr_aload_n (pc := 158) 0 k_fm_look_158 rfl rfl ?_
      refine tr_getP (pc := 159) k_fm_look_159 fl_fm_87 rfl (Eq.trans rfl (hsk.1 10 31 _ rfl)) ?_
      refine tr_iload_n (pc := 162) 2 k_fm_look_162 rfl rfl ?_
      refine tr_iload (pc := 163) k_fm_look_163 rfl ?_
      refine tr_iast (pc := 165) k_fm_look_165 (mvin (hsk.2.1 11 28 _ rfl) hv.1) ?_
      replace hv := hv.2
      refine tr_aload_n (pc := 166) 0 k_fm_look_166 rfl rfl ?_
      have hT := hv
      clear hv
      refine tr_callV (pc := 167) (d' := d + 3) (mc' := 0) (ms' := 0) [] k_fm_look_167 ca_fm_explains ml_fm_288 ii_fm_explains ⟨by decide, rfl⟩ pa_fm_explains (by omega) (by omega) (by omega) rfl (Nat.le_of_ble_eq_true rfl) (Nat.le_of_ble_eq_true rfl) hT (fun v h9 hv => ?_)
      clear hT
      obtain ⟨y2, rfl, hv⟩ := hv
      obtain ⟨h1, eh⟩ : ∃ z, z = h9 := ⟨_, rfl⟩
      subst eh
      obtain ⟨hskh1, hv⟩ := hv
      show mT g me_fm_look (d + 4) 0 0 170 [some (vr 10 0), some (vi x1), some (vi x2), some (vi x3), some (vi x4)] [vi y2] h1 _
      refine tr_istore_n (pc := 170) 3 k_fm_look_170 rfl (by decide) rfl ?_
      show mT g me_fm_look (d + 4) 0 0 171 [some (vr 10 0), some (vi x1), some (vi x2), some (vi y2), some (vi x4)] [] h1 _
      refine tr_iinc (pc := 171) (v := (x4 + 1)) k_fm_look_171 rfl rfl (by decide) rfl ?_
      show mT g me_fm_look (d + 4) 0 0 174 [some (vr 10 0), some (vi x1), some (vi x2), some (vi y2), some (vi (x4 + 1))] [] h1 _
      refine tr_goto (pc := 174) 147 k_fm_look_174 (by decide) ?_
      exact hv
theorem v_fm_look_238 {g : mG} {d : Nat} (x1 : Int32) (x2 : Int32) (o3 : Option mV) (o4 : Option mV) {h : mH} {Q : Option mV → mH → Prop} (hsk : mSK h) (hv : (((hI h 10 0 3) ≤ x2 → Q none h) ∧ (¬ (hI h 10 0 3) ≤ x2 → ((¬ (hI h 10 0 56) = (3 : Int32) → Q none h) ∧ ((hI h 10 0 56) = (3 : Int32) → mT g me_fm_look (d + 4) 0 0 258 [some (vr 10 0), some (vi x1), some (vi x2), some (vi (x2 + (1 : Int32))), o4] [] h Q))))) : mT g me_fm_look (d + 4) 0 0 238 [some (vr 10 0), some (vi x1), some (vi x2), o3, o4] [] h Q := by
  refine tr_iload_n (pc := 238) 2 k_fm_look_238 rfl rfl ?_
  refine tr_aload_n (pc := 239) 0 k_fm_look_239 rfl rfl ?_
  refine tr_getIx (pc := 240) k_fm_look_240 fl_fm_155 rfl rfl ?_
  refine tr_icmp_ge (pc := 243) 292 k_fm_look_243 (by decide) (fun q => ?_) (fun q => ?_)
  · replace hv := hv.1 q
    refine tr_return (pc := 292) k_fm_look_292 rfl ?_
    exact hv
  · replace hv := hv.2 q
    refine tr_aload_n (pc := 246) 0 k_fm_look_246 rfl rfl ?_
    refine tr_getIx (pc := 247) k_fm_look_247 fl_fm_270 rfl rfl ?_
    refine tr_iconst (pc := 250) (v := 3) k_fm_look_250 (by decide) ?_
    refine tr_icmp_ne (pc := 251) 292 k_fm_look_251 (by decide) (fun q => ?_) (fun q => ?_)
    · replace hv := hv.1 q
      refine tr_return (pc := 292) k_fm_look_292 rfl ?_
      exact hv
    · replace hv := hv.2 q
      refine tr_iload_n (pc := 254) 2 k_fm_look_254 rfl rfl ?_
      refine tr_iconst (pc := 255) (v := 1) k_fm_look_255 (by decide) ?_
      refine tr_iadd (pc := 256) k_fm_look_256 ?_
      refine tr_istore_n (pc := 257) 3 k_fm_look_257 rfl (by decide) rfl ?_
      show mT g me_fm_look (d + 4) 0 0 258 [some (vr 10 0), some (vi x1), some (vi x2), some (vi (x2 + (1 : Int32))), o4] [] h _
      exact hv
theorem v_fm_look_258 {g : mG} {d : Nat} (x1 : Int32) (x2 : Int32) (x3 : Int32) (o4 : Option mV) {h : mH} {Q : Option mV → mH → Prop} (hsk : mSK h) (hv : (((hI h 10 0 3) ≤ x3 → mT g me_fm_look (d + 4) 0 0 238 [some (vr 10 0), some (vi x1), some (vi (x2 + 1)), some (vi x3), o4] [] h Q) ∧ (¬ (hI h 10 0 3) ≤ x3 → ((¬ (hI h 10 0 56) = (3 : Int32) → mT g me_fm_look (d + 4) 0 0 238 [some (vr 10 0), some (vi x1), some (vi (x2 + 1)), some (vi x3), o4] [] h Q) ∧ ((hI h 10 0 56) = (3 : Int32) → mT g me_fm_two (d + 3) 0 0 0 [some (vr 10 0), some (vi x2), some (vi x3), none, none] [] h (fun v h1 => v = none ∧ mSK h1 ∧ mT g me_fm_look (d + 4) 0 0 258 [some (vr 10 0), some (vi x1), some (vi x2), some (vi (x3 + 1)), o4] [] h1 Q)))))) : mT g me_fm_look (d + 4) 0 0 258 [some (vr 10 0), some (vi x1), some (vi x2), some (vi x3), o4] [] h Q := by
  refine tr_iload_n (pc := 258) 3 k_fm_look_258 rfl rfl ?_
  refine tr_aload_n (pc := 259) 0 k_fm_look_259 rfl rfl ?_
  refine tr_getIx (pc := 260) k_fm_look_260 fl_fm_155 rfl rfl ?_
  refine tr_icmp_ge (pc := 263) 286 k_fm_look_263 (by decide) (fun q => ?_) (fun q => ?_)
  · replace hv := hv.1 q
    refine tr_iinc (pc := 286) (v := (x2 + 1)) k_fm_look_286 rfl rfl (by decide) rfl ?_
    show mT g me_fm_look (d + 4) 0 0 289 [some (vr 10 0), some (vi x1), some (vi (x2 + 1)), some (vi x3), o4] [] h _
    refine tr_goto (pc := 289) 238 k_fm_look_289 (by decide) ?_
    exact hv
  · replace hv := hv.2 q
    refine tr_aload_n (pc := 266) 0 k_fm_look_266 rfl rfl ?_
    refine tr_getIx (pc := 267) k_fm_look_267 fl_fm_270 rfl rfl ?_
    refine tr_iconst (pc := 270) (v := 3) k_fm_look_270 (by decide) ?_
    refine tr_icmp_ne (pc := 271) 286 k_fm_look_271 (by decide) (fun q => ?_) (fun q => ?_)
    · replace hv := hv.1 q
      refine tr_iinc (pc := 286) (v := (x2 + 1)) k_fm_look_286 rfl rfl (by decide) rfl ?_
      show mT g me_fm_look (d + 4) 0 0 289 [some (vr 10 0), some (vi x1), some (vi (x2 + 1)), some (vi x3), o4] [] h _
      refine tr_goto (pc := 289) 238 k_fm_look_289 (by decide) ?_
      exact hv
    · replace hv := hv.2 q
      refine tr_aload_n (pc := 274) 0 k_fm_look_274 rfl rfl ?_
      refine tr_iload_n (pc := 275) 2 k_fm_look_275 rfl rfl ?_
      refine tr_iload_n (pc := 276) 3 k_fm_look_276 rfl rfl ?_
      have hT := hv
      clear hv
      refine tr_callV (pc := 277) (d' := d + 3) (mc' := 0) (ms' := 0) [vi x2, vi x3] k_fm_look_277 ca_fm_two ml_fm_291 ii_fm_two ⟨by decide, rfl⟩ pa_fm_two (by omega) (by omega) (by omega) rfl (Nat.le_of_ble_eq_true rfl) (Nat.le_of_ble_eq_true rfl) hT (fun v h9 hv => ?_)
      clear hT
      obtain ⟨rfl, hv⟩ := hv
      obtain ⟨h1, eh⟩ : ∃ z, z = h9 := ⟨_, rfl⟩
      subst eh
      obtain ⟨hskh1, hv⟩ := hv
      show mT g me_fm_look (d + 4) 0 0 280 [some (vr 10 0), some (vi x1), some (vi x2), some (vi x3), o4] [] h1 _
      refine tr_iinc (pc := 280) (v := (x3 + 1)) k_fm_look_280 rfl rfl (by decide) rfl ?_
      show mT g me_fm_look (d + 4) 0 0 283 [some (vr 10 0), some (vi x1), some (vi x2), some (vi (x3 + 1)), o4] [] h1 _
      refine tr_goto (pc := 283) 258 k_fm_look_283 (by decide) ?_
      exact hv
theorem v_fm_explains_0 {g : mG} {d : Nat}  {h : mH} {Q : Option mV → mH → Prop} (hsk : mSK h) (hv : mT g me_fm_runs (d + 1) 0 0 0 [some (vr 10 0), none, none, none] [] h (fun v h1 => v = none ∧ mSK h1 ∧ mT g me_fm_explains (d + 2) 0 0 8 [some (vr 10 0), some (vi (1 : Int32)), some (vi (0 : Int32))] [] h1 Q)) : mT g me_fm_explains (d + 2) 0 0 0 [some (vr 10 0), none, none] [] h Q := by
  refine tr_aload_n (pc := 0) 0 k_fm_explains_0 rfl rfl ?_
  have hT := hv
  clear hv
  refine tr_callV (pc := 1) (d' := d + 1) (mc' := 0) (ms' := 0) [] k_fm_explains_1 ca_fm_runs ml_fm_176 ii_fm_runs ⟨by decide, rfl⟩ pa_fm_runs (by omega) (by omega) (by omega) rfl (Nat.le_of_ble_eq_true rfl) (Nat.le_of_ble_eq_true rfl) hT (fun v h9 hv => ?_)
  clear hT
  obtain ⟨rfl, hv⟩ := hv
  obtain ⟨h1, eh⟩ : ∃ z, z = h9 := ⟨_, rfl⟩
  subst eh
  obtain ⟨hskh1, hv⟩ := hv
  show mT g me_fm_explains (d + 2) 0 0 4 [some (vr 10 0), none, none] [] h1 _
  refine tr_iconst (pc := 4) (v := 1) k_fm_explains_4 (by decide) ?_
  refine tr_istore_n (pc := 5) 1 k_fm_explains_5 rfl (by decide) rfl ?_
  show mT g me_fm_explains (d + 2) 0 0 6 [some (vr 10 0), some (vi (1 : Int32)), none] [] h1 _
  refine tr_iconst (pc := 6) (v := 0) k_fm_explains_6 (by decide) ?_
  refine tr_istore_n (pc := 7) 2 k_fm_explains_7 rfl (by decide) rfl ?_
  show mT g me_fm_explains (d + 2) 0 0 8 [some (vr 10 0), some (vi (1 : Int32)), some (vi (0 : Int32))] [] h1 _
  exact hv
theorem v_fm_explains_8 {g : mG} {d : Nat} (x1 : Int32) (x2 : Int32) {h : mH} {Q : Option mV → mH → Prop} (hsk : mSK h) (hv : (((hI h 10 0 4) ≤ x2 → (vp_nar .boolean x1 = x1 ∧ Q (some (vi x1)) h)) ∧ (¬ (hI h 10 0 4) ≤ x2 → ((x1 = 0 → (vp_nar .boolean x1 = x1 ∧ Q (some (vi x1)) h)) ∧ (¬ x1 = 0 → (vp_in x2 24 ∧ (((hI h 11 23 x2.toNatClampNeg) < 0 → mT g me_fm_explains (d + 2) 0 0 8 [some (vr 10 0), some (vi (1 : Int32)), some (vi (x2 + 1))] [] h Q) ∧ (¬ (hI h 11 23 x2.toNatClampNeg) < 0 → mT g me_fm_riseOf (d + 1) 0 0 0 [some (vr 10 0), some (vi x2)] [] h (fun v h1 => ∃ y2, v = some (vi y2) ∧ mSK h1 ∧ (vp_in x2 24 ∧ (((hI h1 10 0 7) < (if 0 ≤ (y2 - (hI h1 11 23 x2.toNatClampNeg)) then (y2 - (hI h1 11 23 x2.toNatClampNeg)) else 0 - (y2 - (hI h1 11 23 x2.toNatClampNeg))) → mT g me_fm_explains (d + 2) 0 0 8 [some (vr 10 0), some (vi (0 : Int32)), some (vi (x2 + 1))] [] h1 Q) ∧ (¬ (hI h1 10 0 7) < (if 0 ≤ (y2 - (hI h1 11 23 x2.toNatClampNeg)) then (y2 - (hI h1 11 23 x2.toNatClampNeg)) else 0 - (y2 - (hI h1 11 23 x2.toNatClampNeg))) → mT g me_fm_explains (d + 2) 0 0 8 [some (vr 10 0), some (vi (1 : Int32)), some (vi (x2 + 1))] [] h1 Q)))))))))))) : mT g me_fm_explains (d + 2) 0 0 8 [some (vr 10 0), some (vi x1), some (vi x2)] [] h Q := by
  refine tr_iload_n (pc := 8) 2 k_fm_explains_8 rfl rfl ?_
  refine tr_aload_n (pc := 9) 0 k_fm_explains_9 rfl rfl ?_
  refine tr_getIx (pc := 10) k_fm_explains_10 fl_fm_158 rfl rfl ?_
  refine tr_icmp_ge (pc := 13) 63 k_fm_explains_13 (by decide) (fun q => ?_) (fun q => ?_)
  · replace hv := hv.1 q
    refine tr_iload_n (pc := 63) 1 k_fm_explains_63 rfl rfl ?_
    refine tr_ireturn (pc := 64) k_fm_explains_64 rfl (mzret hv.1) ?_
    replace hv := hv.2
    exact hv
  · replace hv := hv.2 q
    refine tr_iload_n (pc := 16) 1 k_fm_explains_16 rfl rfl ?_
    refine tr_if_eq (pc := 17) 63 k_fm_explains_17 (by decide) (fun q => ?_) (fun q => ?_)
    · replace hv := hv.1 q
      refine tr_iload_n (pc := 63) 1 k_fm_explains_63 rfl rfl ?_
      refine tr_ireturn (pc := 64) k_fm_explains_64 rfl (mzret hv.1) ?_
      replace hv := hv.2
      exact hv
    · replace hv := hv.2 q
      refine tr_aload_n (pc := 20) 0 k_fm_explains_20 rfl rfl ?_
      refine tr_getP (pc := 21) k_fm_explains_21 fl_fm_69 rfl (Eq.trans rfl (hsk.1 10 25 _ rfl)) ?_
      refine tr_iload_n (pc := 24) 2 k_fm_explains_24 rfl rfl ?_
      refine tr_ialdx (pc := 25) k_fm_explains_25 (mvin (hsk.2.1 11 23 _ rfl) hv.1) rfl ?_
      replace hv := hv.2
      refine tr_if_lt (pc := 26) 51 k_fm_explains_26 (by decide) (fun q => ?_) (fun q => ?_)
      · replace hv := hv.1 q
        refine tr_iconst (pc := 51) (v := 1) k_fm_explains_51 (by decide) ?_
        refine tr_goto (pc := 52) 56 k_fm_explains_52 (by decide) ?_
        refine tr_istore_n (pc := 56) 1 k_fm_explains_56 rfl (by decide) rfl ?_
        show mT g me_fm_explains (d + 2) 0 0 57 [some (vr 10 0), some (vi (1 : Int32)), some (vi x2)] [] h _
        refine tr_iinc (pc := 57) (v := (x2 + 1)) k_fm_explains_57 rfl rfl (by decide) rfl ?_
        show mT g me_fm_explains (d + 2) 0 0 60 [some (vr 10 0), some (vi (1 : Int32)), some (vi (x2 + 1))] [] h _
        refine tr_goto (pc := 60) 8 k_fm_explains_60 (by decide) ?_
        exact hv
      · replace hv := hv.2 q
        refine tr_aload_n (pc := 29) 0 k_fm_explains_29 rfl rfl ?_
        refine tr_iload_n (pc := 30) 2 k_fm_explains_30 rfl rfl ?_
        have hT := hv
        clear hv
        refine tr_callV (pc := 31) (d' := d + 1) (mc' := 0) (ms' := 0) [vi x2] k_fm_explains_31 ca_fm_riseOf ml_fm_185 ii_fm_riseOf ⟨by decide, rfl⟩ pa_fm_riseOf (by omega) (by omega) (by omega) rfl (Nat.le_of_ble_eq_true rfl) (Nat.le_of_ble_eq_true rfl) hT (fun v h9 hv => ?_)
        clear hT
        obtain ⟨y2, rfl, hv⟩ := hv
        obtain ⟨h1, eh⟩ : ∃ z, z = h9 := ⟨_, rfl⟩
        subst eh
        obtain ⟨hskh1, hv⟩ := hv
        show mT g me_fm_explains (d + 2) 0 0 34 [some (vr 10 0), some (vi x1), some (vi x2)] [vi y2] h1 _
        refine tr_aload_n (pc := 34) 0 k_fm_explains_34 rfl rfl ?_
        refine tr_getP (pc := 35) k_fm_explains_35 fl_fm_69 rfl (Eq.trans rfl (hskh1.1 10 25 _ rfl)) ?_
        refine tr_iload_n (pc := 38) 2 k_fm_explains_38 rfl rfl ?_
        refine tr_ialdx (pc := 39) k_fm_explains_39 (mvin (hskh1.2.1 11 23 _ rfl) hv.1) rfl ?_
        replace hv := hv.2
        refine tr_isub (pc := 40) k_fm_explains_40 ?_
        refine tr_abs (pc := 41) k_fm_explains_41 ml_fm_258 (by omega) (Nat.le_of_ble_eq_true rfl) ?_
        refine tr_aload_n (pc := 44) 0 k_fm_explains_44 rfl rfl ?_
        refine tr_getIx (pc := 45) k_fm_explains_45 fl_fm_267 rfl rfl ?_
        refine tr_icmp_gt (pc := 48) 55 k_fm_explains_48 (by decide) (fun q => ?_) (fun q => ?_)
        · replace hv := hv.1 q
          refine tr_iconst (pc := 55) (v := 0) k_fm_explains_55 (by decide) ?_
          refine tr_istore_n (pc := 56) 1 k_fm_explains_56 rfl (by decide) rfl ?_
          show mT g me_fm_explains (d + 2) 0 0 57 [some (vr 10 0), some (vi (0 : Int32)), some (vi x2)] [] h1 _
          refine tr_iinc (pc := 57) (v := (x2 + 1)) k_fm_explains_57 rfl rfl (by decide) rfl ?_
          show mT g me_fm_explains (d + 2) 0 0 60 [some (vr 10 0), some (vi (0 : Int32)), some (vi (x2 + 1))] [] h1 _
          refine tr_goto (pc := 60) 8 k_fm_explains_60 (by decide) ?_
          exact hv
        · replace hv := hv.2 q
          refine tr_iconst (pc := 51) (v := 1) k_fm_explains_51 (by decide) ?_
          refine tr_goto (pc := 52) 56 k_fm_explains_52 (by decide) ?_
          refine tr_istore_n (pc := 56) 1 k_fm_explains_56 rfl (by decide) rfl ?_
          show mT g me_fm_explains (d + 2) 0 0 57 [some (vr 10 0), some (vi (1 : Int32)), some (vi x2)] [] h1 _
          refine tr_iinc (pc := 57) (v := (x2 + 1)) k_fm_explains_57 rfl rfl (by decide) rfl ?_
          show mT g me_fm_explains (d + 2) 0 0 60 [some (vr 10 0), some (vi (1 : Int32)), some (vi (x2 + 1))] [] h1 _
          refine tr_goto (pc := 60) 8 k_fm_explains_60 (by decide) ?_
          exact hv
theorem v_fm_two_0 {g : mG} {d : Nat} (x1 : Int32) (x2 : Int32) {h : mH} {Q : Option mV → mH → Prop} (hsk : mSK h) (hv : mT g me_fm_two (d + 3) 0 0 2 [some (vr 10 0), some (vi x1), some (vi x2), some (vi (1 : Int32)), none] [] h Q) : mT g me_fm_two (d + 3) 0 0 0 [some (vr 10 0), some (vi x1), some (vi x2), none, none] [] h Q := by
  refine tr_iconst (pc := 0) (v := 1) k_fm_two_0 (by decide) ?_
  refine tr_istore_n (pc := 1) 3 k_fm_two_1 rfl (by decide) rfl ?_
  show mT g me_fm_two (d + 3) 0 0 2 [some (vr 10 0), some (vi x1), some (vi x2), some (vi (1 : Int32)), none] [] h _
  exact hv
theorem v_fm_two_2 {g : mG} {d : Nat} (x1 : Int32) (x2 : Int32) (x3 : Int32) (o4 : Option mV) {h : mH} {Q : Option mV → mH → Prop} (hsk : mSK h) (hv : (((12 : Int32) < x3 → (vp_in x1 30 ∧ (vp_in x2 30 ∧ Q none (setI (setI h 11 28 x1.toNatClampNeg (0 : Int32)) 11 28 x2.toNatClampNeg (0 : Int32))))) ∧ (¬ (12 : Int32) < x3 → ((¬ (hI h 10 0 56) = (3 : Int32) → (vp_in x1 30 ∧ (vp_in x2 30 ∧ Q none (setI (setI h 11 28 x1.toNatClampNeg (0 : Int32)) 11 28 x2.toNatClampNeg (0 : Int32))))) ∧ ((hI h 10 0 56) = (3 : Int32) → mT g me_fm_two (d + 3) 0 0 19 [some (vr 10 0), some (vi x1), some (vi x2), some (vi x3), some (vi (1 : Int32))] [] h Q))))) : mT g me_fm_two (d + 3) 0 0 2 [some (vr 10 0), some (vi x1), some (vi x2), some (vi x3), o4] [] h Q := by
  refine tr_iload_n (pc := 2) 3 k_fm_two_2 rfl rfl ?_
  refine tr_bipush (pc := 3) (v := 12) k_fm_two_3 (by decide) ?_
  refine tr_icmp_gt (pc := 5) 97 k_fm_two_5 (by decide) (fun q => ?_) (fun q => ?_)
  · replace hv := hv.1 q
    refine tr_aload_n (pc := 97) 0 k_fm_two_97 rfl rfl ?_
    refine tr_getP (pc := 98) k_fm_two_98 fl_fm_87 rfl (Eq.trans rfl (hsk.1 10 31 _ rfl)) ?_
    refine tr_iload_n (pc := 101) 1 k_fm_two_101 rfl rfl ?_
    refine tr_iconst (pc := 102) (v := 0) k_fm_two_102 (by decide) ?_
    refine tr_iast (pc := 103) k_fm_two_103 (mvin (hsk.2.1 11 28 _ rfl) hv.1) ?_
    replace hv := hv.2
    refine tr_aload_n (pc := 104) 0 k_fm_two_104 rfl rfl ?_
    refine tr_getP (pc := 105) k_fm_two_105 fl_fm_87 rfl (Eq.trans (hP_setI) (hsk.1 10 31 _ rfl)) ?_
    refine tr_iload_n (pc := 108) 2 k_fm_two_108 rfl rfl ?_
    refine tr_iconst (pc := 109) (v := 0) k_fm_two_109 (by decide) ?_
    refine tr_iast (pc := 110) k_fm_two_110 (mvin (hsk.2.1 11 28 _ rfl) hv.1) ?_
    replace hv := hv.2
    refine tr_return (pc := 111) k_fm_two_111 rfl ?_
    exact hv
  · replace hv := hv.2 q
    refine tr_aload_n (pc := 8) 0 k_fm_two_8 rfl rfl ?_
    refine tr_getIx (pc := 9) k_fm_two_9 fl_fm_270 rfl rfl ?_
    refine tr_iconst (pc := 12) (v := 3) k_fm_two_12 (by decide) ?_
    refine tr_icmp_ne (pc := 13) 97 k_fm_two_13 (by decide) (fun q => ?_) (fun q => ?_)
    · replace hv := hv.1 q
      refine tr_aload_n (pc := 97) 0 k_fm_two_97 rfl rfl ?_
      refine tr_getP (pc := 98) k_fm_two_98 fl_fm_87 rfl (Eq.trans rfl (hsk.1 10 31 _ rfl)) ?_
      refine tr_iload_n (pc := 101) 1 k_fm_two_101 rfl rfl ?_
      refine tr_iconst (pc := 102) (v := 0) k_fm_two_102 (by decide) ?_
      refine tr_iast (pc := 103) k_fm_two_103 (mvin (hsk.2.1 11 28 _ rfl) hv.1) ?_
      replace hv := hv.2
      refine tr_aload_n (pc := 104) 0 k_fm_two_104 rfl rfl ?_
      refine tr_getP (pc := 105) k_fm_two_105 fl_fm_87 rfl (Eq.trans (hP_setI) (hsk.1 10 31 _ rfl)) ?_
      refine tr_iload_n (pc := 108) 2 k_fm_two_108 rfl rfl ?_
      refine tr_iconst (pc := 109) (v := 0) k_fm_two_109 (by decide) ?_
      refine tr_iast (pc := 110) k_fm_two_110 (mvin (hsk.2.1 11 28 _ rfl) hv.1) ?_
      replace hv := hv.2
      refine tr_return (pc := 111) k_fm_two_111 rfl ?_
      exact hv
    · replace hv := hv.2 q
      refine tr_iconst (pc := 16) (v := 1) k_fm_two_16 (by decide) ?_
      refine tr_istore (pc := 17) k_fm_two_17 (by decide) rfl ?_
      show mT g me_fm_two (d + 3) 0 0 19 [some (vr 10 0), some (vi x1), some (vi x2), some (vi x3), some (vi (1 : Int32))] [] h _
      exact hv
theorem v_fm_two_19 {g : mG} {d : Nat} (x1 : Int32) (x2 : Int32) (x3 : Int32) (x4 : Int32) {h : mH} {Q : Option mV → mH → Prop} (hsk : mSK h) (hv : (((12 : Int32) < x4 → mT g me_fm_two (d + 3) 0 0 2 [some (vr 10 0), some (vi x1), some (vi x2), some (vi (x3 + 1)), some (vi x4)] [] h Q) ∧ (¬ (12 : Int32) < x4 → ((¬ (hI h 10 0 56) = (3 : Int32) → mT g me_fm_two (d + 3) 0 0 2 [some (vr 10 0), some (vi x1), some (vi x2), some (vi (x3 + 1)), some (vi x4)] [] h Q) ∧ ((hI h 10 0 56) = (3 : Int32) → (vp_in x1 30 ∧ (vp_in x2 30 ∧ mT g me_fm_explains (d + 2) 0 0 0 [some (vr 10 0), none, none] [] (setI (setI h 11 28 x1.toNatClampNeg x3) 11 28 x2.toNatClampNeg x4) (fun v h1 => ∃ y2, v = some (vi y2) ∧ mSK h1 ∧ ((¬ y2 = 0 → mT g me_fm_two (d + 3) 0 0 19 [some (vr 10 0), some (vi x1), some (vi x2), some (vi x3), some (vi (x4 + 1))] [] (setI (setI (setI (setI (setI h1 10 0 56 (2 : Int32)) 10 0 57 x1) 10 0 58 x3) 10 0 59 x2) 10 0 60 x4) Q) ∧ (y2 = 0 → mT g me_fm_two (d + 3) 0 0 19 [some (vr 10 0), some (vi x1), some (vi x2), some (vi x3), some (vi (x4 + 1))] [] h1 Q)))))))))) : mT g me_fm_two (d + 3) 0 0 19 [some (vr 10 0), some (vi x1), some (vi x2), some (vi x3), some (vi x4)] [] h Q := by
  refine tr_iload (pc := 19) k_fm_two_19 rfl ?_
  refine tr_bipush (pc := 21) (v := 12) k_fm_two_21 (by decide) ?_
  refine tr_icmp_gt (pc := 23) 91 k_fm_two_23 (by decide) (fun q => ?_) (fun q => ?_)
  · replace hv := hv.1 q
    refine tr_iinc (pc := 91) (v := (x3 + 1)) k_fm_two_91 rfl rfl (by decide) rfl ?_
    show mT g me_fm_two (d + 3) 0 0 94 [some (vr 10 0), some (vi x1), some (vi x2), some (vi (x3 + 1)), some (vi x4)] [] h _
    refine tr_goto (pc := 94) 2 k_fm_two_94 (by decide) ?_
    exact hv
  · replace hv := hv.2 q
    refine tr_aload_n (pc := 26) 0 k_fm_two_26 rfl rfl ?_
    refine tr_getIx (pc := 27) k_fm_two_27 fl_fm_270 rfl rfl ?_
    refine tr_iconst (pc := 30) (v := 3) k_fm_two_30 (by decide) ?_
    refine tr_icmp_ne (pc := 31) 91 k_fm_two_31 (by decide) (fun q => ?_) (fun q => ?_)
    · replace hv := hv.1 q
      refine tr_iinc (pc := 91) (v := (x3 + 1)) k_fm_two_91 rfl rfl (by decide) rfl ?_
      show mT g me_fm_two (d + 3) 0 0 94 [some (vr 10 0), some (vi x1), some (vi x2), some (vi (x3 + 1)), some (vi x4)] [] h _
      refine tr_goto (pc := 94) 2 k_fm_two_94 (by decide) ?_
      exact hv
    · replace hv := hv.2 q
      refine tr_aload_n (pc := 34) 0 k_fm_two_34 rfl rfl ?_
      refine tr_getP (pc := 35) k_fm_two_35 fl_fm_87 rfl (Eq.trans rfl (hsk.1 10 31 _ rfl)) ?_
      refine tr_iload_n (pc := 38) 1 k_fm_two_38 rfl rfl ?_
      refine tr_iload_n (pc := 39) 3 k_fm_two_39 rfl rfl ?_
      refine tr_iast (pc := 40) k_fm_two_40 (mvin (hsk.2.1 11 28 _ rfl) hv.1) ?_
      replace hv := hv.2
      refine tr_aload_n (pc := 41) 0 k_fm_two_41 rfl rfl ?_
      refine tr_getP (pc := 42) k_fm_two_42 fl_fm_87 rfl (Eq.trans (hP_setI) (hsk.1 10 31 _ rfl)) ?_
      refine tr_iload_n (pc := 45) 2 k_fm_two_45 rfl rfl ?_
      refine tr_iload (pc := 46) k_fm_two_46 rfl ?_
      refine tr_iast (pc := 48) k_fm_two_48 (mvin (hsk.2.1 11 28 _ rfl) hv.1) ?_
      replace hv := hv.2
      refine tr_aload_n (pc := 49) 0 k_fm_two_49 rfl rfl ?_
      have hT := hv
      clear hv
      refine tr_callV (pc := 50) (d' := d + 2) (mc' := 0) (ms' := 0) [] k_fm_two_50 ca_fm_explains ml_fm_288 ii_fm_explains ⟨by decide, rfl⟩ pa_fm_explains (by omega) (by omega) (by omega) rfl (Nat.le_of_ble_eq_true rfl) (Nat.le_of_ble_eq_true rfl) hT (fun v h9 hv => ?_)
      clear hT
      obtain ⟨y2, rfl, hv⟩ := hv
      obtain ⟨h1, eh⟩ : ∃ z, z = h9 := ⟨_, rfl⟩
      subst eh
      obtain ⟨hskh1, hv⟩ := hv
      show mT g me_fm_two (d + 3) 0 0 53 [some (vr 10 0), some (vi x1), some (vi x2), some (vi x3), some (vi x4)] [vi y2] h1 _
      refine tr_if_ne (pc := 53) 59 k_fm_two_53 (by decide) (fun q => ?_) (fun q => ?_)
      · replace hv := hv.1 q
        refine tr_aload_n (pc := 59) 0 k_fm_two_59 rfl rfl ?_
        refine tr_iconst (pc := 60) (v := 2) k_fm_two_60 (by decide) ?_
        refine tr_putI (pc := 61) k_fm_two_61 fl_fm_270 (Or.inl rfl) rfl ⟨rfl, rfl⟩ ?_
        refine tr_aload_n (pc := 64) 0 k_fm_two_64 rfl rfl ?_
        refine tr_iload_n (pc := 65) 1 k_fm_two_65 rfl rfl ?_
        refine tr_putI (pc := 66) k_fm_two_66 fl_fm_273 (Or.inl rfl) rfl ⟨rfl, rfl⟩ ?_
        refine tr_aload_n (pc := 69) 0 k_fm_two_69 rfl rfl ?_
        refine tr_iload_n (pc := 70) 3 k_fm_two_70 rfl rfl ?_
        refine tr_putI (pc := 71) k_fm_two_71 fl_fm_276 (Or.inl rfl) rfl ⟨rfl, rfl⟩ ?_
        refine tr_aload_n (pc := 74) 0 k_fm_two_74 rfl rfl ?_
        refine tr_iload_n (pc := 75) 2 k_fm_two_75 rfl rfl ?_
        refine tr_putI (pc := 76) k_fm_two_76 fl_fm_279 (Or.inl rfl) rfl ⟨rfl, rfl⟩ ?_
        refine tr_aload_n (pc := 79) 0 k_fm_two_79 rfl rfl ?_
        refine tr_iload (pc := 80) k_fm_two_80 rfl ?_
        refine tr_putI (pc := 82) k_fm_two_82 fl_fm_282 (Or.inl rfl) rfl ⟨rfl, rfl⟩ ?_
        refine tr_iinc (pc := 85) (v := (x4 + 1)) k_fm_two_85 rfl rfl (by decide) rfl ?_
        show mT g me_fm_two (d + 3) 0 0 88 [some (vr 10 0), some (vi x1), some (vi x2), some (vi x3), some (vi (x4 + 1))] [] (setI (setI (setI (setI (setI h1 10 0 56 (2 : Int32)) 10 0 57 x1) 10 0 58 x3) 10 0 59 x2) 10 0 60 x4) _
        refine tr_goto (pc := 88) 19 k_fm_two_88 (by decide) ?_
        exact hv
      · replace hv := hv.2 q
        refine tr_goto (pc := 56) 85 k_fm_two_56 (by decide) ?_
        refine tr_iinc (pc := 85) (v := (x4 + 1)) k_fm_two_85 rfl rfl (by decide) rfl ?_
        show mT g me_fm_two (d + 3) 0 0 88 [some (vr 10 0), some (vi x1), some (vi x2), some (vi x3), some (vi (x4 + 1))] [] h1 _
        refine tr_goto (pc := 88) 19 k_fm_two_88 (by decide) ?_
        exact hv
theorem v_fm_explained_0 {g : mG} {d : Nat} (x1 : Int32) {h : mH} {Q : Option mV → mH → Prop} (hsk : mSK h) (hv : ((x1 < 0 → mT g me_fm_refuse (d + 4) 0 0 0 [some (vr 10 0), some (vi (-2 : Int32))] [] h (fun v h1 => ∃ y2, v = some (vi y2) ∧ mSK h1 ∧ Q (some (vi y2)) h1)) ∧ (¬ x1 < 0 → (((4 : Int32) ≤ x1 → mT g me_fm_refuse (d + 4) 0 0 0 [some (vr 10 0), some (vi (-2 : Int32))] [] h (fun v h3 => ∃ y4, v = some (vi y4) ∧ mSK h3 ∧ Q (some (vi y4)) h3)) ∧ (¬ (4 : Int32) ≤ x1 → mT g me_fm_look (d + 4) 0 0 0 [some (vr 10 0), none, none, none, none] [] h (fun v h5 => v = none ∧ mSK h5 ∧ ((¬ x1 = 0 → ((¬ x1 = (1 : Int32) → ((¬ x1 = (2 : Int32) → Q (some (vi (hI h5 10 0 60))) h5) ∧ (x1 = (2 : Int32) → Q (some (vi (hI h5 10 0 59))) h5))) ∧ (x1 = (1 : Int32) → Q (some (vi (hI h5 10 0 58))) h5))) ∧ (x1 = 0 → Q (some (vi (hI h5 10 0 57))) h5)))))))) : mT g me_fm_explained (d + 5) 0 0 0 [some (vr 10 0), some (vi x1)] [] h Q := by
  refine tr_iload_n (pc := 0) 1 k_fm_explained_0 rfl rfl ?_
  refine tr_iconst (pc := 1) (v := 4) k_fm_explained_1 (by decide) ?_
  refine tr_callS (pc := 2) (d' := d + 4) (mc' := 0) (ms' := 0) [vi x1, vi (4 : Int32)] k_fm_explained_2 ca_fm_isIn ml_fm_144 is_fm_isIn pa_fm_isIn (by omega) (by omega) (by omega) rfl (Nat.le_of_ble_eq_true rfl) (Nat.le_of_ble_eq_true rfl) (Qk := fun v h9 => mT g me_fm_explained (d + 5) 0 0 5 [some (vr 10 0), some (vi x1)] (v.toList ++ []) h9 _) ?_ (fun _ _ z => z)
  show mT g me_fm_isIn (d + 4) 0 0 0 [some (vi x1), some (vi (4 : Int32))] [] h _
  refine tr_iload_n (pc := 0) 0 k_fm_isIn_0 rfl rfl ?_
  refine tr_if_lt (pc := 1) 13 k_fm_isIn_1 (by decide) (fun q => ?_) (fun q => ?_)
  · replace hv := hv.1 q
    refine tr_iconst (pc := 13) (v := 0) k_fm_isIn_13 (by decide) ?_
    refine tr_ireturn (pc := 14) k_fm_isIn_14 rfl rfl ?_
    show mT g me_fm_explained (d + 5) 0 0 5 [some (vr 10 0), some (vi x1)] [vi (0 : Int32)] h _
    refine tr_if_ne (pc := 5) 15 k_fm_explained_5 (by decide) (fun q => absurd q (by decide)) (fun _ => ?_)
    refine tr_aload_n (pc := 8) 0 k_fm_explained_8 rfl rfl ?_
    refine tr_bipush (pc := 9) (v := -2) k_fm_explained_9 (by decide) ?_
    have hT := hv
    clear hv
    refine tr_callV (pc := 11) (d' := d + 4) (mc' := 0) (ms' := 0) [vi (-2 : Int32)] k_fm_explained_11 ca_fm_refuse ml_fm_133 ii_fm_refuse ⟨by decide, rfl⟩ pa_fm_refuse (by omega) (by omega) (by omega) rfl (Nat.le_of_ble_eq_true rfl) (Nat.le_of_ble_eq_true rfl) hT (fun v h9 hv => ?_)
    clear hT
    obtain ⟨y2, rfl, hv⟩ := hv
    obtain ⟨h1, eh⟩ : ∃ z, z = h9 := ⟨_, rfl⟩
    subst eh
    obtain ⟨hskh1, hv⟩ := hv
    show mT g me_fm_explained (d + 5) 0 0 14 [some (vr 10 0), some (vi x1)] [vi y2] h1 _
    refine tr_ireturn (pc := 14) k_fm_explained_14 rfl rfl ?_
    exact hv
  · replace hv := hv.2 q
    refine tr_iload_n (pc := 4) 0 k_fm_isIn_4 rfl rfl ?_
    refine tr_iload_n (pc := 5) 1 k_fm_isIn_5 rfl rfl ?_
    refine tr_icmp_ge (pc := 6) 13 k_fm_isIn_6 (by decide) (fun q => ?_) (fun q => ?_)
    · replace hv := hv.1 q
      refine tr_iconst (pc := 13) (v := 0) k_fm_isIn_13 (by decide) ?_
      refine tr_ireturn (pc := 14) k_fm_isIn_14 rfl rfl ?_
      show mT g me_fm_explained (d + 5) 0 0 5 [some (vr 10 0), some (vi x1)] [vi (0 : Int32)] h _
      refine tr_if_ne (pc := 5) 15 k_fm_explained_5 (by decide) (fun q => absurd q (by decide)) (fun _ => ?_)
      refine tr_aload_n (pc := 8) 0 k_fm_explained_8 rfl rfl ?_
      refine tr_bipush (pc := 9) (v := -2) k_fm_explained_9 (by decide) ?_
      have hT := hv
      clear hv
      refine tr_callV (pc := 11) (d' := d + 4) (mc' := 0) (ms' := 0) [vi (-2 : Int32)] k_fm_explained_11 ca_fm_refuse ml_fm_133 ii_fm_refuse ⟨by decide, rfl⟩ pa_fm_refuse (by omega) (by omega) (by omega) rfl (Nat.le_of_ble_eq_true rfl) (Nat.le_of_ble_eq_true rfl) hT (fun v h9 hv => ?_)
      clear hT
      obtain ⟨y4, rfl, hv⟩ := hv
      obtain ⟨h3, eh⟩ : ∃ z, z = h9 := ⟨_, rfl⟩
      subst eh
      obtain ⟨hskh3, hv⟩ := hv
      show mT g me_fm_explained (d + 5) 0 0 14 [some (vr 10 0), some (vi x1)] [vi y4] h3 _
      refine tr_ireturn (pc := 14) k_fm_explained_14 rfl rfl ?_
      exact hv
    · replace hv := hv.2 q
      refine tr_iconst (pc := 9) (v := 1) k_fm_isIn_9 (by decide) ?_
      refine tr_goto (pc := 10) 14 k_fm_isIn_10 (by decide) ?_
      refine tr_ireturn (pc := 14) k_fm_isIn_14 rfl rfl ?_
      show mT g me_fm_explained (d + 5) 0 0 5 [some (vr 10 0), some (vi x1)] [vi (1 : Int32)] h _
      refine tr_if_ne (pc := 5) 15 k_fm_explained_5 (by decide) (fun _ => ?_) (fun q => absurd q (by decide))
      refine tr_aload_n (pc := 15) 0 k_fm_explained_15 rfl rfl ?_
      have hT := hv
      clear hv
      refine tr_callV (pc := 16) (d' := d + 4) (mc' := 0) (ms' := 0) [] k_fm_explained_16 ca_fm_look ml_fm_295 ii_fm_look ⟨by decide, rfl⟩ pa_fm_look (by omega) (by omega) (by omega) rfl (Nat.le_of_ble_eq_true rfl) (Nat.le_of_ble_eq_true rfl) hT (fun v h9 hv => ?_)
      clear hT
      obtain ⟨rfl, hv⟩ := hv
      obtain ⟨h5, eh⟩ : ∃ z, z = h9 := ⟨_, rfl⟩
      subst eh
      obtain ⟨hskh5, hv⟩ := hv
      show mT g me_fm_explained (d + 5) 0 0 19 [some (vr 10 0), some (vi x1)] [] h5 _
      refine tr_iload_n (pc := 19) 1 k_fm_explained_19 rfl rfl ?_
      refine tr_if_ne (pc := 20) 30 k_fm_explained_20 (by decide) (fun q => ?_) (fun q => ?_)
      · replace hv := hv.1 q
        refine tr_iload_n (pc := 30) 1 k_fm_explained_30 rfl rfl ?_
        refine tr_iconst (pc := 31) (v := 1) k_fm_explained_31 (by decide) ?_
        refine tr_icmp_ne (pc := 32) 42 k_fm_explained_32 (by decide) (fun q => ?_) (fun q => ?_)
        · replace hv := hv.1 q
          refine tr_iload_n (pc := 42) 1 k_fm_explained_42 rfl rfl ?_
          refine tr_iconst (pc := 43) (v := 2) k_fm_explained_43 (by decide) ?_
          refine tr_icmp_ne (pc := 44) 54 k_fm_explained_44 (by decide) (fun q => ?_) (fun q => ?_)
          · replace hv := hv.1 q
            refine tr_aload_n (pc := 54) 0 k_fm_explained_54 rfl rfl ?_
            refine tr_getIx (pc := 55) k_fm_explained_55 fl_fm_282 rfl rfl ?_
            refine tr_ireturn (pc := 58) k_fm_explained_58 rfl rfl ?_
            exact hv
          · replace hv := hv.2 q
            refine tr_aload_n (pc := 47) 0 k_fm_explained_47 rfl rfl ?_
            refine tr_getIx (pc := 48) k_fm_explained_48 fl_fm_279 rfl rfl ?_
            refine tr_goto (pc := 51) 58 k_fm_explained_51 (by decide) ?_
            refine tr_ireturn (pc := 58) k_fm_explained_58 rfl rfl ?_
            exact hv
        · replace hv := hv.2 q
          refine tr_aload_n (pc := 35) 0 k_fm_explained_35 rfl rfl ?_
          refine tr_getIx (pc := 36) k_fm_explained_36 fl_fm_276 rfl rfl ?_
          refine tr_goto (pc := 39) 58 k_fm_explained_39 (by decide) ?_
          refine tr_ireturn (pc := 58) k_fm_explained_58 rfl rfl ?_
          exact hv
      · replace hv := hv.2 q
        refine tr_aload_n (pc := 23) 0 k_fm_explained_23 rfl rfl ?_
        refine tr_getIx (pc := 24) k_fm_explained_24 fl_fm_273 rfl rfl ?_
        refine tr_goto (pc := 27) 58 k_fm_explained_27 (by decide) ?_
        refine tr_ireturn (pc := 58) k_fm_explained_58 rfl rfl ?_
        exact hv
theorem v_fm_rivals_0 {g : mG} {d : Nat}  {h : mH} {Q : Option mV → mH → Prop} (hsk : mSK h) (hv : mT g me_fm_look (d + 4) 0 0 0 [some (vr 10 0), none, none, none, none] [] h (fun v h1 => v = none ∧ mSK h1 ∧ Q (some (vi (hI h1 10 0 61))) h1)) : mT g me_fm_rivals (d + 5) 0 0 0 [some (vr 10 0)] [] h Q := by
  refine tr_aload_n (pc := 0) 0 k_fm_rivals_0 rfl rfl ?_
  have hT := hv
  clear hv
  refine tr_callV (pc := 1) (d' := d + 4) (mc' := 0) (ms' := 0) [] k_fm_rivals_1 ca_fm_look ml_fm_295 ii_fm_look ⟨by decide, rfl⟩ pa_fm_look (by omega) (by omega) (by omega) rfl (Nat.le_of_ble_eq_true rfl) (Nat.le_of_ble_eq_true rfl) hT (fun v h9 hv => ?_)
  clear hT
  obtain ⟨rfl, hv⟩ := hv
  obtain ⟨h1, eh⟩ : ∃ z, z = h9 := ⟨_, rfl⟩
  subst eh
  obtain ⟨hskh1, hv⟩ := hv
  show mT g me_fm_rivals (d + 5) 0 0 4 [some (vr 10 0)] [] h1 _
  refine tr_aload_n (pc := 4) 0 k_fm_rivals_4 rfl rfl ?_
  refine tr_getIx (pc := 5) k_fm_rivals_5 fl_fm_285 rfl rfl ?_
  refine tr_ireturn (pc := 8) k_fm_rivals_8 rfl rfl ?_
  exact hv
theorem v_fm_empty_0 {g : mG} {d : Nat} (x1 : Int32) {h : mH} {Q : Option mV → mH → Prop} (hsk : mSK h) (hv : ((x1 < 0 → mT g me_fm_refuse (d + 2) 0 0 0 [some (vr 10 0), some (vi (-1 : Int32))] [] h (fun v h1 => ∃ y2, v = some (vi y2) ∧ mSK h1 ∧ Q (some (vi y2)) h1)) ∧ (¬ x1 < 0 → (((hI h 10 0 3) ≤ x1 → mT g me_fm_refuse (d + 2) 0 0 0 [some (vr 10 0), some (vi (-1 : Int32))] [] h (fun v h3 => ∃ y4, v = some (vi y4) ∧ mSK h3 ∧ Q (some (vi y4)) h3)) ∧ (¬ (hI h 10 0 3) ≤ x1 → mT g me_fm_mayEmpty (d + 2) 0 0 0 [some (vr 10 0), some (vi x1), some (vr 12 0), none, none] [] h (fun v h5 => ∃ y6, v = some (vi y6) ∧ mSK h5 ∧ ((y6 = 0 → mT g me_fm_refuse (d + 2) 0 0 0 [some (vr 10 0), some (vi (-3 : Int32))] [] h5 (fun v h7 => ∃ y8, v = some (vi y8) ∧ mSK h7 ∧ Q (some (vi y8)) h7)) ∧ (¬ y6 = 0 → (vp_in x1 30 ∧ (((hI h5 11 20 x1.toNatClampNeg) < 0 → (vp_in x1 30 ∧ Q (some (vi (1 : Int32))) (setI (setI h5 12 0 x1.toNatClampNeg (1 : Int32)) 10 0 55 (0 : Int32)))) ∧ (¬ (hI h5 11 20 x1.toNatClampNeg) < 0 → (vp_in x1 30 ∧ (vp_in (hI h5 11 20 x1.toNatClampNeg) 24 ∧ (((hI h5 12 1 ((hI h5 11 20 x1.toNatClampNeg).toNatClampNeg)) = 0 → (vp_in x1 30 ∧ Q (some (vi (1 : Int32))) (setI (setI h5 12 0 x1.toNatClampNeg (1 : Int32)) 10 0 55 (0 : Int32)))) ∧ (¬ (hI h5 12 1 ((hI h5 11 20 x1.toNatClampNeg).toNatClampNeg)) = 0 → mT g me_fm_refuse (d + 2) 0 0 0 [some (vr 10 0), some (vi (-3 : Int32))] [] h5 (fun v h9 => ∃ y10, v = some (vi y10) ∧ mSK h9 ∧ Q (some (vi y10)) h9)))))))))))))))) : mT g me_fm_empty (d + 3) 0 0 0 [some (vr 10 0), some (vi x1)] [] h Q := by
  refine tr_aload_n (pc := 0) 0 k_fm_empty_0 rfl rfl ?_
  refine tr_iload_n (pc := 1) 1 k_fm_empty_1 rfl rfl ?_
  refine tr_callV (pc := 2) (d' := d + 2) (mc' := 0) (ms' := 0) [vi x1] k_fm_empty_2 ca_fm_isJoint ml_fm_161 ii_fm_isJoint ⟨by decide, rfl⟩ pa_fm_isJoint (by omega) (by omega) (by omega) rfl (Nat.le_of_ble_eq_true rfl) (Nat.le_of_ble_eq_true rfl) (Qk := fun v h9 => mT g me_fm_empty (d + 3) 0 0 5 [some (vr 10 0), some (vi x1)] (v.toList ++ []) h9 _) ?_ (fun _ _ z => z)
  show mT g me_fm_isJoint (d + 2) 0 0 0 [some (vr 10 0), some (vi x1)] [] h _
  refine tr_iload_n (pc := 0) 1 k_fm_isJoint_0 rfl rfl ?_
  refine tr_aload_n (pc := 1) 0 k_fm_isJoint_1 rfl rfl ?_
  refine tr_getIx (pc := 2) k_fm_isJoint_2 fl_fm_155 rfl rfl ?_
  refine tr_callS (pc := 5) (d' := d + 1) (mc' := 0) (ms' := 0) [vi x1, vi (hI h 10 0 3)] k_fm_isJoint_5 ca_fm_isIn ml_fm_144 is_fm_isIn pa_fm_isIn (by omega) (by omega) (by omega) rfl (Nat.le_of_ble_eq_true rfl) (Nat.le_of_ble_eq_true rfl) (Qk := fun v h9 => mT g me_fm_isJoint (d + 2) 0 0 8 [some (vr 10 0), some (vi x1)] (v.toList ++ []) h9 _) ?_ (fun _ _ z => z)
  show mT g me_fm_isIn (d + 1) 0 0 0 [some (vi x1), some (vi (hI h 10 0 3))] [] h _
  refine tr_iload_n (pc := 0) 0 k_fm_isIn_0 rfl rfl ?_
  refine tr_if_lt (pc := 1) 13 k_fm_isIn_1 (by decide) (fun q => ?_) (fun q => ?_)
  · replace hv := hv.1 q
    refine tr_iconst (pc := 13) (v := 0) k_fm_isIn_13 (by decide) ?_
    refine tr_ireturn (pc := 14) k_fm_isIn_14 rfl rfl ?_
    show mT g me_fm_isJoint (d + 2) 0 0 8 [some (vr 10 0), some (vi x1)] [vi (0 : Int32)] h _
    refine tr_ireturn (pc := 8) k_fm_isJoint_8 rfl rfl ?_
    show mT g me_fm_empty (d + 3) 0 0 5 [some (vr 10 0), some (vi x1)] [vi (0 : Int32)] h _
    refine tr_if_ne (pc := 5) 14 k_fm_empty_5 (by decide) (fun q => absurd q (by decide)) (fun _ => ?_)
    refine tr_aload_n (pc := 8) 0 k_fm_empty_8 rfl rfl ?_
    refine tr_iconst (pc := 9) (v := -1) k_fm_empty_9 (by decide) ?_
    have hT := hv
    clear hv
    refine tr_callV (pc := 10) (d' := d + 2) (mc' := 0) (ms' := 0) [vi (-1 : Int32)] k_fm_empty_10 ca_fm_refuse ml_fm_133 ii_fm_refuse ⟨by decide, rfl⟩ pa_fm_refuse (by omega) (by omega) (by omega) rfl (Nat.le_of_ble_eq_true rfl) (Nat.le_of_ble_eq_true rfl) hT (fun v h9 hv => ?_)
    clear hT
    obtain ⟨y2, rfl, hv⟩ := hv
    obtain ⟨h1, eh⟩ : ∃ z, z = h9 := ⟨_, rfl⟩
    subst eh
    obtain ⟨hskh1, hv⟩ := hv
    show mT g me_fm_empty (d + 3) 0 0 13 [some (vr 10 0), some (vi x1)] [vi y2] h1 _
    refine tr_ireturn (pc := 13) k_fm_empty_13 rfl rfl ?_
    exact hv
  · replace hv := hv.2 q
    refine tr_iload_n (pc := 4) 0 k_fm_isIn_4 rfl rfl ?_
    refine tr_iload_n (pc := 5) 1 k_fm_isIn_5 rfl rfl ?_
    refine tr_icmp_ge (pc := 6) 13 k_fm_isIn_6 (by decide) (fun q => ?_) (fun q => ?_)
    · replace hv := hv.1 q
      refine tr_iconst (pc := 13) (v := 0) k_fm_isIn_13 (by decide) ?_
      refine tr_ireturn (pc := 14) k_fm_isIn_14 rfl rfl ?_
      show mT g me_fm_isJoint (d + 2) 0 0 8 [some (vr 10 0), some (vi x1)] [vi (0 : Int32)] h _
      refine tr_ireturn (pc := 8) k_fm_isJoint_8 rfl rfl ?_
      show mT g me_fm_empty (d + 3) 0 0 5 [some (vr 10 0), some (vi x1)] [vi (0 : Int32)] h _
      refine tr_if_ne (pc := 5) 14 k_fm_empty_5 (by decide) (fun q => absurd q (by decide)) (fun _ => ?_)
      refine tr_aload_n (pc := 8) 0 k_fm_empty_8 rfl rfl ?_
      refine tr_iconst (pc := 9) (v := -1) k_fm_empty_9 (by decide) ?_
      have hT := hv
      clear hv
      refine tr_callV (pc := 10) (d' := d + 2) (mc' := 0) (ms' := 0) [vi (-1 : Int32)] k_fm_empty_10 ca_fm_refuse ml_fm_133 ii_fm_refuse ⟨by decide, rfl⟩ pa_fm_refuse (by omega) (by omega) (by omega) rfl (Nat.le_of_ble_eq_true rfl) (Nat.le_of_ble_eq_true rfl) hT (fun v h9 hv => ?_)
      clear hT
      obtain ⟨y4, rfl, hv⟩ := hv
      obtain ⟨h3, eh⟩ : ∃ z, z = h9 := ⟨_, rfl⟩
      subst eh
      obtain ⟨hskh3, hv⟩ := hv
      show mT g me_fm_empty (d + 3) 0 0 13 [some (vr 10 0), some (vi x1)] [vi y4] h3 _
      refine tr_ireturn (pc := 13) k_fm_empty_13 rfl rfl ?_
      exact hv
    · replace hv := hv.2 q
      refine tr_iconst (pc := 9) (v := 1) k_fm_isIn_9 (by decide) ?_
      refine tr_goto (pc := 10) 14 k_fm_isIn_10 (by decide) ?_
      refine tr_ireturn (pc := 14) k_fm_isIn_14 rfl rfl ?_
      show mT g me_fm_isJoint (d + 2) 0 0 8 [some (vr 10 0), some (vi x1)] [vi (1 : Int32)] h _
      refine tr_ireturn (pc := 8) k_fm_isJoint_8 rfl rfl ?_
      show mT g me_fm_empty (d + 3) 0 0 5 [some (vr 10 0), some (vi x1)] [vi (1 : Int32)] h _
      refine tr_if_ne (pc := 5) 14 k_fm_empty_5 (by decide) (fun _ => ?_) (fun q => absurd q (by decide))
      refine tr_aload_n (pc := 14) 0 k_fm_empty_14 rfl rfl ?_
      refine tr_iload_n (pc := 15) 1 k_fm_empty_15 rfl rfl ?_
      refine tr_aload_n (pc := 16) 0 k_fm_empty_16 rfl rfl ?_
      refine tr_getP (pc := 17) k_fm_empty_17 fl_fm_59 rfl (Eq.trans rfl (hsk.1 10 22 _ rfl)) ?_
      have hT := hv
      clear hv
      refine tr_callV (pc := 20) (d' := d + 2) (mc' := 0) (ms' := 0) [vi x1, vr 12 0] k_fm_empty_20 ca_fm_mayEmpty ml_fm_298 ii_fm_mayEmpty ⟨by decide, rfl⟩ pa_fm_mayEmpty (by omega) (by omega) (by omega) rfl (Nat.le_of_ble_eq_true rfl) (Nat.le_of_ble_eq_true rfl) hT (fun v h9 hv => ?_)
      clear hT
      obtain ⟨y6, rfl, hv⟩ := hv
      obtain ⟨h5, eh⟩ : ∃ z, z = h9 := ⟨_, rfl⟩
      subst eh
      obtain ⟨hskh5, hv⟩ := hv
      show mT g me_fm_empty (d + 3) 0 0 23 [some (vr 10 0), some (vi x1)] [vi y6] h5 _
      refine tr_if_eq (pc := 23) 49 k_fm_empty_23 (by decide) (fun q => ?_) (fun q => ?_)
      · replace hv := hv.1 q
        refine tr_aload_n (pc := 49) 0 k_fm_empty_49 rfl rfl ?_
        refine tr_bipush (pc := 50) (v := -3) k_fm_empty_50 (by decide) ?_
        have hT := hv
        clear hv
        refine tr_callV (pc := 52) (d' := d + 2) (mc' := 0) (ms' := 0) [vi (-3 : Int32)] k_fm_empty_52 ca_fm_refuse ml_fm_133 ii_fm_refuse ⟨by decide, rfl⟩ pa_fm_refuse (by omega) (by omega) (by omega) rfl (Nat.le_of_ble_eq_true rfl) (Nat.le_of_ble_eq_true rfl) hT (fun v h9 hv => ?_)
        clear hT
        obtain ⟨y8, rfl, hv⟩ := hv
        obtain ⟨h7, eh⟩ : ∃ z, z = h9 := ⟨_, rfl⟩
        subst eh
        obtain ⟨hskh7, hv⟩ := hv
        show mT g me_fm_empty (d + 3) 0 0 55 [some (vr 10 0), some (vi x1)] [vi y8] h7 _
        refine tr_ireturn (pc := 55) k_fm_empty_55 rfl rfl ?_
        exact hv
      · replace hv := hv.2 q
        refine tr_aload_n (pc := 26) 0 k_fm_empty_26 rfl rfl ?_
        refine tr_getP (pc := 27) k_fm_empty_27 fl_fm_56 rfl (Eq.trans rfl (hskh5.1 10 21 _ rfl)) ?_
        refine tr_iload_n (pc := 30) 1 k_fm_empty_30 rfl rfl ?_
        refine tr_ialdx (pc := 31) k_fm_empty_31 (mvin (hskh5.2.1 11 20 _ rfl) hv.1) rfl ?_
        replace hv := hv.2
        refine tr_if_lt (pc := 32) 56 k_fm_empty_32 (by decide) (fun q => ?_) (fun q => ?_)
        · replace hv := hv.1 q
          refine tr_aload_n (pc := 56) 0 k_fm_empty_56 rfl rfl ?_
          refine tr_getP (pc := 57) k_fm_empty_57 fl_fm_59 rfl (Eq.trans rfl (hskh5.1 10 22 _ rfl)) ?_
          refine tr_iload_n (pc := 60) 1 k_fm_empty_60 rfl rfl ?_
          refine tr_iconst (pc := 61) (v := 1) k_fm_empty_61 (by decide) ?_
          refine tr_zast (pc := 62) k_fm_empty_62 (mvin (hskh5.2.1 12 0 _ rfl) hv.1) rfl ?_
          replace hv := hv.2
          refine tr_aload_n (pc := 63) 0 k_fm_empty_63 rfl rfl ?_
          refine tr_callV (pc := 64) (d' := d + 2) (mc' := 0) (ms' := 0) [] k_fm_empty_64 ca_fm_changes ml_fm_152 ii_fm_changes ⟨by decide, rfl⟩ pa_fm_changes (by omega) (by omega) (by omega) rfl (Nat.le_of_ble_eq_true rfl) (Nat.le_of_ble_eq_true rfl) (Qk := fun v h9 => mT g me_fm_empty (d + 3) 0 0 67 [some (vr 10 0), some (vi x1)] (v.toList ++ []) h9 _) ?_ (fun _ _ z => z)
          show mT g me_fm_changes (d + 2) 0 0 0 [some (vr 10 0)] [] (setI h5 12 0 x1.toNatClampNeg (1 : Int32)) _
          refine tr_aload_n (pc := 0) 0 k_fm_changes_0 rfl rfl ?_
          refine tr_iconst (pc := 1) (v := 0) k_fm_changes_1 (by decide) ?_
          refine tr_putI (pc := 2) k_fm_changes_2 fl_fm_137 (Or.inl rfl) rfl ⟨rfl, rfl⟩ ?_
          refine tr_return (pc := 5) k_fm_changes_5 rfl ?_
          show mT g me_fm_empty (d + 3) 0 0 67 [some (vr 10 0), some (vi x1)] [] (setI (setI h5 12 0 x1.toNatClampNeg (1 : Int32)) 10 0 55 (0 : Int32)) _
          refine tr_iconst (pc := 67) (v := 1) k_fm_empty_67 (by decide) ?_
          refine tr_ireturn (pc := 68) k_fm_empty_68 rfl rfl ?_
          exact hv
        · replace hv := hv.2 q
          refine tr_aload_n (pc := 35) 0 k_fm_empty_35 rfl rfl ?_
          refine tr_getP (pc := 36) k_fm_empty_36 fl_fm_72 rfl (Eq.trans rfl (hskh5.1 10 26 _ rfl)) ?_
          refine tr_aload_n (pc := 39) 0 k_fm_empty_39 rfl rfl ?_
          refine tr_getP (pc := 40) k_fm_empty_40 fl_fm_56 rfl (Eq.trans rfl (hskh5.1 10 21 _ rfl)) ?_
          refine tr_iload_n (pc := 43) 1 k_fm_empty_43 rfl rfl ?_
          refine tr_ialdx (pc := 44) k_fm_empty_44 (mvin (hskh5.2.1 11 20 _ rfl) hv.1) rfl ?_
          replace hv := hv.2
          refine tr_zaldx (pc := 45) k_fm_empty_45 (mvin (hskh5.2.1 12 1 _ rfl) hv.1) rfl ?_
          replace hv := hv.2
          refine tr_if_eq (pc := 46) 56 k_fm_empty_46 (by decide) (fun q => ?_) (fun q => ?_)
          · replace hv := hv.1 q
            refine tr_aload_n (pc := 56) 0 k_fm_empty_56 rfl rfl ?_
            refine tr_getP (pc := 57) k_fm_empty_57 fl_fm_59 rfl (Eq.trans rfl (hskh5.1 10 22 _ rfl)) ?_
            refine tr_iload_n (pc := 60) 1 k_fm_empty_60 rfl rfl ?_
            refine tr_iconst (pc := 61) (v := 1) k_fm_empty_61 (by decide) ?_
            refine tr_zast (pc := 62) k_fm_empty_62 (mvin (hskh5.2.1 12 0 _ rfl) hv.1) rfl ?_
            replace hv := hv.2
            refine tr_aload_n (pc := 63) 0 k_fm_empty_63 rfl rfl ?_
            refine tr_callV (pc := 64) (d' := d + 2) (mc' := 0) (ms' := 0) [] k_fm_empty_64 ca_fm_changes ml_fm_152 ii_fm_changes ⟨by decide, rfl⟩ pa_fm_changes (by omega) (by omega) (by omega) rfl (Nat.le_of_ble_eq_true rfl) (Nat.le_of_ble_eq_true rfl) (Qk := fun v h9 => mT g me_fm_empty (d + 3) 0 0 67 [some (vr 10 0), some (vi x1)] (v.toList ++ []) h9 _) ?_ (fun _ _ z => z)
            show mT g me_fm_changes (d + 2) 0 0 0 [some (vr 10 0)] [] (setI h5 12 0 x1.toNatClampNeg (1 : Int32)) _
            refine tr_aload_n (pc := 0) 0 k_fm_changes_0 rfl rfl ?_
            refine tr_iconst (pc := 1) (v := 0) k_fm_changes_1 (by decide) ?_
            refine tr_putI (pc := 2) k_fm_changes_2 fl_fm_137 (Or.inl rfl) rfl ⟨rfl, rfl⟩ ?_
            refine tr_return (pc := 5) k_fm_changes_5 rfl ?_
            show mT g me_fm_empty (d + 3) 0 0 67 [some (vr 10 0), some (vi x1)] [] (setI (setI h5 12 0 x1.toNatClampNeg (1 : Int32)) 10 0 55 (0 : Int32)) _
            refine tr_iconst (pc := 67) (v := 1) k_fm_empty_67 (by decide) ?_
            refine tr_ireturn (pc := 68) k_fm_empty_68 rfl rfl ?_
            exact hv
          · replace hv := hv.2 q
            refine tr_aload_n (pc := 49) 0 k_fm_empty_49 rfl rfl ?_
            refine tr_bipush (pc := 50) (v := -3) k_fm_empty_50 (by decide) ?_
            have hT := hv
            clear hv
            refine tr_callV (pc := 52) (d' := d + 2) (mc' := 0) (ms' := 0) [vi (-3 : Int32)] k_fm_empty_52 ca_fm_refuse ml_fm_133 ii_fm_refuse ⟨by decide, rfl⟩ pa_fm_refuse (by omega) (by omega) (by omega) rfl (Nat.le_of_ble_eq_true rfl) (Nat.le_of_ble_eq_true rfl) hT (fun v h9 hv => ?_)
            clear hT
            obtain ⟨y10, rfl, hv⟩ := hv
            obtain ⟨h9, eh⟩ : ∃ z, z = h9 := ⟨_, rfl⟩
            subst eh
            obtain ⟨hskh9, hv⟩ := hv
            show mT g me_fm_empty (d + 3) 0 0 55 [some (vr 10 0), some (vi x1)] [vi y10] h9 _
            refine tr_ireturn (pc := 55) k_fm_empty_55 rfl rfl ?_
            exact hv
theorem v_fm_mayEmpty_0 {g : mG} {d : Nat} (x1 : Int32) (a2 : Nat) {h : mH} {Q : Option mV → mH → Prop} (hsk : mSK h) (hv : (vp_in x1 (hL h 12 a2) ∧ ((¬ (hI h 12 a2 x1.toNatClampNeg) = 0 → mT g me_fm_mayEmpty (d + 1) 0 0 17 [some (vr 10 0), some (vi x1), some (vr 12 a2), some (vi (0 : Int32)), some (vi (x1 + (1 : Int32)))] [] h Q) ∧ ((hI h 12 a2 x1.toNatClampNeg) = 0 → mT g me_fm_mayEmpty (d + 1) 0 0 17 [some (vr 10 0), some (vi x1), some (vr 12 a2), some (vi (1 : Int32)), some (vi (x1 + (1 : Int32)))] [] h Q)))) : mT g me_fm_mayEmpty (d + 1) 0 0 0 [some (vr 10 0), some (vi x1), some (vr 12 a2), none, none] [] h Q := by
  refine tr_aload_n (pc := 0) 2 k_fm_mayEmpty_0 rfl rfl ?_
  refine tr_iload_n (pc := 1) 1 k_fm_mayEmpty_1 rfl rfl ?_
  refine tr_zaldx (pc := 2) k_fm_mayEmpty_2 hv.1 rfl ?_
  replace hv := hv.2
  refine tr_if_ne (pc := 3) 10 k_fm_mayEmpty_3 (by decide) (fun q => ?_) (fun q => ?_)
  · replace hv := hv.1 q
    refine tr_iconst (pc := 10) (v := 0) k_fm_mayEmpty_10 (by decide) ?_
    refine tr_istore_n (pc := 11) 3 k_fm_mayEmpty_11 rfl (by decide) rfl ?_
    show mT g me_fm_mayEmpty (d + 1) 0 0 12 [some (vr 10 0), some (vi x1), some (vr 12 a2), some (vi (0 : Int32)), none] [] h _
    refine tr_iload_n (pc := 12) 1 k_fm_mayEmpty_12 rfl rfl ?_
    refine tr_iconst (pc := 13) (v := 1) k_fm_mayEmpty_13 (by decide) ?_
    refine tr_iadd (pc := 14) k_fm_mayEmpty_14 ?_
    refine tr_istore (pc := 15) k_fm_mayEmpty_15 (by decide) rfl ?_
    show mT g me_fm_mayEmpty (d + 1) 0 0 17 [some (vr 10 0), some (vi x1), some (vr 12 a2), some (vi (0 : Int32)), some (vi (x1 + (1 : Int32)))] [] h _
    exact hv
  · replace hv := hv.2 q
    refine tr_iconst (pc := 6) (v := 1) k_fm_mayEmpty_6 (by decide) ?_
    refine tr_goto (pc := 7) 11 k_fm_mayEmpty_7 (by decide) ?_
    refine tr_istore_n (pc := 11) 3 k_fm_mayEmpty_11 rfl (by decide) rfl ?_
    show mT g me_fm_mayEmpty (d + 1) 0 0 12 [some (vr 10 0), some (vi x1), some (vr 12 a2), some (vi (1 : Int32)), none] [] h _
    refine tr_iload_n (pc := 12) 1 k_fm_mayEmpty_12 rfl rfl ?_
    refine tr_iconst (pc := 13) (v := 1) k_fm_mayEmpty_13 (by decide) ?_
    refine tr_iadd (pc := 14) k_fm_mayEmpty_14 ?_
    refine tr_istore (pc := 15) k_fm_mayEmpty_15 (by decide) rfl ?_
    show mT g me_fm_mayEmpty (d + 1) 0 0 17 [some (vr 10 0), some (vi x1), some (vr 12 a2), some (vi (1 : Int32)), some (vi (x1 + (1 : Int32)))] [] h _
    exact hv
theorem v_fm_mayEmpty_17 {g : mG} {d : Nat} (x1 : Int32) (a2 : Nat) (x3 : Int32) (x4 : Int32) {h : mH} {Q : Option mV → mH → Prop} (hsk : mSK h) (hv : (((hI h 10 0 3) ≤ x4 → (vp_nar .boolean x3 = x3 ∧ Q (some (vi x3)) h)) ∧ (¬ (hI h 10 0 3) ≤ x4 → ((x3 = 0 → mT g me_fm_mayEmpty (d + 1) 0 0 17 [some (vr 10 0), some (vi x1), some (vr 12 a2), some (vi (0 : Int32)), some (vi (x4 + 1))] [] h Q) ∧ (¬ x3 = 0 → (vp_in x4 30 ∧ ((¬ (hI h 11 14 x4.toNatClampNeg) = x1 → mT g me_fm_mayEmpty (d + 1) 0 0 17 [some (vr 10 0), some (vi x1), some (vr 12 a2), some (vi (1 : Int32)), some (vi (x4 + 1))] [] h Q) ∧ ((hI h 11 14 x4.toNatClampNeg) = x1 → (vp_in x4 (hL h 12 a2) ∧ (((hI h 12 a2 x4.toNatClampNeg) = 0 → mT g me_fm_mayEmpty (d + 1) 0 0 17 [some (vr 10 0), some (vi x1), some (vr 12 a2), some (vi (0 : Int32)), some (vi (x4 + 1))] [] h Q) ∧ (¬ (hI h 12 a2 x4.toNatClampNeg) = 0 → mT g me_fm_mayEmpty (d + 1) 0 0 17 [some (vr 10 0), some (vi x1), some (vr 12 a2), some (vi (1 : Int32)), some (vi (x4 + 1))] [] h Q))))))))))) : mT g me_fm_mayEmpty (d + 1) 0 0 17 [some (vr 10 0), some (vi x1), some (vr 12 a2), some (vi x3), some (vi x4)] [] h Q := by
  refine tr_iload (pc := 17) k_fm_mayEmpty_17 rfl ?_
  refine tr_aload_n (pc := 19) 0 k_fm_mayEmpty_19 rfl rfl ?_
  refine tr_getIx (pc := 20) k_fm_mayEmpty_20 fl_fm_155 rfl rfl ?_
  refine tr_icmp_ge (pc := 23) 60 k_fm_mayEmpty_23 (by decide) (fun q => ?_) (fun q => ?_)
  · replace hv := hv.1 q
    refine tr_iload_n (pc := 60) 3 k_fm_mayEmpty_60 rfl rfl ?_
    refine tr_ireturn (pc := 61) k_fm_mayEmpty_61 rfl (mzret hv.1) ?_
    replace hv := hv.2
    exact hv
  · replace hv := hv.2 q
    refine tr_iload_n (pc := 26) 3 k_fm_mayEmpty_26 rfl rfl ?_
    refine tr_if_eq (pc := 27) 52 k_fm_mayEmpty_27 (by decide) (fun q => ?_) (fun q => ?_)
    · replace hv := hv.1 q
      refine tr_iconst (pc := 52) (v := 0) k_fm_mayEmpty_52 (by decide) ?_
      refine tr_istore_n (pc := 53) 3 k_fm_mayEmpty_53 rfl (by decide) rfl ?_
      show mT g me_fm_mayEmpty (d + 1) 0 0 54 [some (vr 10 0), some (vi x1), some (vr 12 a2), some (vi (0 : Int32)), some (vi x4)] [] h _
      refine tr_iinc (pc := 54) (v := (x4 + 1)) k_fm_mayEmpty_54 rfl rfl (by decide) rfl ?_
      show mT g me_fm_mayEmpty (d + 1) 0 0 57 [some (vr 10 0), some (vi x1), some (vr 12 a2), some (vi (0 : Int32)), some (vi (x4 + 1))] [] h _
      refine tr_goto (pc := 57) 17 k_fm_mayEmpty_57 (by decide) ?_
      exact hv
    · replace hv := hv.2 q
      refine tr_aload_n (pc := 30) 0 k_fm_mayEmpty_30 rfl rfl ?_
      refine tr_getP (pc := 31) k_fm_mayEmpty_31 fl_fm_38 rfl (Eq.trans rfl (hsk.1 10 15 _ rfl)) ?_
      refine tr_iload (pc := 34) k_fm_mayEmpty_34 rfl ?_
      refine tr_ialdx (pc := 36) k_fm_mayEmpty_36 (mvin (hsk.2.1 11 14 _ rfl) hv.1) rfl ?_
      replace hv := hv.2
      refine tr_iload_n (pc := 37) 1 k_fm_mayEmpty_37 rfl rfl ?_
      refine tr_icmp_ne (pc := 38) 48 k_fm_mayEmpty_38 (by decide) (fun q => ?_) (fun q => ?_)
      · replace hv := hv.1 q
        refine tr_iconst (pc := 48) (v := 1) k_fm_mayEmpty_48 (by decide) ?_
        refine tr_goto (pc := 49) 53 k_fm_mayEmpty_49 (by decide) ?_
        refine tr_istore_n (pc := 53) 3 k_fm_mayEmpty_53 rfl (by decide) rfl ?_
        show mT g me_fm_mayEmpty (d + 1) 0 0 54 [some (vr 10 0), some (vi x1), some (vr 12 a2), some (vi (1 : Int32)), some (vi x4)] [] h _
        refine tr_iinc (pc := 54) (v := (x4 + 1)) k_fm_mayEmpty_54 rfl rfl (by decide) rfl ?_
        show mT g me_fm_mayEmpty (d + 1) 0 0 57 [some (vr 10 0), some (vi x1), some (vr 12 a2), some (vi (1 : Int32)), some (vi (x4 + 1))] [] h _
        refine tr_goto (pc := 57) 17 k_fm_mayEmpty_57 (by decide) ?_
        exact hv
      · replace hv := hv.2 q
        refine tr_aload_n (pc := 41) 2 k_fm_mayEmpty_41 rfl rfl ?_
        refine tr_iload (pc := 42) k_fm_mayEmpty_42 rfl ?_
        refine tr_zaldx (pc := 44) k_fm_mayEmpty_44 hv.1 rfl ?_
        replace hv := hv.2
        refine tr_if_eq (pc := 45) 52 k_fm_mayEmpty_45 (by decide) (fun q => ?_) (fun q => ?_)
        · replace hv := hv.1 q
          refine tr_iconst (pc := 52) (v := 0) k_fm_mayEmpty_52 (by decide) ?_
          refine tr_istore_n (pc := 53) 3 k_fm_mayEmpty_53 rfl (by decide) rfl ?_
          show mT g me_fm_mayEmpty (d + 1) 0 0 54 [some (vr 10 0), some (vi x1), some (vr 12 a2), some (vi (0 : Int32)), some (vi x4)] [] h _
          refine tr_iinc (pc := 54) (v := (x4 + 1)) k_fm_mayEmpty_54 rfl rfl (by decide) rfl ?_
          show mT g me_fm_mayEmpty (d + 1) 0 0 57 [some (vr 10 0), some (vi x1), some (vr 12 a2), some (vi (0 : Int32)), some (vi (x4 + 1))] [] h _
          refine tr_goto (pc := 57) 17 k_fm_mayEmpty_57 (by decide) ?_
          exact hv
        · replace hv := hv.2 q
          refine tr_iconst (pc := 48) (v := 1) k_fm_mayEmpty_48 (by decide) ?_
          refine tr_goto (pc := 49) 53 k_fm_mayEmpty_49 (by decide) ?_
          refine tr_istore_n (pc := 53) 3 k_fm_mayEmpty_53 rfl (by decide) rfl ?_
          show mT g me_fm_mayEmpty (d + 1) 0 0 54 [some (vr 10 0), some (vi x1), some (vr 12 a2), some (vi (1 : Int32)), some (vi x4)] [] h _
          refine tr_iinc (pc := 54) (v := (x4 + 1)) k_fm_mayEmpty_54 rfl rfl (by decide) rfl ?_
          show mT g me_fm_mayEmpty (d + 1) 0 0 57 [some (vr 10 0), some (vi x1), some (vr 12 a2), some (vi (1 : Int32)), some (vi (x4 + 1))] [] h _
          refine tr_goto (pc := 57) 17 k_fm_mayEmpty_57 (by decide) ?_
          exact hv
