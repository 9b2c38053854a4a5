/-! printed by my own program: a walk that was wanting -/
theorem v_ga_mayBeEmptied_2 {g : mG} {d : Nat} (a1 : Nat) (x2 : Int32) (o3 : Option mV) {h : mH} {Q : Option mV → mH → Prop} (hsk : mSK h) (hv : (((hI h 2 1 1) ≤ x2 → mT g me_jn_drawAmong (d + 3) 0 0 0 [some (vr 7 a1), some (vi (hI h 1 0 3))] [] h (fun v h1 => ∃ y2, v = some (vi y2) ∧ mSK h1 ∧ ((¬ y2 = 0 → Q (some (vi (0 : Int32))) h1) ∧ (y2 = 0 → Q (some (vi (1 : Int32))) h1)))) ∧ (¬ (hI h 2 1 1) ≤ x2 → (∃ n3, mGet h 1 x2 (some (7, n3)) ∧ ((hP h 7 n3 2 = none → mT g me_ga_mayBeEmptied (d + 4) 0 0 2 [some (vr 1 0), some (vr 7 a1), some (vi (x2 + 1)), some (vr 7 n3)] [] h Q) ∧ (∀ kq n4, hP h 7 n3 2 = some (kq, n4) → kq = 7 ∧ ((¬ some (7, n4) = some (7, a1) → mT g me_ga_mayBeEmptied (d + 4) 0 0 2 [some (vr 1 0), some (vr 7 a1), some (vi (x2 + 1)), some (vr 7 n3)] [] h Q) ∧ (some (7, n4) = some (7, a1) → ((¬ (hI h 7 n3 8) = 0 → mT g me_ga_mayBeEmptied (d + 4) 0 0 2 [some (vr 1 0), some (vr 7 a1), some (vi (x2 + 1)), some (vr 7 n3)] [] h Q) ∧ ((hI h 7 n3 8) = 0 → Q (some (vi (0 : Int32))) h)))))))))) : mT g me_ga_mayBeEmptied (d + 4) 0 0 2 [some (vr 1 0), some (vr 7 a1), some (vi x2), o3] [] h Q := by
  refine tr_iload_n (pc := 2) 2 k_ga_mayBeEmptied_2 rfl rfl ?_
  refine tr_aload_n (pc := 3) 0 k_ga_mayBeEmptied_3 rfl rfl ?_
  refine tr_getP (pc := 4) k_ga_mayBeEmptied_4 fl_ga_18 rfl (Eq.trans rfl (hsk.1 1 1 _ rfl)) ?_
  refine tr_callV (pc := 7) (d' := d + 3) (mc' := 0) (ms' := 0) [] k_ga_mayBeEmptied_7 ca_al_size ml_ga_24 ii_al_size ⟨by decide, rfl⟩ pa_al_size (by omega) (by omega) (by omega) rfl (Nat.le_of_ble_eq_true rfl) (Nat.le_of_ble_eq_true rfl) (Qk := fun v h9 => mT g me_ga_mayBeEmptied (d + 4) 0 0 10 [some (vr 1 0), some (vr 7 a1), some (vi x2), o3] (v.toList ++ [vi x2]) h9 _) ?_ (fun _ _ z => z)
  show mT g me_al_size (d + 3) 0 0 0 [some (vr 2 1)] [] h _
  refine tr_aload_n (pc := 0) 0 k_al_size_0 rfl rfl ?_
  refine tr_getIx (pc := 1) k_al_size_1 fl_al_48 rfl rfl ?_
  refine tr_ireturn (pc := 4) k_al_size_4 rfl rfl ?_
  show mT g me_ga_mayBeEmptied (d + 4) 0 0 10 [some (vr 1 0), some (vr 7 a1), some (vi x2), o3] [vi (hI h 2 1 1), vi x2] h _
  refine tr_icmp_ge (pc := 10) 48 k_ga_mayBeEmptied_10 (by decide) (fun q => ?_) (fun q => ?_)
  · replace hv := hv.1 q
    refine tr_aload_n (pc := 48) 1 k_ga_mayBeEmptied_48 rfl rfl ?_
    refine tr_aload_n (pc := 49) 0 k_ga_mayBeEmptied_49 rfl rfl ?_
    refine tr_getIx (pc := 50) k_ga_mayBeEmptied_50 fl_ga_38 rfl rfl ?_
    have hT := hv
    clear hv
    refine tr_callV (pc := 53) (d' := d + 3) (mc' := 0) (ms' := 0) [vi (hI h 1 0 3)] k_ga_mayBeEmptied_53 ca_jn_drawAmong ml_ga_56 ii_jn_drawAmong ⟨by decide, rfl⟩ pa_jn_drawAmong (by omega) (by omega) (by omega) rfl (Nat.le_of_ble_eq_true rfl) (Nat.le_of_ble_eq_true rfl) hT (fun v h9 hv => ?_)
    clear hT
    obtain ⟨y2, rfl, hv⟩ := hv
    obtain ⟨h1, eh⟩ : ∃ z, z = h9 := ⟨_, rfl⟩
    subst eh
    obtain ⟨hskh1, hv⟩ := hv
    show mT g me_ga_mayBeEmptied (d + 4) 0 0 56 [some (vr 1 0), some (vr 7 a1), some (vi x2), o3] [vi y2] h1 _
    refine tr_if_ne (pc := 56) 63 k_ga_mayBeEmptied_56 (by decide) (fun q => ?_) (fun q => ?_)
    · replace hv := hv.1 q
      refine tr_iconst (pc := 63) (v := 0) k_ga_mayBeEmptied_63 (by decide) ?_
      refine tr_ireturn (pc := 64) k_ga_mayBeEmptied_64 rfl rfl ?_
      exact hv
    · replace hv := hv.2 q
      refine tr_iconst (pc := 59) (v := 1) k_ga_mayBeEmptied_59 (by decide) ?_
      refine tr_goto (pc := 60) 64 k_ga_mayBeEmptied_60 (by decide) ?_
      refine tr_ireturn (pc := 64) k_ga_mayBeEmptied_64 rfl rfl ?_
      exact hv
  · replace hv := hv.2 q
    refine tr_aload_n (pc := 13) 0 k_ga_mayBeEmptied_13 rfl rfl ?_
    refine tr_getP (pc := 14) k_ga_mayBeEmptied_14 fl_ga_18 rfl (Eq.trans rfl (hsk.1 1 1 _ rfl)) ?_
    refine tr_iload_n (pc := 17) 2 k_ga_mayBeEmptied_17 rfl rfl ?_
    obtain ⟨n3, hg, hv⟩ := hv
    refine tr_alget (pc := 18) k_ga_mayBeEmptied_18 ml_ga_28 (by omega) (Nat.le_of_ble_eq_true rfl) (mGet.up hg rfl rfl) ?_
    refine tr_cast (pc := 21) k_ga_mayBeEmptied_21 (by decide) cl_ga_34 ?_
    refine tr_astore_n (pc := 24) 3 k_ga_mayBeEmptied_24 rfl (by decide) rfl ?_
    show mT g me_ga_mayBeEmptied (d + 4) 0 0 25 [some (vr 1 0), some (vr 7 a1), some (vi x2), some (vr 7 n3)] [] h _
    refine tr_aload_n (pc := 25) 3 k_ga_mayBeEmptied_25 rfl rfl ?_
    rcases e5 : hP h 7 n3 2 with _ | ⟨kq, n4⟩
    · replace hv := hv.1 e5
      refine tr_getP (pc := 26) k_ga_mayBeEmptied_26 fl_ga_73 rfl (Eq.trans rfl e5) ?_
      refine tr_aload_n (pc := 29) 1 k_ga_mayBeEmptied_29 rfl rfl ?_
      refine tr_acmp_ne (pc := 30) (r := none) (r' := some (7, a1)) 42 k_ga_mayBeEmptied_30 (by decide) (fun a b e1 e2 => by cases e1) (fun _ => ?_) (fun q => absurd q (by intro z; cases z))
      refine tr_iinc (pc := 42) (v := (x2 + 1)) k_ga_mayBeEmptied_42 rfl rfl (by decide) rfl ?_
      show mT g me_ga_mayBeEmptied (d + 4) 0 0 45 [some (vr 1 0), some (vr 7 a1), some (vi (x2 + 1)), some (vr 7 n3)] [] h _
      refine tr_goto (pc := 45) 2 k_ga_mayBeEmptied_45 (by decide) ?_
      exact hv
    · have hw := hv.2 kq n4 e5
      clear hv
      obtain ⟨tq, hv⟩ := hw
      subst tq
      refine tr_getP (pc := 26) k_ga_mayBeEmptied_26 fl_ga_73 rfl (Eq.trans rfl e5) ?_
      refine tr_aload_n (pc := 29) 1 k_ga_mayBeEmptied_29 rfl rfl ?_
      refine tr_acmp_ne (pc := 30) (r := some (7, n4)) (r' := some (7, a1)) 42 k_ga_mayBeEmptied_30 (by decide) (fun a b e1 e2 => by cases e1; cases e2; exact Or.inl ⟨(by show (7 : Nat) < 14; decide), (by show (7 : Nat) < 14; decide)⟩) (fun q => ?_) (fun q => ?_)
      · replace hv := hv.1 q
        refine tr_iinc (pc := 42) (v := (x2 + 1)) k_ga_mayBeEmptied_42 rfl rfl (by decide) rfl ?_
        show mT g me_ga_mayBeEmptied (d + 4) 0 0 45 [some (vr 1 0), some (vr 7 a1), some (vi (x2 + 1)), some (vr 7 n3)] [] h _
        refine tr_goto (pc := 45) 2 k_ga_mayBeEmptied_45 (by decide) ?_
        exact hv
      · replace hv := hv.2 q
        refine tr_aload_n (pc := 33) 3 k_ga_mayBeEmptied_33 rfl rfl ?_
        refine tr_getIx (pc := 34) k_ga_mayBeEmptied_34 fl_ga_49 rfl rfl ?_
        refine tr_if_ne (pc := 37) 42 k_ga_mayBeEmptied_37 (by decide) (fun q => ?_) (fun q => ?_)
        · replace hv := hv.1 q
          refine tr_iinc (pc := 42) (v := (x2 + 1)) k_ga_mayBeEmptied_42 rfl rfl (by decide) rfl ?_
          show mT g me_ga_mayBeEmptied (d + 4) 0 0 45 [some (vr 1 0), some (vr 7 a1), some (vi (x2 + 1)), some (vr 7 n3)] [] h _
          refine tr_goto (pc := 45) 2 k_ga_mayBeEmptied_45 (by decide) ?_
          exact hv
        · replace hv := hv.2 q
          refine tr_iconst (pc := 40) (v := 0) k_ga_mayBeEmptied_40 (by decide) ?_
          refine tr_ireturn (pc := 41) k_ga_mayBeEmptied_41 rfl rfl ?_
          exact hv
