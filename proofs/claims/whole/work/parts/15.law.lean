/-! printed by my own program: the law's walk; ahead of it the laws of weaker budgets and weaker ends -/
theorem mT.weaken {g : mG} {m : mMe} {d mc ms mc' ms' pc : Nat} {L : List (Option mV)} {st : List mV} {h : mH} {Q : Option mV → mH → Prop} (B : mT g m d mc' ms' pc L st h Q) (h1 : mc' ≤ mc) (h2 : ms' ≤ ms) : mT g m d mc ms pc L st h Q := by
  intro p R e s mi args below meth c H ls locs cells slots ad ad0 h0 Qf X E
  exact B.use ⟨X.1, ⟨X.2.1.1, X.2.1.2.1, by have := X.2.1.2.2.1; omega, by have := X.2.1.2.2.2; omega⟩, X.2.2⟩ E
theorem mT.mono {g : mG} {m : mMe} {d mc ms pc : Nat} {L : List (Option mV)} {st : List mV} {h : mH} {Q Q' : Option mV → mH → Prop} (B : mT g m d mc ms pc L st h Q') (hq : ∀ v h, Q' v h → Q v h) : mT g m d mc ms pc L st h Q := by
  intro p R e s mi args below meth c H ls locs cells slots ad ad0 h0 Qf X E
  exact B.use X (fun a b => E a (hq _ _ b))
theorem v_lw_law_0 {g : mG} {d mc ms : Nat}  {h : mH} {Q : Option mV → mH → Prop} (hv : mT g me_fn_init (d + 9) 14 3050 0 [some (vr 0 (hC h 0))] [] (newC h 0 0) (fun v h1 => v = none ∧ mT g me_fm_init (d + 9) 45 6000 0 [some (vr 10 (hC h1 10))] [] (newC h1 10 0) (fun v h2 => v = none ∧ mT g me_lw_law (d + 10) mc ms 18 [some (vr 14 0), some (vr 0 (hC h 0)), some (vr 10 (hC h1 10)), some (vi (0 : Int32))] [] h2 Q))) : mT g me_lw_law (d + 10) (mc + 100) (ms + 20000) 0 [some (vr 14 0), none, none, none] [] h Q := by
  refine tr_new (pc := 0) (k := 0) (w := 7) (mc := mc + 99) (ms := ms + 19993) k_lw_law_0 (by decide) rfl cl_lw_7 in_0 iz_0 ?_
  show mT g me_lw_law (d + 10) (mc + 99) (ms + 19993) 3 [some (vr 14 0), none, none, none] [vr 0 (hC h 0)] (newC h 0 0) _
  refine tr_dup (pc := 3) k_lw_law_3 rfl ?_
  have hT := hv
  clear hv
  refine tr_callI (pc := 4) (d' := d + 9) (mc' := 14) (ms' := 3050) [] k_lw_law_4 ca_fn_init ml_lw_9 ii_fn_init pa_fn_init (by omega) (by omega) (by omega) rfl (Nat.le_of_ble_eq_true rfl) (Nat.le_of_ble_eq_true rfl) hT (fun v h9 hv => ?_)
  clear hT
  obtain ⟨rfl, hv⟩ := hv
  obtain ⟨h1, eh⟩ : ∃ z, z = h9 := ⟨_, rfl⟩
  subst eh
  rw [show mc + 99 - 14 = mc + 85 by omega, show ms + 19993 - 3050 = ms + 16943 by omega]
  show mT g me_lw_law (d + 10) (mc + 85) (ms + 16943) 7 [some (vr 14 0), none, none, none] [vr 0 (hC h 0)] h1 _
  refine tr_astore_n (pc := 7) 1 k_lw_law_7 rfl (by decide) rfl ?_
  show mT g me_lw_law (d + 10) (mc + 85) (ms + 16943) 8 [some (vr 14 0), some (vr 0 (hC h 0)), none, none] [] h1 _
  refine tr_new (pc := 8) (k := 10) (w := 63) (mc := mc + 84) (ms := ms + 16880) k_lw_law_8 (by decide) rfl cl_lw_10 in_10 iz_10 ?_
  show mT g me_lw_law (d + 10) (mc + 84) (ms + 16880) 11 [some (vr 14 0), some (vr 0 (hC h 0)), none, none] [vr 10 (hC h1 10)] (newC h1 10 0) _
  refine tr_dup (pc := 11) k_lw_law_11 rfl ?_
  have hT := hv
  clear hv
  refine tr_callI (pc := 12) (d' := d + 9) (mc' := 45) (ms' := 6000) [] k_lw_law_12 ca_fm_init ml_lw_12 ii_fm_init pa_fm_init (by omega) (by omega) (by omega) rfl (Nat.le_of_ble_eq_true rfl) (Nat.le_of_ble_eq_true rfl) hT (fun v h9 hv => ?_)
  clear hT
  obtain ⟨rfl, hv⟩ := hv
  obtain ⟨h2, eh⟩ : ∃ z, z = h9 := ⟨_, rfl⟩
  subst eh
  rw [show mc + 84 - 45 = mc + 39 by omega, show ms + 16880 - 6000 = ms + 10880 by omega]
  show mT g me_lw_law (d + 10) (mc + 39) (ms + 10880) 15 [some (vr 14 0), some (vr 0 (hC h 0)), none, none] [vr 10 (hC h1 10)] h2 _
  refine tr_astore_n (pc := 15) 2 k_lw_law_15 rfl (by decide) rfl ?_
  show mT g me_lw_law (d + 10) (mc + 39) (ms + 10880) 16 [some (vr 14 0), some (vr 0 (hC h 0)), some (vr 10 (hC h1 10)), none] [] h2 _
  refine tr_iconst (pc := 16) (v := 0) k_lw_law_16 (by decide) ?_
  refine tr_istore_n (pc := 17) 3 k_lw_law_17 rfl (by decide) rfl ?_
  show mT g me_lw_law (d + 10) (mc + 39) (ms + 10880) 18 [some (vr 14 0), some (vr 0 (hC h 0)), some (vr 10 (hC h1 10)), some (vi (0 : Int32))] [] h2 _
  exact mT.weaken hv (by omega) (by omega)
theorem v_lw_law_18 {g : mG} {d mc ms : Nat} (x3 : Int32) {h : mH} {Q : Option mV → mH → Prop} (hsk : mSK h) (hv : ((((Int32.ofNat (hL h 14 0)) - (6 : Int32)) < x3 → Q (some (vi (1 : Int32))) h) ∧ (¬ ((Int32.ofNat (hL h 14 0)) - (6 : Int32)) < x3 → (vp_in x3 (hL h 14 0) ∧ ((((hI h 14 0 x3.toNatClampNeg) &&& (31 : Int32)) = 0 → (vp_in (x3 + (1 : Int32)) (hL h 14 0) ∧ (vp_in (x3 + (2 : Int32)) (hL h 14 0) ∧ (vp_in (x3 + (3 : Int32)) (hL h 14 0) ∧ (vp_in (x3 + (4 : Int32)) (hL h 14 0) ∧ mT g me_fn_tank (d + 9) 2 84 0 [some (vr 0 0), some (vi (hI h 14 0 (x3 + (1 : Int32)).toNatClampNeg)), some (vi (hI h 14 0 (x3 + (2 : Int32)).toNatClampNeg)), some (vi (hI h 14 0 (x3 + (3 : Int32)).toNatClampNeg)), some (vi (hI h 14 0 (x3 + (4 : Int32)).toNatClampNeg)), none] [] h (fun v h1 => ∃ y2, v = some (vi y2) ∧ mSK h1 ∧ (vp_in (x3 + (1 : Int32)) (hL h1 14 0) ∧ (vp_in (x3 + (2 : Int32)) (hL h1 14 0) ∧ (vp_in (x3 + (3 : Int32)) (hL h1 14 0) ∧ (vp_in (x3 + (4 : Int32)) (hL h1 14 0) ∧ mT g me_fm_tank (d + 9) 0 0 0 [some (vr 10 0), some (vi (hI h1 14 0 (x3 + (1 : Int32)).toNatClampNeg)), some (vi (hI h1 14 0 (x3 + (2 : Int32)).toNatClampNeg)), some (vi (hI h1 14 0 (x3 + (3 : Int32)).toNatClampNeg)), some (vi (hI h1 14 0 (x3 + (4 : Int32)).toNatClampNeg))] [] h1 (fun v h3 => ∃ y4, v = some (vi y4) ∧ mSK h3 ∧ ((y2 = y4 → mT g me_lw_law (d + 10) mc ms 18 [some (vr 14 0), some (vr 0 0), some (vr 10 0), some (vi (x3 + 6))] [] h3 Q) ∧ (¬ y2 = y4 → Q (some (vi (0 : Int32))) h3))))))))))))) ∧ (((hI h 14 0 x3.toNatClampNeg) &&& (31 : Int32)) = 1 → (vp_in (x3 + (1 : Int32)) (hL h 14 0) ∧ (vp_in (x3 + (2 : Int32)) (hL h 14 0) ∧ (vp_in (x3 + (3 : Int32)) (hL h 14 0) ∧ mT g me_fn_set (d + 9) 0 0 0 [some (vr 0 0), some (vi (hI h 14 0 (x3 + (1 : Int32)).toNatClampNeg)), some (vi (hI h 14 0 (x3 + (2 : Int32)).toNatClampNeg)), some (vi (hI h 14 0 (x3 + (3 : Int32)).toNatClampNeg)), none] [] h (fun v h5 => ∃ y6, v = some (vi y6) ∧ mSK h5 ∧ (vp_in (x3 + (1 : Int32)) (hL h5 14 0) ∧ (vp_in (x3 + (2 : Int32)) (hL h5 14 0) ∧ (vp_in (x3 + (3 : Int32)) (hL h5 14 0) ∧ mT g me_fm_set (d + 9) 0 0 0 [some (vr 10 0), some (vi (hI h5 14 0 (x3 + (1 : Int32)).toNatClampNeg)), some (vi (hI h5 14 0 (x3 + (2 : Int32)).toNatClampNeg)), some (vi (hI h5 14 0 (x3 + (3 : Int32)).toNatClampNeg)), none, none] [] h5 (fun v h7 => ∃ y8, v = some (vi y8) ∧ mSK h7 ∧ ((y6 = y8 → mT g me_lw_law (d + 10) mc ms 18 [some (vr 14 0), some (vr 0 0), some (vr 10 0), some (vi (x3 + 6))] [] h7 Q) ∧ (¬ y6 = y8 → Q (some (vi (0 : Int32))) h7))))))))))) ∧ (((hI h 14 0 x3.toNatClampNeg) &&& (31 : Int32)) = 2 → (vp_in (x3 + (1 : Int32)) (hL h 14 0) ∧ (((hI h 14 0 (x3 + (1 : Int32)).toNatClampNeg) = 0 → (vp_in (x3 + (2 : Int32)) (hL h 14 0) ∧ (vp_in (x3 + (3 : Int32)) (hL h 14 0) ∧ (vp_in (x3 + (4 : Int32)) (hL h 14 0) ∧ (vp_in (x3 + (5 : Int32)) (hL h 14 0) ∧ mT g me_fn_joint (d + 9) 2 88 0 [some (vr 0 0), some (vi (0 : Int32)), some (vi (hI h 14 0 (x3 + (2 : Int32)).toNatClampNeg)), some (vi (hI h 14 0 (x3 + (3 : Int32)).toNatClampNeg)), some (vi (hI h 14 0 (x3 + (4 : Int32)).toNatClampNeg)), some (vi (hI h 14 0 (x3 + (5 : Int32)).toNatClampNeg)), none, none, none] [] h (fun v h9 => ∃ y10, v = some (vi y10) ∧ mSK h9 ∧ (vp_in (x3 + (1 : Int32)) (hL h9 14 0) ∧ (((hI h9 14 0 (x3 + (1 : Int32)).toNatClampNeg) = 0 → (vp_in (x3 + (2 : Int32)) (hL h9 14 0) ∧ (vp_in (x3 + (3 : Int32)) (hL h9 14 0) ∧ (vp_in (x3 + (4 : Int32)) (hL h9 14 0) ∧ (vp_in (x3 + (5 : Int32)) (hL h9 14 0) ∧ mT g me_fm_joint (d + 9) 0 0 0 [some (vr 10 0), some (vi (0 : Int32)), some (vi (hI h9 14 0 (x3 + (2 : Int32)).toNatClampNeg)), some (vi (hI h9 14 0 (x3 + (3 : Int32)).toNatClampNeg)), some (vi (hI h9 14 0 (x3 + (4 : Int32)).toNatClampNeg)), some (vi (hI h9 14 0 (x3 + (5 : Int32)).toNatClampNeg))] [] h9 (fun v h11 => ∃ y12, v = some (vi y12) ∧ mSK h11 ∧ ((y10 = y12 → mT g me_lw_law (d + 10) mc ms 18 [some (vr 14 0), some (vr 0 0), some (vr 10 0), some (vi (x3 + 6))] [] h11 Q) ∧ (¬ y10 = y12 → Q (some (vi (0 : Int32))) h11)))))))) ∧ (¬ (hI h9 14 0 (x3 + (1 : Int32)).toNatClampNeg) = 0 → (vp_in (x3 + (2 : Int32)) (hL h9 14 0) ∧ (vp_in (x3 + (3 : Int32)) (hL h9 14 0) ∧ (vp_in (x3 + (4 : Int32)) (hL h9 14 0) ∧ (vp_in (x3 + (5 : Int32)) (hL h9 14 0) ∧ mT g me_fm_joint (d + 9) 0 0 0 [some (vr 10 0), some (vi (1 : Int32)), some (vi (hI h9 14 0 (x3 + (2 : Int32)).toNatClampNeg)), some (vi (hI h9 14 0 (x3 + (3 : Int32)).toNatClampNeg)), some (vi (hI h9 14 0 (x3 + (4 : Int32)).toNatClampNeg)), some (vi (hI h9 14 0 (x3 + (5 : Int32)).toNatClampNeg))] [] h9 (fun v h13 => ∃ y14, v = some (vi y14) ∧ mSK h13 ∧ ((y10 = y14 → mT g me_lw_law (d + 10) mc ms 18 [some (vr 14 0), some (vr 0 0), some (vr 10 0), some (vi (x3 + 6))] [] h13 Q) ∧ (¬ y10 = y14 → Q (some (vi (0 : Int32))) h13)))))))))))))))) ∧ (¬ (hI h 14 0 (x3 + (1 : Int32)).toNatClampNeg) = 0 → (vp_in (x3 + (2 : Int32)) (hL h 14 0) ∧ (vp_in (x3 + (3 : Int32)) (hL h 14 0) ∧ (vp_in (x3 + (4 : Int32)) (hL h 14 0) ∧ (vp_in (x3 + (5 : Int32)) (hL h 14 0) ∧ mT g me_fn_joint (d + 9) 2 88 0 [some (vr 0 0), some (vi (1 : Int32)), some (vi (hI h 14 0 (x3 + (2 : Int32)).toNatClampNeg)), some (vi (hI h 14 0 (x3 + (3 : Int32)).toNatClampNeg)), some (vi (hI h 14 0 (x3 + (4 : Int32)).toNatClampNeg)), some (vi (hI h 14 0 (x3 + (5 : Int32)).toNatClampNeg)), none, none, none] [] h (fun v h15 => ∃ y16, v = some (vi y16) ∧ mSK h15 ∧ (vp_in (x3 + (1 : Int32)) (hL h15 14 0) ∧ (((hI h15 14 0 (x3 + (1 : Int32)).toNatClampNeg) = 0 → (vp_in (x3 + (2 : Int32)) (hL h15 14 0) ∧ (vp_in (x3 + (3 : Int32)) (hL h15 14 0) ∧ (vp_in (x3 + (4 : Int32)) (hL h15 14 0) ∧ (vp_in (x3 + (5 : Int32)) (hL h15 14 0) ∧ mT g me_fm_joint (d + 9) 0 0 0 [some (vr 10 0), some (vi (0 : Int32)), some (vi (hI h15 14 0 (x3 + (2 : Int32)).toNatClampNeg)), some (vi (hI h15 14 0 (x3 + (3 : Int32)).toNatClampNeg)), some (vi (hI h15 14 0 (x3 + (4 : Int32)).toNatClampNeg)), some (vi (hI h15 14 0 (x3 + (5 : Int32)).toNatClampNeg))] [] h15 (fun v h17 => ∃ y18, v = some (vi y18) ∧ mSK h17 ∧ ((y16 = y18 → mT g me_lw_law (d + 10) mc ms 18 [some (vr 14 0), some (vr 0 0), some (vr 10 0), some (vi (x3 + 6))] [] h17 Q) ∧ (¬ y16 = y18 → Q (some (vi (0 : Int32))) h17)))))))) ∧ (¬ (hI h15 14 0 (x3 + (1 : Int32)).toNatClampNeg) = 0 → (vp_in (x3 + (2 : Int32)) (hL h15 14 0) ∧ (vp_in (x3 + (3 : Int32)) (hL h15 14 0) ∧ (vp_in (x3 + (4 : Int32)) (hL h15 14 0) ∧ (vp_in (x3 + (5 : Int32)) (hL h15 14 0) ∧ mT g me_fm_joint (d + 9) 0 0 0 [some (vr 10 0), some (vi (1 : Int32)), some (vi (hI h15 14 0 (x3 + (2 : Int32)).toNatClampNeg)), some (vi (hI h15 14 0 (x3 + (3 : Int32)).toNatClampNeg)), some (vi (hI h15 14 0 (x3 + (4 : Int32)).toNatClampNeg)), some (vi (hI h15 14 0 (x3 + (5 : Int32)).toNatClampNeg))] [] h15 (fun v h19 => ∃ y20, v = some (vi y20) ∧ mSK h19 ∧ ((y16 = y20 → mT g me_lw_law (d + 10) mc ms 18 [some (vr 14 0), some (vr 0 0), some (vr 10 0), some (vi (x3 + 6))] [] h19 Q) ∧ (¬ y16 = y20 → Q (some (vi (0 : Int32))) h19))))))))))))))))))) ∧ (((hI h 14 0 x3.toNatClampNeg) &&& (31 : Int32)) = 3 → (vp_in (x3 + (1 : Int32)) (hL h 14 0) ∧ (vp_in (x3 + (2 : Int32)) (hL h 14 0) ∧ mT g me_fn_jet (d + 9) 2 79 0 [some (vr 0 0), some (vi (hI h 14 0 (x3 + (1 : Int32)).toNatClampNeg)), some (vi (hI h 14 0 (x3 + (2 : Int32)).toNatClampNeg)), none, none, none] [] h (fun v h21 => ∃ y22, v = some (vi y22) ∧ mSK h21 ∧ (vp_in (x3 + (1 : Int32)) (hL h21 14 0) ∧ (vp_in (x3 + (2 : Int32)) (hL h21 14 0) ∧ mT g me_fm_jet (d + 9) 0 0 0 [some (vr 10 0), some (vi (hI h21 14 0 (x3 + (1 : Int32)).toNatClampNeg)), some (vi (hI h21 14 0 (x3 + (2 : Int32)).toNatClampNeg))] [] h21 (fun v h23 => ∃ y24, v = some (vi y24) ∧ mSK h23 ∧ ((y22 = y24 → mT g me_lw_law (d + 10) mc ms 18 [some (vr 14 0), some (vr 0 0), some (vr 10 0), some (vi (x3 + 6))] [] h23 Q) ∧ (¬ y22 = y24 → Q (some (vi (0 : Int32))) h23))))))))) ∧ (((hI h 14 0 x3.toNatClampNeg) &&& (31 : Int32)) = 4 → (vp_in (x3 + (1 : Int32)) (hL h 14 0) ∧ (vp_in (x3 + (2 : Int32)) (hL h 14 0) ∧ (((hI h 14 0 (x3 + (2 : Int32)).toNatClampNeg) = 0 → mT g me_fn_play (d + 9) 0 0 0 [some (vr 0 0), some (vi (hI h 14 0 (x3 + (1 : Int32)).toNatClampNeg)), some (vi (0 : Int32)), none] [] h (fun v h25 => ∃ y26, v = some (vi y26) ∧ mSK h25 ∧ (vp_in (x3 + (1 : Int32)) (hL h25 14 0) ∧ (vp_in (x3 + (2 : Int32)) (hL h25 14 0) ∧ (((hI h25 14 0 (x3 + (2 : Int32)).toNatClampNeg) = 0 → mT g me_fm_play (d + 9) 0 0 0 [some (vr 10 0), some (vi (hI h25 14 0 (x3 + (1 : Int32)).toNatClampNeg)), some (vi (0 : Int32))] [] h25 (fun v h27 => ∃ y28, v = some (vi y28) ∧ mSK h27 ∧ ((y26 = y28 → mT g me_lw_law (d + 10) mc ms 18 [some (vr 14 0), some (vr 0 0), some (vr 10 0), some (vi (x3 + 6))] [] h27 Q) ∧ (¬ y26 = y28 → Q (some (vi (0 : Int32))) h27)))) ∧ (¬ (hI h25 14 0 (x3 + (2 : Int32)).toNatClampNeg) = 0 → mT g me_fm_play (d + 9) 0 0 0 [some (vr 10 0), some (vi (hI h25 14 0 (x3 + (1 : Int32)).toNatClampNeg)), some (vi (1 : Int32))] [] h25 (fun v h29 => ∃ y30, v = some (vi y30) ∧ mSK h29 ∧ ((y26 = y30 → mT g me_lw_law (d + 10) mc ms 18 [some (vr 14 0), some (vr 0 0), some (vr 10 0), some (vi (x3 + 6))] [] h29 Q) ∧ (¬ y26 = y30 → Q (some (vi (0 : Int32))) h29))))))))) ∧ (¬ (hI h 14 0 (x3 + (2 : Int32)).toNatClampNeg) = 0 → mT g me_fn_play (d + 9) 0 0 0 [some (vr 0 0), some (vi (hI h 14 0 (x3 + (1 : Int32)).toNatClampNeg)), some (vi (1 : Int32)), none] [] h (fun v h31 => ∃ y32, v = some (vi y32) ∧ mSK h31 ∧ (vp_in (x3 + (1 : Int32)) (hL h31 14 0) ∧ (vp_in (x3 + (2 : Int32)) (hL h31 14 0) ∧ (((hI h31 14 0 (x3 + (2 : Int32)).toNatClampNeg) = 0 → mT g me_fm_play (d + 9) 0 0 0 [some (vr 10 0), some (vi (hI h31 14 0 (x3 + (1 : Int32)).toNatClampNeg)), some (vi (0 : Int32))] [] h31 (fun v h33 => ∃ y34, v = some (vi y34) ∧ mSK h33 ∧ ((y32 = y34 → mT g me_lw_law (d + 10) mc ms 18 [some (vr 14 0), some (vr 0 0), some (vr 10 0), some (vi (x3 + 6))] [] h33 Q) ∧ (¬ y32 = y34 → Q (some (vi (0 : Int32))) h33)))) ∧ (¬ (hI h31 14 0 (x3 + (2 : Int32)).toNatClampNeg) = 0 → mT g me_fm_play (d + 9) 0 0 0 [some (vr 10 0), some (vi (hI h31 14 0 (x3 + (1 : Int32)).toNatClampNeg)), some (vi (1 : Int32))] [] h31 (fun v h35 => ∃ y36, v = some (vi y36) ∧ mSK h35 ∧ ((y32 = y36 → mT g me_lw_law (d + 10) mc ms 18 [some (vr 14 0), some (vr 0 0), some (vr 10 0), some (vi (x3 + 6))] [] h35 Q) ∧ (¬ y32 = y36 → Q (some (vi (0 : Int32))) h35))))))))))))) ∧ (((hI h 14 0 x3.toNatClampNeg) &&& (31 : Int32)) = 5 → (vp_in (x3 + (1 : Int32)) (hL h 14 0) ∧ (vp_in (x3 + (2 : Int32)) (hL h 14 0) ∧ mT g me_fn_pipe (d + 9) 0 0 0 [some (vr 0 0), some (vi (hI h 14 0 (x3 + (1 : Int32)).toNatClampNeg)), some (vi (hI h 14 0 (x3 + (2 : Int32)).toNatClampNeg)), none, none] [] h (fun v h37 => ∃ y38, v = some (vi y38) ∧ mSK h37 ∧ (vp_in (x3 + (1 : Int32)) (hL h37 14 0) ∧ (vp_in (x3 + (2 : Int32)) (hL h37 14 0) ∧ mT g me_fm_pipe (d + 9) 0 0 0 [some (vr 10 0), some (vi (hI h37 14 0 (x3 + (1 : Int32)).toNatClampNeg)), some (vi (hI h37 14 0 (x3 + (2 : Int32)).toNatClampNeg)), none, none] [] h37 (fun v h39 => ∃ y40, v = some (vi y40) ∧ mSK h39 ∧ ((y38 = y40 → mT g me_lw_law (d + 10) mc ms 18 [some (vr 14 0), some (vr 0 0), some (vr 10 0), some (vi (x3 + 6))] [] h39 Q) ∧ (¬ y38 = y40 → Q (some (vi (0 : Int32))) h39))))))))) ∧ (((hI h 14 0 x3.toNatClampNeg) &&& (31 : Int32)) = 6 → (vp_in (x3 + (1 : Int32)) (hL h 14 0) ∧ (vp_in (x3 + (2 : Int32)) (hL h 14 0) ∧ mT g me_fn_leak (d + 9) 0 0 0 [some (vr 0 0), some (vi (hI h 14 0 (x3 + (1 : Int32)).toNatClampNeg)), some (vi (hI h 14 0 (x3 + (2 : Int32)).toNatClampNeg)), none, none] [] h (fun v h41 => ∃ y42, v = some (vi y42) ∧ mSK h41 ∧ (vp_in (x3 + (1 : Int32)) (hL h41 14 0) ∧ (vp_in (x3 + (2 : Int32)) (hL h41 14 0) ∧ mT g me_fm_leak (d + 9) 0 0 0 [some (vr 10 0), some (vi (hI h41 14 0 (x3 + (1 : Int32)).toNatClampNeg)), some (vi (hI h41 14 0 (x3 + (2 : Int32)).toNatClampNeg)), none, none] [] h41 (fun v h43 => ∃ y44, v = some (vi y44) ∧ mSK h43 ∧ ((y42 = y44 → mT g me_lw_law (d + 10) mc ms 18 [some (vr 14 0), some (vr 0 0), some (vr 10 0), some (vi (x3 + 6))] [] h43 Q) ∧ (¬ y42 = y44 → Q (some (vi (0 : Int32))) h43))))))))) ∧ (((hI h 14 0 x3.toNatClampNeg) &&& (31 : Int32)) = 7 → (vp_in (x3 + (1 : Int32)) (hL h 14 0) ∧ mT g me_fn_flow (d + 9) 0 0 0 [some (vr 0 0), some (vi (hI h 14 0 (x3 + (1 : Int32)).toNatClampNeg)), none] [] h (fun v h45 => ∃ y46, v = some (vi y46) ∧ mSK h45 ∧ (vp_in (x3 + (1 : Int32)) (hL h45 14 0) ∧ mT g me_fm_flow (d + 9) 0 0 0 [some (vr 10 0), some (vi (hI h45 14 0 (x3 + (1 : Int32)).toNatClampNeg))] [] h45 (fun v h47 => ∃ y48, v = some (vi y48) ∧ mSK h47 ∧ ((y46 = y48 → mT g me_lw_law (d + 10) mc ms 18 [some (vr 14 0), some (vr 0 0), some (vr 10 0), some (vi (x3 + 6))] [] h47 Q) ∧ (¬ y46 = y48 → Q (some (vi (0 : Int32))) h47))))))) ∧ (((hI h 14 0 x3.toNatClampNeg) &&& (31 : Int32)) = 8 → (vp_in (x3 + (1 : Int32)) (hL h 14 0) ∧ mT g me_fn_head (d + 9) 0 0 0 [some (vr 0 0), some (vi (hI h 14 0 (x3 + (1 : Int32)).toNatClampNeg)), none] [] h (fun v h49 => ∃ y50, v = some (vi y50) ∧ mSK h49 ∧ (vp_in (x3 + (1 : Int32)) (hL h49 14 0) ∧ mT g me_fm_head (d + 9) 0 0 0 [some (vr 10 0), some (vi (hI h49 14 0 (x3 + (1 : Int32)).toNatClampNeg))] [] h49 (fun v h51 => ∃ y52, v = some (vi y52) ∧ mSK h51 ∧ ((y50 = y52 → mT g me_lw_law (d + 10) mc ms 18 [some (vr 14 0), some (vr 0 0), some (vr 10 0), some (vi (x3 + 6))] [] h51 Q) ∧ (¬ y50 = y52 → Q (some (vi (0 : Int32))) h51))))))) ∧ (((hI h 14 0 x3.toNatClampNeg) &&& (31 : Int32)) = 9 → (vp_in (x3 + (1 : Int32)) (hL h 14 0) ∧ mT g me_fn_rise (d + 9) 0 0 0 [some (vr 0 0), some (vi (hI h 14 0 (x3 + (1 : Int32)).toNatClampNeg)), none] [] h (fun v h53 => ∃ y54, v = some (vi y54) ∧ mSK h53 ∧ (vp_in (x3 + (1 : Int32)) (hL h53 14 0) ∧ mT g me_fm_rise (d + 9) 0 0 0 [some (vr 10 0), some (vi (hI h53 14 0 (x3 + (1 : Int32)).toNatClampNeg))] [] h53 (fun v h55 => ∃ y56, v = some (vi y56) ∧ mSK h55 ∧ ((y54 = y56 → mT g me_lw_law (d + 10) mc ms 18 [some (vr 14 0), some (vr 0 0), some (vr 10 0), some (vi (x3 + 6))] [] h55 Q) ∧ (¬ y54 = y56 → Q (some (vi (0 : Int32))) h55))))))) ∧ (((hI h 14 0 x3.toNatClampNeg) &&& (31 : Int32)) = 10 → (vp_in (x3 + (1 : Int32)) (hL h 14 0) ∧ (vp_in (x3 + (2 : Int32)) (hL h 14 0) ∧ mT g me_fn_share (d + 9) 0 0 0 [some (vr 0 0), some (vi (hI h 14 0 (x3 + (1 : Int32)).toNatClampNeg)), some (vi (hI h 14 0 (x3 + (2 : Int32)).toNatClampNeg)), none, none, none, none, none] [] h (fun v h57 => ∃ y58, v = some (vi y58) ∧ mSK h57 ∧ (vp_in (x3 + (1 : Int32)) (hL h57 14 0) ∧ (vp_in (x3 + (2 : Int32)) (hL h57 14 0) ∧ mT g me_fm_share (d + 9) 0 0 0 [some (vr 10 0), some (vi (hI h57 14 0 (x3 + (1 : Int32)).toNatClampNeg)), some (vi (hI h57 14 0 (x3 + (2 : Int32)).toNatClampNeg)), none] [] h57 (fun v h59 => ∃ y60, v = some (vi y60) ∧ mSK h59 ∧ ((y58 = y60 → mT g me_lw_law (d + 10) mc ms 18 [some (vr 14 0), some (vr 0 0), some (vr 10 0), some (vi (x3 + 6))] [] h59 Q) ∧ (¬ y58 = y60 → Q (some (vi (0 : Int32))) h59))))))))) ∧ (((hI h 14 0 x3.toNatClampNeg) &&& (31 : Int32)) = 11 → (vp_in (x3 + (1 : Int32)) (hL h 14 0) ∧ mT g me_fn_minutes (d + 9) 0 0 0 [some (vr 0 0), some (vi (hI h 14 0 (x3 + (1 : Int32)).toNatClampNeg)), none] [] h (fun v h61 => ∃ y62, v = some (vi y62) ∧ mSK h61 ∧ (vp_in (x3 + (1 : Int32)) (hL h61 14 0) ∧ mT g me_fm_minutes (d + 9) 0 0 0 [some (vr 10 0), some (vi (hI h61 14 0 (x3 + (1 : Int32)).toNatClampNeg)), none, none, none] [] h61 (fun v h63 => ∃ y64, v = some (vi y64) ∧ mSK h63 ∧ ((y62 = y64 → mT g me_lw_law (d + 10) mc ms 18 [some (vr 14 0), some (vr 0 0), some (vr 10 0), some (vi (x3 + 6))] [] h63 Q) ∧ (¬ y62 = y64 → Q (some (vi (0 : Int32))) h63))))))) ∧ (((hI h 14 0 x3.toNatClampNeg) &&& (31 : Int32)) = 12 → (vp_in (x3 + (1 : Int32)) (hL h 14 0) ∧ mT g me_fn_lasts (d + 9) 0 0 0 [some (vr 0 0), some (vi (hI h 14 0 (x3 + (1 : Int32)).toNatClampNeg)), none, none, none] [] h (fun v h65 => ∃ y66, v = some (vi y66) ∧ mSK h65 ∧ (vp_in (x3 + (1 : Int32)) (hL h65 14 0) ∧ mT g me_fm_lasts (d + 9) 0 0 0 [some (vr 10 0), some (vi (hI h65 14 0 (x3 + (1 : Int32)).toNatClampNeg)), none] [] h65 (fun v h67 => ∃ y68, v = some (vi y68) ∧ mSK h67 ∧ ((y66 = y68 → mT g me_lw_law (d + 10) mc ms 18 [some (vr 14 0), some (vr 0 0), some (vr 10 0), some (vi (x3 + 6))] [] h67 Q) ∧ (¬ y66 = y68 → Q (some (vi (0 : Int32))) h67))))))) ∧ (((hI h 14 0 x3.toNatClampNeg) &&& (31 : Int32)) = 13 → (vp_in (x3 + (1 : Int32)) (hL h 14 0) ∧ (vp_in (x3 + (2 : Int32)) (hL h 14 0) ∧ (vp_in (x3 + (3 : Int32)) (hL h 14 0) ∧ (vp_in (x3 + (4 : Int32)) (hL h 14 0) ∧ mT g me_fn_view (d + 9) 2 78 0 [some (vr 0 0), some (vi (hI h 14 0 (x3 + (1 : Int32)).toNatClampNeg)), some (vi (hI h 14 0 (x3 + (2 : Int32)).toNatClampNeg)), some (vi (hI h 14 0 (x3 + (3 : Int32)).toNatClampNeg)), some (vi (hI h 14 0 (x3 + (4 : Int32)).toNatClampNeg)), none, none] [] h (fun v h69 => ∃ y70, v = some (vi y70) ∧ mSK h69 ∧ (vp_in (x3 + (1 : Int32)) (hL h69 14 0) ∧ (vp_in (x3 + (2 : Int32)) (hL h69 14 0) ∧ (vp_in (x3 + (3 : Int32)) (hL h69 14 0) ∧ (vp_in (x3 + (4 : Int32)) (hL h69 14 0) ∧ mT g me_fm_view (d + 9) 0 0 0 [some (vr 10 0), some (vi (hI h69 14 0 (x3 + (1 : Int32)).toNatClampNeg)), some (vi (hI h69 14 0 (x3 + (2 : Int32)).toNatClampNeg)), some (vi (hI h69 14 0 (x3 + (3 : Int32)).toNatClampNeg)), some (vi (hI h69 14 0 (x3 + (4 : Int32)).toNatClampNeg)), none] [] h69 (fun v h71 => ∃ y72, v = some (vi y72) ∧ mSK h71 ∧ ((y70 = y72 → mT g me_lw_law (d + 10) mc ms 18 [some (vr 14 0), some (vr 0 0), some (vr 10 0), some (vi (x3 + 6))] [] h71 Q) ∧ (¬ y70 = y72 → Q (some (vi (0 : Int32))) h71))))))))))))) ∧ (((hI h 14 0 x3.toNatClampNeg) &&& (31 : Int32)) = 14 → mT g me_fn_unview (d + 9) 0 0 0 [some (vr 0 0), none] [] h (fun v h73 => ∃ y74, v = some (vi y74) ∧ mSK h73 ∧ mT g me_fm_unview (d + 9) 0 0 0 [some (vr 10 0)] [] h73 (fun v h75 => ∃ y76, v = some (vi y76) ∧ mSK h75 ∧ ((y74 = y76 → mT g me_lw_law (d + 10) mc ms 18 [some (vr 14 0), some (vr 0 0), some (vr 10 0), some (vi (x3 + 6))] [] h75 Q) ∧ (¬ y74 = y76 → Q (some (vi (0 : Int32))) h75))))) ∧ (((hI h 14 0 x3.toNatClampNeg) &&& (31 : Int32)) = 15 → (vp_in (x3 + (1 : Int32)) (hL h 14 0) ∧ mT g me_fn_walk (d + 9) 0 0 0 [some (vr 0 0), some (vi (hI h 14 0 (x3 + (1 : Int32)).toNatClampNeg))] [] h (fun v h77 => ∃ y78, v = some (vi y78) ∧ mSK h77 ∧ (vp_in (x3 + (1 : Int32)) (hL h77 14 0) ∧ mT g me_fm_walk (d + 9) 0 0 0 [some (vr 10 0), some (vi (hI h77 14 0 (x3 + (1 : Int32)).toNatClampNeg))] [] h77 (fun v h79 => ∃ y80, v = some (vi y80) ∧ mSK h79 ∧ ((y78 = y80 → mT g me_lw_law (d + 10) mc ms 18 [some (vr 14 0), some (vr 0 0), some (vr 10 0), some (vi (x3 + 6))] [] h79 Q) ∧ (¬ y78 = y80 → Q (some (vi (0 : Int32))) h79))))))) ∧ (((hI h 14 0 x3.toNatClampNeg) &&& (31 : Int32)) = 16 → mT g me_fn_most (d + 9) 0 0 0 [some (vr 0 0)] [] h (fun v h81 => ∃ y82, v = some (vi y82) ∧ mSK h81 ∧ mT g me_fm_most (d + 9) 0 0 0 [some (vr 10 0)] [] h81 (fun v h83 => ∃ y84, v = some (vi y84) ∧ mSK h83 ∧ ((y82 = y84 → mT g me_lw_law (d + 10) mc ms 18 [some (vr 14 0), some (vr 0 0), some (vr 10 0), some (vi (x3 + 6))] [] h83 Q) ∧ (¬ y82 = y84 → Q (some (vi (0 : Int32))) h83))))) ∧ (((hI h 14 0 x3.toNatClampNeg) &&& (31 : Int32)) = 17 → (vp_in (x3 + (1 : Int32)) (hL h 14 0) ∧ mT g me_fn_pace (d + 9) 0 0 0 [some (vr 0 0), some (vi (hI h 14 0 (x3 + (1 : Int32)).toNatClampNeg)), none] [] h (fun v h85 => ∃ y86, v = some (vi y86) ∧ mSK h85 ∧ (vp_in (x3 + (1 : Int32)) (hL h85 14 0) ∧ mT g me_fm_pace (d + 9) 0 0 0 [some (vr 10 0), some (vi (hI h85 14 0 (x3 + (1 : Int32)).toNatClampNeg)), none, none] [] h85 (fun v h87 => ∃ y88, v = some (vi y88) ∧ mSK h87 ∧ ((y86 = y88 → mT g me_lw_law (d + 10) mc ms 18 [some (vr 14 0), some (vr 0 0), some (vr 10 0), some (vi (x3 + 6))] [] h87 Q) ∧ (¬ y86 = y88 → Q (some (vi (0 : Int32))) h87))))))) ∧ (((hI h 14 0 x3.toNatClampNeg) &&& (31 : Int32)) = 18 → mT g me_fn_tasks (d + 9) 0 0 0 [some (vr 0 0)] [] h (fun v h89 => ∃ y90, v = some (vi y90) ∧ mSK h89 ∧ mT g me_fm_tasks (d + 9) 0 0 0 [some (vr 10 0)] [] h89 (fun v h91 => ∃ y92, v = some (vi y92) ∧ mSK h91 ∧ ((y90 = y92 → mT g me_lw_law (d + 10) mc ms 18 [some (vr 14 0), some (vr 0 0), some (vr 10 0), some (vi (x3 + 6))] [] h91 Q) ∧ (¬ y90 = y92 → Q (some (vi (0 : Int32))) h91))))) ∧ (((hI h 14 0 x3.toNatClampNeg) &&& (31 : Int32)) = 19 → (vp_in (x3 + (1 : Int32)) (hL h 14 0) ∧ (vp_in (x3 + (2 : Int32)) (hL h 14 0) ∧ mT g me_fn_task (d + 9) 0 0 0 [some (vr 0 0), some (vi (hI h 14 0 (x3 + (1 : Int32)).toNatClampNeg)), some (vi (hI h 14 0 (x3 + (2 : Int32)).toNatClampNeg))] [] h (fun v h93 => ∃ y94, v = some (vi y94) ∧ mSK h93 ∧ (vp_in (x3 + (1 : Int32)) (hL h93 14 0) ∧ (vp_in (x3 + (2 : Int32)) (hL h93 14 0) ∧ mT g me_fm_task (d + 9) 0 0 0 [some (vr 10 0), some (vi (hI h93 14 0 (x3 + (1 : Int32)).toNatClampNeg)), some (vi (hI h93 14 0 (x3 + (2 : Int32)).toNatClampNeg))] [] h93 (fun v h95 => ∃ y96, v = some (vi y96) ∧ mSK h95 ∧ ((y94 = y96 → mT g me_lw_law (d + 10) mc ms 18 [some (vr 14 0), some (vr 0 0), some (vr 10 0), some (vi (x3 + 6))] [] h95 Q) ∧ (¬ y94 = y96 → Q (some (vi (0 : Int32))) h95))))))))) ∧ (((hI h 14 0 x3.toNatClampNeg) &&& (31 : Int32)) = 20 → mT g me_fn_boys (d + 9) 0 0 0 [some (vr 0 0)] [] h (fun v h97 => ∃ y98, v = some (vi y98) ∧ mSK h97 ∧ mT g me_fm_boys (d + 9) 0 0 0 [some (vr 10 0), none, none, none] [] h97 (fun v h99 => ∃ y100, v = some (vi y100) ∧ mSK h99 ∧ ((y98 = y100 → mT g me_lw_law (d + 10) mc ms 18 [some (vr 14 0), some (vr 0 0), some (vr 10 0), some (vi (x3 + 6))] [] h99 Q) ∧ (¬ y98 = y100 → Q (some (vi (0 : Int32))) h99))))) ∧ (((hI h 14 0 x3.toNatClampNeg) &&& (31 : Int32)) = 21 → (vp_in (x3 + (1 : Int32)) (hL h 14 0) ∧ (vp_in (x3 + (2 : Int32)) (hL h 14 0) ∧ mT g me_fn_gauge (d + 9) 0 0 0 [some (vr 0 0), some (vi (hI h 14 0 (x3 + (1 : Int32)).toNatClampNeg)), some (vi (hI h 14 0 (x3 + (2 : Int32)).toNatClampNeg)), none, none] [] h (fun v h101 => ∃ y102, v = some (vi y102) ∧ mSK h101 ∧ (vp_in (x3 + (1 : Int32)) (hL h101 14 0) ∧ (vp_in (x3 + (2 : Int32)) (hL h101 14 0) ∧ mT g me_fm_gauge (d + 9) 0 0 0 [some (vr 10 0), some (vi (hI h101 14 0 (x3 + (1 : Int32)).toNatClampNeg)), some (vi (hI h101 14 0 (x3 + (2 : Int32)).toNatClampNeg)), none, none] [] h101 (fun v h103 => ∃ y104, v = some (vi y104) ∧ mSK h103 ∧ ((y102 = y104 → mT g me_lw_law (d + 10) mc ms 18 [some (vr 14 0), some (vr 0 0), some (vr 10 0), some (vi (x3 + 6))] [] h103 Q) ∧ (¬ y102 = y104 → Q (some (vi (0 : Int32))) h103))))))))) ∧ (((hI h 14 0 x3.toNatClampNeg) &&& (31 : Int32)) = 22 → (vp_in (x3 + (1 : Int32)) (hL h 14 0) ∧ mT g me_fn_tol (d + 9) 0 0 0 [some (vr 0 0), some (vi (hI h 14 0 (x3 + (1 : Int32)).toNatClampNeg)), none] [] h (fun v h105 => ∃ y106, v = some (vi y106) ∧ mSK h105 ∧ (vp_in (x3 + (1 : Int32)) (hL h105 14 0) ∧ mT g me_fm_tol (d + 9) 0 0 0 [some (vr 10 0), some (vi (hI h105 14 0 (x3 + (1 : Int32)).toNatClampNeg)), none, none] [] h105 (fun v h107 => ∃ y108, v = some (vi y108) ∧ mSK h107 ∧ ((y106 = y108 → mT g me_lw_law (d + 10) mc ms 18 [some (vr 14 0), some (vr 0 0), some (vr 10 0), some (vi (x3 + 6))] [] h107 Q) ∧ (¬ y106 = y108 → Q (some (vi (0 : Int32))) h107))))))) ∧ (((hI h 14 0 x3.toNatClampNeg) &&& (31 : Int32)) = 23 → mT g me_fn_explain (d + 9) 0 0 0 [some (vr 0 0)] [] h (fun v h109 => ∃ y110, v = some (vi y110) ∧ mSK h109 ∧ mT g me_fm_explain (d + 9) 0 0 0 [some (vr 10 0)] [] h109 (fun v h111 => ∃ y112, v = some (vi y112) ∧ mSK h111 ∧ ((y110 = y112 → mT g me_lw_law (d + 10) mc ms 18 [some (vr 14 0), some (vr 0 0), some (vr 10 0), some (vi (x3 + 6))] [] h111 Q) ∧ (¬ y110 = y112 → Q (some (vi (0 : Int32))) h111))))) ∧ (((hI h 14 0 x3.toNatClampNeg) &&& (31 : Int32)) = 24 → (vp_in (x3 + (1 : Int32)) (hL h 14 0) ∧ mT g me_fn_explained (d + 9) 0 0 0 [some (vr 0 0), some (vi (hI h 14 0 (x3 + (1 : Int32)).toNatClampNeg))] [] h (fun v h113 => ∃ y114, v = some (vi y114) ∧ mSK h113 ∧ (vp_in (x3 + (1 : Int32)) (hL h113 14 0) ∧ mT g me_fm_explained (d + 9) 0 0 0 [some (vr 10 0), some (vi (hI h113 14 0 (x3 + (1 : Int32)).toNatClampNeg))] [] h113 (fun v h115 => ∃ y116, v = some (vi y116) ∧ mSK h115 ∧ ((y114 = y116 → mT g me_lw_law (d + 10) mc ms 18 [some (vr 14 0), some (vr 0 0), some (vr 10 0), some (vi (x3 + 6))] [] h115 Q) ∧ (¬ y114 = y116 → Q (some (vi (0 : Int32))) h115))))))) ∧ (((hI h 14 0 x3.toNatClampNeg) &&& (31 : Int32)) = 25 → mT g me_fn_rivals (d + 9) 0 0 0 [some (vr 0 0)] [] h (fun v h117 => ∃ y118, v = some (vi y118) ∧ mSK h117 ∧ mT g me_fm_rivals (d + 9) 0 0 0 [some (vr 10 0)] [] h117 (fun v h119 => ∃ y120, v = some (vi y120) ∧ mSK h119 ∧ ((y118 = y120 → mT g me_lw_law (d + 10) mc ms 18 [some (vr 14 0), some (vr 0 0), some (vr 10 0), some (vi (x3 + 6))] [] h119 Q) ∧ (¬ y118 = y120 → Q (some (vi (0 : Int32))) h119))))) ∧ (((hI h 14 0 x3.toNatClampNeg) &&& (31 : Int32)) = 26 → (vp_in (x3 + (1 : Int32)) (hL h 14 0) ∧ mT g me_fn_empty (d + 9) 0 0 0 [some (vr 0 0), some (vi (hI h 14 0 (x3 + (1 : Int32)).toNatClampNeg)), none] [] h (fun v h121 => ∃ y122, v = some (vi y122) ∧ mSK h121 ∧ (vp_in (x3 + (1 : Int32)) (hL h121 14 0) ∧ mT g me_fm_empty (d + 9) 0 0 0 [some (vr 10 0), some (vi (hI h121 14 0 (x3 + (1 : Int32)).toNatClampNeg))] [] h121 (fun v h123 => ∃ y124, v = some (vi y124) ∧ mSK h123 ∧ ((y122 = y124 → mT g me_lw_law (d + 10) mc ms 18 [some (vr 14 0), some (vr 0 0), some (vr 10 0), some (vi (x3 + 6))] [] h123 Q) ∧ (¬ y122 = y124 → Q (some (vi (0 : Int32))) h123))))))) ∧ (((hI h 14 0 x3.toNatClampNeg) &&& (31 : Int32)) = 27 → (vp_in (x3 + (1 : Int32)) (hL h 14 0) ∧ mT g me_fn_fill (d + 9) 0 0 0 [some (vr 0 0), some (vi (hI h 14 0 (x3 + (1 : Int32)).toNatClampNeg)), none] [] h (fun v h125 => ∃ y126, v = some (vi y126) ∧ mSK h125 ∧ (vp_in (x3 + (1 : Int32)) (hL h125 14 0) ∧ mT g me_fm_fill (d + 9) 0 0 0 [some (vr 10 0), some (vi (hI h125 14 0 (x3 + (1 : Int32)).toNatClampNeg))] [] h125 (fun v h127 => ∃ y128, v = some (vi y128) ∧ mSK h127 ∧ ((y126 = y128 → mT g me_lw_law (d + 10) mc ms 18 [some (vr 14 0), some (vr 0 0), some (vr 10 0), some (vi (x3 + 6))] [] h127 Q) ∧ (¬ y126 = y128 → Q (some (vi (0 : Int32))) h127))))))) ∧ (((hI h 14 0 x3.toNatClampNeg) &&& (31 : Int32)) = 28 → (vp_in (x3 + (1 : Int32)) (hL h 14 0) ∧ mT g me_fn_order (d + 9) 0 0 0 [some (vr 0 0), some (vi (hI h 14 0 (x3 + (1 : Int32)).toNatClampNeg))] [] h (fun v h129 => ∃ y130, v = some (vi y130) ∧ mSK h129 ∧ (vp_in (x3 + (1 : Int32)) (hL h129 14 0) ∧ mT g me_fm_order (d + 9) 0 0 0 [some (vr 10 0), some (vi (hI h129 14 0 (x3 + (1 : Int32)).toNatClampNeg)), none, none, none] [] h129 (fun v h131 => ∃ y132, v = some (vi y132) ∧ mSK h131 ∧ ((y130 = y132 → mT g me_lw_law (d + 10) mc ms 18 [some (vr 14 0), some (vr 0 0), some (vr 10 0), some (vi (x3 + 6))] [] h131 Q) ∧ (¬ y130 = y132 → Q (some (vi (0 : Int32))) h131))))))) ∧ (((hI h 14 0 x3.toNatClampNeg) &&& (31 : Int32)) = 29 → (vp_in (x3 + (1 : Int32)) (hL h 14 0) ∧ (vp_in (x3 + (2 : Int32)) (hL h 14 0) ∧ mT g me_fn_tankOf (d + 9) 0 0 0 [some (vr 0 0), some (vi (hI h 14 0 (x3 + (1 : Int32)).toNatClampNeg)), some (vi (hI h 14 0 (x3 + (2 : Int32)).toNatClampNeg)), none] [] h (fun v h133 => ∃ y134, v = some (vi y134) ∧ mSK h133 ∧ (vp_in (x3 + (1 : Int32)) (hL h133 14 0) ∧ (vp_in (x3 + (2 : Int32)) (hL h133 14 0) ∧ mT g me_fm_tankOf (d + 9) 0 0 0 [some (vr 10 0), some (vi (hI h133 14 0 (x3 + (1 : Int32)).toNatClampNeg)), some (vi (hI h133 14 0 (x3 + (2 : Int32)).toNatClampNeg))] [] h133 (fun v h135 => ∃ y136, v = some (vi y136) ∧ mSK h135 ∧ ((y134 = y136 → mT g me_lw_law (d + 10) mc ms 18 [some (vr 14 0), some (vr 0 0), some (vr 10 0), some (vi (x3 + 6))] [] h135 Q) ∧ (¬ y134 = y136 → Q (some (vi (0 : Int32))) h135))))))))) ∧ (((hI h 14 0 x3.toNatClampNeg) &&& (31 : Int32)) = 30 → (vp_in (x3 + (1 : Int32)) (hL h 14 0) ∧ (vp_in (x3 + (2 : Int32)) (hL h 14 0) ∧ mT g me_fn_jointOf (d + 9) 0 0 0 [some (vr 0 0), some (vi (hI h 14 0 (x3 + (1 : Int32)).toNatClampNeg)), some (vi (hI h 14 0 (x3 + (2 : Int32)).toNatClampNeg)), none] [] h (fun v h137 => ∃ y138, v = some (vi y138) ∧ mSK h137 ∧ (vp_in (x3 + (1 : Int32)) (hL h137 14 0) ∧ (vp_in (x3 + (2 : Int32)) (hL h137 14 0) ∧ mT g me_fm_jointOf (d + 9) 0 0 0 [some (vr 10 0), some (vi (hI h137 14 0 (x3 + (1 : Int32)).toNatClampNeg)), some (vi (hI h137 14 0 (x3 + (2 : Int32)).toNatClampNeg))] [] h137 (fun v h139 => ∃ y140, v = some (vi y140) ∧ mSK h139 ∧ ((y138 = y140 → mT g me_lw_law (d + 10) mc ms 18 [some (vr 14 0), some (vr 0 0), some (vr 10 0), some (vi (x3 + 6))] [] h139 Q) ∧ (¬ y138 = y140 → Q (some (vi (0 : Int32))) h139))))))))) ∧ (((hI h 14 0 x3.toNatClampNeg) &&& (31 : Int32)) = 31 → (vp_in (x3 + (1 : Int32)) (hL h 14 0) ∧ mT g me_fn_count (d + 9) 0 0 0 [some (vr 0 0), some (vi (hI h 14 0 (x3 + (1 : Int32)).toNatClampNeg))] [] h (fun v h141 => ∃ y142, v = some (vi y142) ∧ mSK h141 ∧ (vp_in (x3 + (1 : Int32)) (hL h141 14 0) ∧ mT g me_fm_count (d + 9) 0 0 0 [some (vr 10 0), some (vi (hI h141 14 0 (x3 + (1 : Int32)).toNatClampNeg)), none, none] [] h141 (fun v h143 => ∃ y144, v = some (vi y144) ∧ mSK h143 ∧ ((y142 = y144 → mT g me_lw_law (d + 10) mc ms 18 [some (vr 14 0), some (vr 0 0), some (vr 10 0), some (vi (x3 + 6))] [] h143 Q) ∧ (¬ y142 = y144 → Q (some (vi (0 : Int32))) h143))))))) ∧ (¬ ((hI h 14 0 x3.toNatClampNeg) &&& (31 : Int32)) = 0 → ¬ ((hI h 14 0 x3.toNatClampNeg) &&& (31 : Int32)) = 1 → ¬ ((hI h 14 0 x3.toNatClampNeg) &&& (31 : Int32)) = 2 → ¬ ((hI h 14 0 x3.toNatClampNeg) &&& (31 : Int32)) = 3 → ¬ ((hI h 14 0 x3.toNatClampNeg) &&& (31 : Int32)) = 4 → ¬ ((hI h 14 0 x3.toNatClampNeg) &&& (31 : Int32)) = 5 → ¬ ((hI h 14 0 x3.toNatClampNeg) &&& (31 : Int32)) = 6 → ¬ ((hI h 14 0 x3.toNatClampNeg) &&& (31 : Int32)) = 7 → ¬ ((hI h 14 0 x3.toNatClampNeg) &&& (31 : Int32)) = 8 → ¬ ((hI h 14 0 x3.toNatClampNeg) &&& (31 : Int32)) = 9 → ¬ ((hI h 14 0 x3.toNatClampNeg) &&& (31 : Int32)) = 10 → ¬ ((hI h 14 0 x3.toNatClampNeg) &&& (31 : Int32)) = 11 → ¬ ((hI h 14 0 x3.toNatClampNeg) &&& (31 : Int32)) = 12 → ¬ ((hI h 14 0 x3.toNatClampNeg) &&& (31 : Int32)) = 13 → ¬ ((hI h 14 0 x3.toNatClampNeg) &&& (31 : Int32)) = 14 → ¬ ((hI h 14 0 x3.toNatClampNeg) &&& (31 : Int32)) = 15 → ¬ ((hI h 14 0 x3.toNatClampNeg) &&& (31 : Int32)) = 16 → ¬ ((hI h 14 0 x3.toNatClampNeg) &&& (31 : Int32)) = 17 → ¬ ((hI h 14 0 x3.toNatClampNeg) &&& (31 : Int32)) = 18 → ¬ ((hI h 14 0 x3.toNatClampNeg) &&& (31 : Int32)) = 19 → ¬ ((hI h 14 0 x3.toNatClampNeg) &&& (31 : Int32)) = 20 → ¬ ((hI h 14 0 x3.toNatClampNeg) &&& (31 : Int32)) = 21 → ¬ ((hI h 14 0 x3.toNatClampNeg) &&& (31 : Int32)) = 22 → ¬ ((hI h 14 0 x3.toNatClampNeg) &&& (31 : Int32)) = 23 → ¬ ((hI h 14 0 x3.toNatClampNeg) &&& (31 : Int32)) = 24 → ¬ ((hI h 14 0 x3.toNatClampNeg) &&& (31 : Int32)) = 25 → ¬ ((hI h 14 0 x3.toNatClampNeg) &&& (31 : Int32)) = 26 → ¬ ((hI h 14 0 x3.toNatClampNeg) &&& (31 : Int32)) = 27 → ¬ ((hI h 14 0 x3.toNatClampNeg) &&& (31 : Int32)) = 28 → ¬ ((hI h 14 0 x3.toNatClampNeg) &&& (31 : Int32)) = 29 → ¬ ((hI h 14 0 x3.toNatClampNeg) &&& (31 : Int32)) = 30 → ¬ ((hI h 14 0 x3.toNatClampNeg) &&& (31 : Int32)) = 31 → mT g me_lw_law (d + 10) mc ms 18 [some (vr 14 0), some (vr 0 0), some (vr 10 0), some (vi (x3 + 6))] [] h Q)))))) : mT g me_lw_law (d + 10) (mc + 2) (ms + 100) 18 [some (vr 14 0), some (vr 0 0), some (vr 10 0), some (vi x3)] [] h Q := by
  refine tr_iload_n (pc := 18) 3 k_lw_law_18 rfl rfl ?_
  refine tr_aload_n (pc := 19) 0 k_lw_law_19 rfl rfl ?_
  refine tr_slen (pc := 20) (v := Int32.ofNat (hL h 14 0)) k_lw_law_20 rfl ?_
  refine tr_bipush (pc := 21) (v := 6) k_lw_law_21 (by decide) ?_
  refine tr_isub (pc := 23) k_lw_law_23 ?_
  refine tr_icmp_gt (pc := 24) 1100 k_lw_law_24 (by decide) (fun q => ?_) (fun q => ?_)
  · replace hv := hv.1 q
    refine tr_iconst (pc := 1100) (v := 1) k_lw_law_1100 (by decide) ?_
    refine tr_ireturn (pc := 1101) k_lw_law_1101 rfl rfl ?_
    exact hv
  · replace hv := hv.2 q
    refine tr_aload_n (pc := 27) 0 k_lw_law_27 rfl rfl ?_
    refine tr_iload_n (pc := 28) 3 k_lw_law_28 rfl rfl ?_
    refine tr_sald (pc := 29) k_lw_law_29 hv.1 ?_
    replace hv := hv.2
    refine tr_bipush (pc := 30) (v := 31) k_lw_law_30 (by decide) ?_
    refine tr_iand (pc := 32) k_lw_law_32 ?_
    refine tr_table (pc := 33) [176, 229, 272, 351, 384, 433, 466, 499, 522, 545, 568, 601, 624, 647, 700, 713, 736, 749, 772, 785, 818, 831, 864, 887, 900, 923, 936, 959, 982, 1005, 1038, 1071] 1094 k_lw_law_33 (by decide) (by decide) (by decide) (fun i t hi hx => ?_) (fun hx => ?_)
    · rcases i with _ | _ | _ | _ | _ | _ | _ | _ | _ | _ | _ | _ | _ | _ | _ | _ | _ | _ | _ | _ | _ | _ | _ | _ | _ | _ | _ | _ | _ | _ | _ | _ | i
      · cases hi
        replace hv := hv.1 (mtoI (hx.trans (by decide)))
        refine tr_aload_n (pc := 176) 1 k_lw_law_176 rfl rfl ?_
        refine tr_aload_n (pc := 177) 0 k_lw_law_177 rfl rfl ?_
        refine tr_iload_n (pc := 178) 3 k_lw_law_178 rfl rfl ?_
        refine tr_iconst (pc := 179) (v := 1) k_lw_law_179 (by decide) ?_
        refine tr_iadd (pc := 180) k_lw_law_180 ?_
        refine tr_sald (pc := 181) k_lw_law_181 hv.1 ?_
        replace hv := hv.2
        refine tr_aload_n (pc := 182) 0 k_lw_law_182 rfl rfl ?_
        refine tr_iload_n (pc := 183) 3 k_lw_law_183 rfl rfl ?_
        refine tr_iconst (pc := 184) (v := 2) k_lw_law_184 (by decide) ?_
        refine tr_iadd (pc := 185) k_lw_law_185 ?_
        refine tr_sald (pc := 186) k_lw_law_186 hv.1 ?_
        replace hv := hv.2
        refine tr_aload_n (pc := 187) 0 k_lw_law_187 rfl rfl ?_
        refine tr_iload_n (pc := 188) 3 k_lw_law_188 rfl rfl ?_
        refine tr_iconst (pc := 189) (v := 3) k_lw_law_189 (by decide) ?_
        refine tr_iadd (pc := 190) k_lw_law_190 ?_
        refine tr_sald (pc := 191) k_lw_law_191 hv.1 ?_
        replace hv := hv.2
        refine tr_aload_n (pc := 192) 0 k_lw_law_192 rfl rfl ?_
        refine tr_iload_n (pc := 193) 3 k_lw_law_193 rfl rfl ?_
        refine tr_iconst (pc := 194) (v := 4) k_lw_law_194 (by decide) ?_
        refine tr_iadd (pc := 195) k_lw_law_195 ?_
        refine tr_sald (pc := 196) k_lw_law_196 hv.1 ?_
        replace hv := hv.2
        have hT := hv
        clear hv
        refine tr_callV (pc := 197) (d' := d + 9) (mc' := 2) (ms' := 84) [vi (hI h 14 0 (x3 + (1 : Int32)).toNatClampNeg), vi (hI h 14 0 (x3 + (2 : Int32)).toNatClampNeg), vi (hI h 14 0 (x3 + (3 : Int32)).toNatClampNeg), vi (hI h 14 0 (x3 + (4 : Int32)).toNatClampNeg)] k_lw_law_197 ca_fn_tank ml_lw_13 ii_fn_tank ⟨by decide, rfl⟩ pa_fn_tank (by omega) (by omega) (by omega) rfl (Nat.le_of_ble_eq_true rfl) (Nat.le_of_ble_eq_true rfl) hT (fun v h9 hv => ?_)
        clear hT
        obtain ⟨y2, rfl, hv⟩ := hv
        obtain ⟨h1, eh⟩ : ∃ z, z = h9 := ⟨_, rfl⟩
        subst eh
        obtain ⟨hskh1, hv⟩ := hv
        rw [show mc + 2 - 2 = mc + 0 by omega, show ms + 100 - 84 = ms + 16 by omega]
        show mT g me_lw_law (d + 10) (mc + 0) (ms + 16) 200 [some (vr 14 0), some (vr 0 0), some (vr 10 0), some (vi x3)] [vi y2] h1 _
        refine tr_aload_n (pc := 200) 2 k_lw_law_200 rfl rfl ?_
        refine tr_aload_n (pc := 201) 0 k_lw_law_201 rfl rfl ?_
        refine tr_iload_n (pc := 202) 3 k_lw_law_202 rfl rfl ?_
        refine tr_iconst (pc := 203) (v := 1) k_lw_law_203 (by decide) ?_
        refine tr_iadd (pc := 204) k_lw_law_204 ?_
        refine tr_sald (pc := 205) k_lw_law_205 hv.1 ?_
        replace hv := hv.2
        refine tr_aload_n (pc := 206) 0 k_lw_law_206 rfl rfl ?_
        refine tr_iload_n (pc := 207) 3 k_lw_law_207 rfl rfl ?_
        refine tr_iconst (pc := 208) (v := 2) k_lw_law_208 (by decide) ?_
        refine tr_iadd (pc := 209) k_lw_law_209 ?_
        refine tr_sald (pc := 210) k_lw_law_210 hv.1 ?_
        replace hv := hv.2
        refine tr_aload_n (pc := 211) 0 k_lw_law_211 rfl rfl ?_
        refine tr_iload_n (pc := 212) 3 k_lw_law_212 rfl rfl ?_
        refine tr_iconst (pc := 213) (v := 3) k_lw_law_213 (by decide) ?_
        refine tr_iadd (pc := 214) k_lw_law_214 ?_
        refine tr_sald (pc := 215) k_lw_law_215 hv.1 ?_
        replace hv := hv.2
        refine tr_aload_n (pc := 216) 0 k_lw_law_216 rfl rfl ?_
        refine tr_iload_n (pc := 217) 3 k_lw_law_217 rfl rfl ?_
        refine tr_iconst (pc := 218) (v := 4) k_lw_law_218 (by decide) ?_
        refine tr_iadd (pc := 219) k_lw_law_219 ?_
        refine tr_sald (pc := 220) k_lw_law_220 hv.1 ?_
        replace hv := hv.2
        have hT := hv
        clear hv
        refine tr_callV (pc := 221) (d' := d + 9) (mc' := 0) (ms' := 0) [vi (hI h1 14 0 (x3 + (1 : Int32)).toNatClampNeg), vi (hI h1 14 0 (x3 + (2 : Int32)).toNatClampNeg), vi (hI h1 14 0 (x3 + (3 : Int32)).toNatClampNeg), vi (hI h1 14 0 (x3 + (4 : Int32)).toNatClampNeg)] k_lw_law_221 ca_fm_tank ml_lw_17 ii_fm_tank ⟨by decide, rfl⟩ pa_fm_tank (by omega) (by omega) (by omega) rfl (Nat.le_of_ble_eq_true rfl) (Nat.le_of_ble_eq_true rfl) hT (fun v h9 hv => ?_)
        clear hT
        obtain ⟨y4, rfl, hv⟩ := hv
        obtain ⟨h3, eh⟩ : ∃ z, z = h9 := ⟨_, rfl⟩
        subst eh
        obtain ⟨hskh3, hv⟩ := hv
        rw [show mc + 0 - 0 = mc + 0 by omega, show ms + 16 - 0 = ms + 16 by omega]
        show mT g me_lw_law (d + 10) (mc + 0) (ms + 16) 224 [some (vr 14 0), some (vr 0 0), some (vr 10 0), some (vi x3)] [vi y4, vi y2] h3 _
        refine tr_icmp_eq (pc := 224) 1094 k_lw_law_224 (by decide) (fun q => ?_) (fun q => ?_)
        · replace hv := hv.1 q
          refine tr_iinc (pc := 1094) (v := (x3 + 6)) k_lw_law_1094 rfl rfl (by decide) rfl ?_
          show mT g me_lw_law (d + 10) (mc + 0) (ms + 16) 1097 [some (vr 14 0), some (vr 0 0), some (vr 10 0), some (vi (x3 + 6))] [] h3 _
          refine tr_goto (pc := 1097) 18 k_lw_law_1097 (by decide) ?_
          exact mT.weaken hv (by omega) (by omega)
        · replace hv := hv.2 q
          refine tr_iconst (pc := 227) (v := 0) k_lw_law_227 (by decide) ?_
          refine tr_ireturn (pc := 228) k_lw_law_228 rfl rfl ?_
          exact hv
      · cases hi
        replace hv := hv.2.1 (mtoI (hx.trans (by decide)))
        refine tr_aload_n (pc := 229) 1 k_lw_law_229 rfl rfl ?_
        refine tr_aload_n (pc := 230) 0 k_lw_law_230 rfl rfl ?_
        refine tr_iload_n (pc := 231) 3 k_lw_law_231 rfl rfl ?_
        refine tr_iconst (pc := 232) (v := 1) k_lw_law_232 (by decide) ?_
        refine tr_iadd (pc := 233) k_lw_law_233 ?_
        refine tr_sald (pc := 234) k_lw_law_234 hv.1 ?_
        replace hv := hv.2
        refine tr_aload_n (pc := 235) 0 k_lw_law_235 rfl rfl ?_
        refine tr_iload_n (pc := 236) 3 k_lw_law_236 rfl rfl ?_
        refine tr_iconst (pc := 237) (v := 2) k_lw_law_237 (by decide) ?_
        refine tr_iadd (pc := 238) k_lw_law_238 ?_
        refine tr_sald (pc := 239) k_lw_law_239 hv.1 ?_
        replace hv := hv.2
        refine tr_aload_n (pc := 240) 0 k_lw_law_240 rfl rfl ?_
        refine tr_iload_n (pc := 241) 3 k_lw_law_241 rfl rfl ?_
        refine tr_iconst (pc := 242) (v := 3) k_lw_law_242 (by decide) ?_
        refine tr_iadd (pc := 243) k_lw_law_243 ?_
        refine tr_sald (pc := 244) k_lw_law_244 hv.1 ?_
        replace hv := hv.2
        have hT := hv
        clear hv
        refine tr_callV (pc := 245) (d' := d + 9) (mc' := 0) (ms' := 0) [vi (hI h 14 0 (x3 + (1 : Int32)).toNatClampNeg), vi (hI h 14 0 (x3 + (2 : Int32)).toNatClampNeg), vi (hI h 14 0 (x3 + (3 : Int32)).toNatClampNeg)] k_lw_law_245 ca_fn_set ml_lw_18 ii_fn_set ⟨by decide, rfl⟩ pa_fn_set (by omega) (by omega) (by omega) rfl (Nat.le_of_ble_eq_true rfl) (Nat.le_of_ble_eq_true rfl) hT (fun v h9 hv => ?_)
        clear hT
        obtain ⟨y6, rfl, hv⟩ := hv
        obtain ⟨h5, eh⟩ : ∃ z, z = h9 := ⟨_, rfl⟩
        subst eh
        obtain ⟨hskh5, hv⟩ := hv
        rw [show mc + 2 - 0 = mc + 2 by omega, show ms + 100 - 0 = ms + 100 by omega]
        show mT g me_lw_law (d + 10) (mc + 2) (ms + 100) 248 [some (vr 14 0), some (vr 0 0), some (vr 10 0), some (vi x3)] [vi y6] h5 _
        refine tr_aload_n (pc := 248) 2 k_lw_law_248 rfl rfl ?_
        refine tr_aload_n (pc := 249) 0 k_lw_law_249 rfl rfl ?_
        refine tr_iload_n (pc := 250) 3 k_lw_law_250 rfl rfl ?_
        refine tr_iconst (pc := 251) (v := 1) k_lw_law_251 (by decide) ?_
        refine tr_iadd (pc := 252) k_lw_law_252 ?_
        refine tr_sald (pc := 253) k_lw_law_253 hv.1 ?_
        replace hv := hv.2
        refine tr_aload_n (pc := 254) 0 k_lw_law_254 rfl rfl ?_
        refine tr_iload_n (pc := 255) 3 k_lw_law_255 rfl rfl ?_
        refine tr_iconst (pc := 256) (v := 2) k_lw_law_256 (by decide) ?_
        refine tr_iadd (pc := 257) k_lw_law_257 ?_
        refine tr_sald (pc := 258) k_lw_law_258 hv.1 ?_
        replace hv := hv.2
        refine tr_aload_n (pc := 259) 0 k_lw_law_259 rfl rfl ?_
        refine tr_iload_n (pc := 260) 3 k_lw_law_260 rfl rfl ?_
        refine tr_iconst (pc := 261) (v := 3) k_lw_law_261 (by decide) ?_
        refine tr_iadd (pc := 262) k_lw_law_262 ?_
        refine tr_sald (pc := 263) k_lw_law_263 hv.1 ?_
        replace hv := hv.2
        have hT := hv
        clear hv
        refine tr_callV (pc := 264) (d' := d + 9) (mc' := 0) (ms' := 0) [vi (hI h5 14 0 (x3 + (1 : Int32)).toNatClampNeg), vi (hI h5 14 0 (x3 + (2 : Int32)).toNatClampNeg), vi (hI h5 14 0 (x3 + (3 : Int32)).toNatClampNeg)] k_lw_law_264 ca_fm_set ml_lw_22 ii_fm_set ⟨by decide, rfl⟩ pa_fm_set (by omega) (by omega) (by omega) rfl (Nat.le_of_ble_eq_true rfl) (Nat.le_of_ble_eq_true rfl) hT (fun v h9 hv => ?_)
        clear hT
        obtain ⟨y8, rfl, hv⟩ := hv
        obtain ⟨h7, eh⟩ : ∃ z, z = h9 := ⟨_, rfl⟩
        subst eh
        obtain ⟨hskh7, hv⟩ := hv
        rw [show mc + 2 - 0 = mc + 2 by omega, show ms + 100 - 0 = ms + 100 by omega]
        show mT g me_lw_law (d + 10) (mc + 2) (ms + 100) 267 [some (vr 14 0), some (vr 0 0), some (vr 10 0), some (vi x3)] [vi y8, vi y6] h7 _
        refine tr_icmp_eq (pc := 267) 1094 k_lw_law_267 (by decide) (fun q => ?_) (fun q => ?_)
        · replace hv := hv.1 q
          refine tr_iinc (pc := 1094) (v := (x3 + 6)) k_lw_law_1094 rfl rfl (by decide) rfl ?_
          show mT g me_lw_law (d + 10) (mc + 2) (ms + 100) 1097 [some (vr 14 0), some (vr 0 0), some (vr 10 0), some (vi (x3 + 6))] [] h7 _
          refine tr_goto (pc := 1097) 18 k_lw_law_1097 (by decide) ?_
          exact mT.weaken hv (by omega) (by omega)
        · replace hv := hv.2 q
          refine tr_iconst (pc := 270) (v := 0) k_lw_law_270 (by decide) ?_
          refine tr_ireturn (pc := 271) k_lw_law_271 rfl rfl ?_
          exact hv
      · cases hi
        replace hv := hv.2.2.1 (mtoI (hx.trans (by decide)))
        refine tr_aload_n (pc := 272) 1 k_lw_law_272 rfl rfl ?_
        refine tr_aload_n (pc := 273) 0 k_lw_law_273 rfl rfl ?_
        refine tr_iload_n (pc := 274) 3 k_lw_law_274 rfl rfl ?_
        refine tr_iconst (pc := 275) (v := 1) k_lw_law_275 (by decide) ?_
        refine tr_iadd (pc := 276) k_lw_law_276 ?_
        refine tr_sald (pc := 277) k_lw_law_277 hv.1 ?_
        replace hv := hv.2
        refine tr_if_eq (pc := 278) 285 k_lw_law_278 (by decide) (fun q => ?_) (fun q => ?_)
        · replace hv := hv.1 q
          refine tr_iconst (pc := 285) (v := 0) k_lw_law_285 (by decide) ?_
          refine tr_aload_n (pc := 286) 0 k_lw_law_286 rfl rfl ?_
          refine tr_iload_n (pc := 287) 3 k_lw_law_287 rfl rfl ?_
          refine tr_iconst (pc := 288) (v := 2) k_lw_law_288 (by decide) ?_
          refine tr_iadd (pc := 289) k_lw_law_289 ?_
          refine tr_sald (pc := 290) k_lw_law_290 hv.1 ?_
          replace hv := hv.2
          refine tr_aload_n (pc := 291) 0 k_lw_law_291 rfl rfl ?_
          refine tr_iload_n (pc := 292) 3 k_lw_law_292 rfl rfl ?_
          refine tr_iconst (pc := 293) (v := 3) k_lw_law_293 (by decide) ?_
          refine tr_iadd (pc := 294) k_lw_law_294 ?_
          refine tr_sald (pc := 295) k_lw_law_295 hv.1 ?_
          replace hv := hv.2
          refine tr_aload_n (pc := 296) 0 k_lw_law_296 rfl rfl ?_
          refine tr_iload_n (pc := 297) 3 k_lw_law_297 rfl rfl ?_
          refine tr_iconst (pc := 298) (v := 4) k_lw_law_298 (by decide) ?_
          refine tr_iadd (pc := 299) k_lw_law_299 ?_
          refine tr_sald (pc := 300) k_lw_law_300 hv.1 ?_
          replace hv := hv.2
          refine tr_aload_n (pc := 301) 0 k_lw_law_301 rfl rfl ?_
          refine tr_iload_n (pc := 302) 3 k_lw_law_302 rfl rfl ?_
          refine tr_iconst (pc := 303) (v := 5) k_lw_law_303 (by decide) ?_
          refine tr_iadd (pc := 304) k_lw_law_304 ?_
          refine tr_sald (pc := 305) k_lw_law_305 hv.1 ?_
          replace hv := hv.2
          have hT := hv
          clear hv
          refine tr_callV (pc := 306) (d' := d + 9) (mc' := 2) (ms' := 88) [vi (0 : Int32), vi (hI h 14 0 (x3 + (2 : Int32)).toNatClampNeg), vi (hI h 14 0 (x3 + (3 : Int32)).toNatClampNeg), vi (hI h 14 0 (x3 + (4 : Int32)).toNatClampNeg), vi (hI h 14 0 (x3 + (5 : Int32)).toNatClampNeg)] k_lw_law_306 ca_fn_joint ml_lw_23 ii_fn_joint ⟨by decide, rfl⟩ pa_fn_joint (by omega) (by omega) (by omega) rfl (Nat.le_of_ble_eq_true rfl) (Nat.le_of_ble_eq_true rfl) hT (fun v h9 hv => ?_)
          clear hT
          obtain ⟨y10, rfl, hv⟩ := hv
          obtain ⟨h9, eh⟩ : ∃ z, z = h9 := ⟨_, rfl⟩
          subst eh
          obtain ⟨hskh9, hv⟩ := hv
          rw [show mc + 2 - 2 = mc + 0 by omega, show ms + 100 - 88 = ms + 12 by omega]
          show mT g me_lw_law (d + 10) (mc + 0) (ms + 12) 309 [some (vr 14 0), some (vr 0 0), some (vr 10 0), some (vi x3)] [vi y10] h9 _
          refine tr_aload_n (pc := 309) 2 k_lw_law_309 rfl rfl ?_
          refine tr_aload_n (pc := 310) 0 k_lw_law_310 rfl rfl ?_
          refine tr_iload_n (pc := 311) 3 k_lw_law_311 rfl rfl ?_
          refine tr_iconst (pc := 312) (v := 1) k_lw_law_312 (by decide) ?_
          refine tr_iadd (pc := 313) k_lw_law_313 ?_
          refine tr_sald (pc := 314) k_lw_law_314 hv.1 ?_
          replace hv := hv.2
          refine tr_if_eq (pc := 315) 322 k_lw_law_315 (by decide) (fun q => ?_) (fun q => ?_)
          · replace hv := hv.1 q
            refine tr_iconst (pc := 322) (v := 0) k_lw_law_322 (by decide) ?_
            refine tr_aload_n (pc := 323) 0 k_lw_law_323 rfl rfl ?_
            refine tr_iload_n (pc := 324) 3 k_lw_law_324 rfl rfl ?_
            refine tr_iconst (pc := 325) (v := 2) k_lw_law_325 (by decide) ?_
            refine tr_iadd (pc := 326) k_lw_law_326 ?_
            refine tr_sald (pc := 327) k_lw_law_327 hv.1 ?_
            replace hv := hv.2
            refine tr_aload_n (pc := 328) 0 k_lw_law_328 rfl rfl ?_
            refine tr_iload_n (pc := 329) 3 k_lw_law_329 rfl rfl ?_
            refine tr_iconst (pc := 330) (v := 3) k_lw_law_330 (by decide) ?_
            refine tr_iadd (pc := 331) k_lw_law_331 ?_
            refine tr_sald (pc := 332) k_lw_law_332 hv.1 ?_
            replace hv := hv.2
            refine tr_aload_n (pc := 333) 0 k_lw_law_333 rfl rfl ?_
            refine tr_iload_n (pc := 334) 3 k_lw_law_334 rfl rfl ?_
            refine tr_iconst (pc := 335) (v := 4) k_lw_law_335 (by decide) ?_
            refine tr_iadd (pc := 336) k_lw_law_336 ?_
            refine tr_sald (pc := 337) k_lw_law_337 hv.1 ?_
            replace hv := hv.2
            refine tr_aload_n (pc := 338) 0 k_lw_law_338 rfl rfl ?_
            refine tr_iload_n (pc := 339) 3 k_lw_law_339 rfl rfl ?_
            refine tr_iconst (pc := 340) (v := 5) k_lw_law_340 (by decide) ?_
            refine tr_iadd (pc := 341) k_lw_law_341 ?_
            refine tr_sald (pc := 342) k_lw_law_342 hv.1 ?_
            replace hv := hv.2
            have hT := hv
            clear hv
            refine tr_callV (pc := 343) (d' := d + 9) (mc' := 0) (ms' := 0) [vi (0 : Int32), vi (hI h9 14 0 (x3 + (2 : Int32)).toNatClampNeg), vi (hI h9 14 0 (x3 + (3 : Int32)).toNatClampNeg), vi (hI h9 14 0 (x3 + (4 : Int32)).toNatClampNeg), vi (hI h9 14 0 (x3 + (5 : Int32)).toNatClampNeg)] k_lw_law_343 ca_fm_joint ml_lw_27 ii_fm_joint ⟨by decide, rfl⟩ pa_fm_joint (by omega) (by omega) (by omega) rfl (Nat.le_of_ble_eq_true rfl) (Nat.le_of_ble_eq_true rfl) hT (fun v h9 hv => ?_)
            clear hT
            obtain ⟨y12, rfl, hv⟩ := hv
            obtain ⟨h11, eh⟩ : ∃ z, z = h9 := ⟨_, rfl⟩
            subst eh
            obtain ⟨hskh11, hv⟩ := hv
            rw [show mc + 0 - 0 = mc + 0 by omega, show ms + 12 - 0 = ms + 12 by omega]
            show mT g me_lw_law (d + 10) (mc + 0) (ms + 12) 346 [some (vr 14 0), some (vr 0 0), some (vr 10 0), some (vi x3)] [vi y12, vi y10] h11 _
            refine tr_icmp_eq (pc := 346) 1094 k_lw_law_346 (by decide) (fun q => ?_) (fun q => ?_)
            · replace hv := hv.1 q
              refine tr_iinc (pc := 1094) (v := (x3 + 6)) k_lw_law_1094 rfl rfl (by decide) rfl ?_
              show mT g me_lw_law (d + 10) (mc + 0) (ms + 12) 1097 [some (vr 14 0), some (vr 0 0), some (vr 10 0), some (vi (x3 + 6))] [] h11 _
              refine tr_goto (pc := 1097) 18 k_lw_law_1097 (by decide) ?_
              exact mT.weaken hv (by omega) (by omega)
            · replace hv := hv.2 q
              refine tr_iconst (pc := 349) (v := 0) k_lw_law_349 (by decide) ?_
              refine tr_ireturn (pc := 350) k_lw_law_350 rfl rfl ?_
              exact hv
          · replace hv := hv.2 q
            refine tr_iconst (pc := 318) (v := 1) k_lw_law_318 (by decide) ?_
            refine tr_goto (pc := 319) 323 k_lw_law_319 (by decide) ?_
            refine tr_aload_n (pc := 323) 0 k_lw_law_323 rfl rfl ?_
            refine tr_iload_n (pc := 324) 3 k_lw_law_324 rfl rfl ?_
            refine tr_iconst (pc := 325) (v := 2) k_lw_law_325 (by decide) ?_
            refine tr_iadd (pc := 326) k_lw_law_326 ?_
            refine tr_sald (pc := 327) k_lw_law_327 hv.1 ?_
            replace hv := hv.2
            refine tr_aload_n (pc := 328) 0 k_lw_law_328 rfl rfl ?_
            refine tr_iload_n (pc := 329) 3 k_lw_law_329 rfl rfl ?_
            refine tr_iconst (pc := 330) (v := 3) k_lw_law_330 (by decide) ?_
            refine tr_iadd (pc := 331) k_lw_law_331 ?_
            refine tr_sald (pc := 332) k_lw_law_332 hv.1 ?_
            replace hv := hv.2
            refine tr_aload_n (pc := 333) 0 k_lw_law_333 rfl rfl ?_
            refine tr_iload_n (pc := 334) 3 k_lw_law_334 rfl rfl ?_
            refine tr_iconst (pc := 335) (v := 4) k_lw_law_335 (by decide) ?_
            refine tr_iadd (pc := 336) k_lw_law_336 ?_
            refine tr_sald (pc := 337) k_lw_law_337 hv.1 ?_
            replace hv := hv.2
            refine tr_aload_n (pc := 338) 0 k_lw_law_338 rfl rfl ?_
            refine tr_iload_n (pc := 339) 3 k_lw_law_339 rfl rfl ?_
            refine tr_iconst (pc := 340) (v := 5) k_lw_law_340 (by decide) ?_
            refine tr_iadd (pc := 341) k_lw_law_341 ?_
            refine tr_sald (pc := 342) k_lw_law_342 hv.1 ?_
            replace hv := hv.2
            have hT := hv
            clear hv
            refine tr_callV (pc := 343) (d' := d + 9) (mc' := 0) (ms' := 0) [vi (1 : Int32), vi (hI h9 14 0 (x3 + (2 : Int32)).toNatClampNeg), vi (hI h9 14 0 (x3 + (3 : Int32)).toNatClampNeg), vi (hI h9 14 0 (x3 + (4 : Int32)).toNatClampNeg), vi (hI h9 14 0 (x3 + (5 : Int32)).toNatClampNeg)] k_lw_law_343 ca_fm_joint ml_lw_27 ii_fm_joint ⟨by decide, rfl⟩ pa_fm_joint (by omega) (by omega) (by omega) rfl (Nat.le_of_ble_eq_true rfl) (Nat.le_of_ble_eq_true rfl) hT (fun v h9 hv => ?_)
            clear hT
            obtain ⟨y14, rfl, hv⟩ := hv
            obtain ⟨h13, eh⟩ : ∃ z, z = h9 := ⟨_, rfl⟩
            subst eh
            obtain ⟨hskh13, hv⟩ := hv
            rw [show mc + 0 - 0 = mc + 0 by omega, show ms + 12 - 0 = ms + 12 by omega]
            show mT g me_lw_law (d + 10) (mc + 0) (ms + 12) 346 [some (vr 14 0), some (vr 0 0), some (vr 10 0), some (vi x3)] [vi y14, vi y10] h13 _
            refine tr_icmp_eq (pc := 346) 1094 k_lw_law_346 (by decide) (fun q => ?_) (fun q => ?_)
            · replace hv := hv.1 q
              refine tr_iinc (pc := 1094) (v := (x3 + 6)) k_lw_law_1094 rfl rfl (by decide) rfl ?_
              show mT g me_lw_law (d + 10) (mc + 0) (ms + 12) 1097 [some (vr 14 0), some (vr 0 0), some (vr 10 0), some (vi (x3 + 6))] [] h13 _
              refine tr_goto (pc := 1097) 18 k_lw_law_1097 (by decide) ?_
              exact mT.weaken hv (by omega) (by omega)
            · replace hv := hv.2 q
              refine tr_iconst (pc := 349) (v := 0) k_lw_law_349 (by decide) ?_
              refine tr_ireturn (pc := 350) k_lw_law_350 rfl rfl ?_
              exact hv
        · replace hv := hv.2 q
          refine tr_iconst (pc := 281) (v := 1) k_lw_law_281 (by decide) ?_
          refine tr_goto (pc := 282) 286 k_lw_law_282 (by decide) ?_
          refine tr_aload_n (pc := 286) 0 k_lw_law_286 rfl rfl ?_
          refine tr_iload_n (pc := 287) 3 k_lw_law_287 rfl rfl ?_
          refine tr_iconst (pc := 288) (v := 2) k_lw_law_288 (by decide) ?_
          refine tr_iadd (pc := 289) k_lw_law_289 ?_
          refine tr_sald (pc := 290) k_lw_law_290 hv.1 ?_
          replace hv := hv.2
          refine tr_aload_n (pc := 291) 0 k_lw_law_291 rfl rfl ?_
          refine tr_iload_n (pc := 292) 3 k_lw_law_292 rfl rfl ?_
          refine tr_iconst (pc := 293) (v := 3) k_lw_law_293 (by decide) ?_
          refine tr_iadd (pc := 294) k_lw_law_294 ?_
          refine tr_sald (pc := 295) k_lw_law_295 hv.1 ?_
          replace hv := hv.2
          refine tr_aload_n (pc := 296) 0 k_lw_law_296 rfl rfl ?_
          refine tr_iload_n (pc := 297) 3 k_lw_law_297 rfl rfl ?_
          refine tr_iconst (pc := 298) (v := 4) k_lw_law_298 (by decide) ?_
          refine tr_iadd (pc := 299) k_lw_law_299 ?_
          refine tr_sald (pc := 300) k_lw_law_300 hv.1 ?_
          replace hv := hv.2
          refine tr_aload_n (pc := 301) 0 k_lw_law_301 rfl rfl ?_
          refine tr_iload_n (pc := 302) 3 k_lw_law_302 rfl rfl ?_
          refine tr_iconst (pc := 303) (v := 5) k_lw_law_303 (by decide) ?_
          refine tr_iadd (pc := 304) k_lw_law_304 ?_
          refine tr_sald (pc := 305) k_lw_law_305 hv.1 ?_
          replace hv := hv.2
          have hT := hv
          clear hv
          refine tr_callV (pc := 306) (d' := d + 9) (mc' := 2) (ms' := 88) [vi (1 : Int32), vi (hI h 14 0 (x3 + (2 : Int32)).toNatClampNeg), vi (hI h 14 0 (x3 + (3 : Int32)).toNatClampNeg), vi (hI h 14 0 (x3 + (4 : Int32)).toNatClampNeg), vi (hI h 14 0 (x3 + (5 : Int32)).toNatClampNeg)] k_lw_law_306 ca_fn_joint ml_lw_23 ii_fn_joint ⟨by decide, rfl⟩ pa_fn_joint (by omega) (by omega) (by omega) rfl (Nat.le_of_ble_eq_true rfl) (Nat.le_of_ble_eq_true rfl) hT (fun v h9 hv => ?_)
          clear hT
          obtain ⟨y16, rfl, hv⟩ := hv
          obtain ⟨h15, eh⟩ : ∃ z, z = h9 := ⟨_, rfl⟩
          subst eh
          obtain ⟨hskh15, hv⟩ := hv
          rw [show mc + 2 - 2 = mc + 0 by omega, show ms + 100 - 88 = ms + 12 by omega]
          show mT g me_lw_law (d + 10) (mc + 0) (ms + 12) 309 [some (vr 14 0), some (vr 0 0), some (vr 10 0), some (vi x3)] [vi y16] h15 _
          refine tr_aload_n (pc := 309) 2 k_lw_law_309 rfl rfl ?_
          refine tr_aload_n (pc := 310) 0 k_lw_law_310 rfl rfl ?_
          refine tr_iload_n (pc := 311) 3 k_lw_law_311 rfl rfl ?_
          refine tr_iconst (pc := 312) (v := 1) k_lw_law_312 (by decide) ?_
          refine tr_iadd (pc := 313) k_lw_law_313 ?_
          refine tr_sald (pc := 314) k_lw_law_314 hv.1 ?_
          replace hv := hv.2
          refine tr_if_eq (pc := 315) 322 k_lw_law_315 (by decide) (fun q => ?_) (fun q => ?_)
          · replace hv := hv.1 q
            refine tr_iconst (pc := 322) (v := 0) k_lw_law_322 (by decide) ?_
            refine tr_aload_n (pc := 323) 0 k_lw_law_323 rfl rfl ?_
            refine tr_iload_n (pc := 324) 3 k_lw_law_324 rfl rfl ?_
            refine tr_iconst (pc := 325) (v := 2) k_lw_law_325 (by decide) ?_
            refine tr_iadd (pc := 326) k_lw_law_326 ?_
            refine tr_sald (pc := 327) k_lw_law_327 hv.1 ?_
            replace hv := hv.2
            refine tr_aload_n (pc := 328) 0 k_lw_law_328 rfl rfl ?_
            refine tr_iload_n (pc := 329) 3 k_lw_law_329 rfl rfl ?_
            refine tr_iconst (pc := 330) (v := 3) k_lw_law_330 (by decide) ?_
            refine tr_iadd (pc := 331) k_lw_law_331 ?_
            refine tr_sald (pc := 332) k_lw_law_332 hv.1 ?_
            replace hv := hv.2
            refine tr_aload_n (pc := 333) 0 k_lw_law_333 rfl rfl ?_
            refine tr_iload_n (pc := 334) 3 k_lw_law_334 rfl rfl ?_
            refine tr_iconst (pc := 335) (v := 4) k_lw_law_335 (by decide) ?_
            refine tr_iadd (pc := 336) k_lw_law_336 ?_
            refine tr_sald (pc := 337) k_lw_law_337 hv.1 ?_
            replace hv := hv.2
            refine tr_aload_n (pc := 338) 0 k_lw_law_338 rfl rfl ?_
            refine tr_iload_n (pc := 339) 3 k_lw_law_339 rfl rfl ?_
            refine tr_iconst (pc := 340) (v := 5) k_lw_law_340 (by decide) ?_
            refine tr_iadd (pc := 341) k_lw_law_341 ?_
            refine tr_sald (pc := 342) k_lw_law_342 hv.1 ?_
            replace hv := hv.2
            have hT := hv
            clear hv
            refine tr_callV (pc := 343) (d' := d + 9) (mc' := 0) (ms' := 0) [vi (0 : Int32), vi (hI h15 14 0 (x3 + (2 : Int32)).toNatClampNeg), vi (hI h15 14 0 (x3 + (3 : Int32)).toNatClampNeg), vi (hI h15 14 0 (x3 + (4 : Int32)).toNatClampNeg), vi (hI h15 14 0 (x3 + (5 : Int32)).toNatClampNeg)] k_lw_law_343 ca_fm_joint ml_lw_27 ii_fm_joint ⟨by decide, rfl⟩ pa_fm_joint (by omega) (by omega) (by omega) rfl (Nat.le_of_ble_eq_true rfl) (Nat.le_of_ble_eq_true rfl) hT (fun v h9 hv => ?_)
            clear hT
            obtain ⟨y18, rfl, hv⟩ := hv
            obtain ⟨h17, eh⟩ : ∃ z, z = h9 := ⟨_, rfl⟩
            subst eh
            obtain ⟨hskh17, hv⟩ := hv
            rw [show mc + 0 - 0 = mc + 0 by omega, show ms + 12 - 0 = ms + 12 by omega]
            show mT g me_lw_law (d + 10) (mc + 0) (ms + 12) 346 [some (vr 14 0), some (vr 0 0), some (vr 10 0), some (vi x3)] [vi y18, vi y16] h17 _
            refine tr_icmp_eq (pc := 346) 1094 k_lw_law_346 (by decide) (fun q => ?_) (fun q => ?_)
            · replace hv := hv.1 q
              refine tr_iinc (pc := 1094) (v := (x3 + 6)) k_lw_law_1094 rfl rfl (by decide) rfl ?_
              show mT g me_lw_law (d + 10) (mc + 0) (ms + 12) 1097 [some (vr 14 0), some (vr 0 0), some (vr 10 0), some (vi (x3 + 6))] [] h17 _
              refine tr_goto (pc := 1097) 18 k_lw_law_1097 (by decide) ?_
              exact mT.weaken hv (by omega) (by omega)
            · replace hv := hv.2 q
              refine tr_iconst (pc := 349) (v := 0) k_lw_law_349 (by decide) ?_
              refine tr_ireturn (pc := 350) k_lw_law_350 rfl rfl ?_
              exact hv
          · replace hv := hv.2 q
            refine tr_iconst (pc := 318) (v := 1) k_lw_law_318 (by decide) ?_
            refine tr_goto (pc := 319) 323 k_lw_law_319 (by decide) ?_
            refine tr_aload_n (pc := 323) 0 k_lw_law_323 rfl rfl ?_
            refine tr_iload_n (pc := 324) 3 k_lw_law_324 rfl rfl ?_
            refine tr_iconst (pc := 325) (v := 2) k_lw_law_325 (by decide) ?_
            refine tr_iadd (pc := 326) k_lw_law_326 ?_
            refine tr_sald (pc := 327) k_lw_law_327 hv.1 ?_
            replace hv := hv.2
            refine tr_aload_n (pc := 328) 0 k_lw_law_328 rfl rfl ?_
            refine tr_iload_n (pc := 329) 3 k_lw_law_329 rfl rfl ?_
            refine tr_iconst (pc := 330) (v := 3) k_lw_law_330 (by decide) ?_
            refine tr_iadd (pc := 331) k_lw_law_331 ?_
            refine tr_sald (pc := 332) k_lw_law_332 hv.1 ?_
            replace hv := hv.2
            refine tr_aload_n (pc := 333) 0 k_lw_law_333 rfl rfl ?_
            refine tr_iload_n (pc := 334) 3 k_lw_law_334 rfl rfl ?_
            refine tr_iconst (pc := 335) (v := 4) k_lw_law_335 (by decide) ?_
            refine tr_iadd (pc := 336) k_lw_law_336 ?_
            refine tr_sald (pc := 337) k_lw_law_337 hv.1 ?_
            replace hv := hv.2
            refine tr_aload_n (pc := 338) 0 k_lw_law_338 rfl rfl ?_
            refine tr_iload_n (pc := 339) 3 k_lw_law_339 rfl rfl ?_
            refine tr_iconst (pc := 340) (v := 5) k_lw_law_340 (by decide) ?_
            refine tr_iadd (pc := 341) k_lw_law_341 ?_
            refine tr_sald (pc := 342) k_lw_law_342 hv.1 ?_
            replace hv := hv.2
            have hT := hv
            clear hv
            refine tr_callV (pc := 343) (d' := d + 9) (mc' := 0) (ms' := 0) [vi (1 : Int32), vi (hI h15 14 0 (x3 + (2 : Int32)).toNatClampNeg), vi (hI h15 14 0 (x3 + (3 : Int32)).toNatClampNeg), vi (hI h15 14 0 (x3 + (4 : Int32)).toNatClampNeg), vi (hI h15 14 0 (x3 + (5 : Int32)).toNatClampNeg)] k_lw_law_343 ca_fm_joint ml_lw_27 ii_fm_joint ⟨by decide, rfl⟩ pa_fm_joint (by omega) (by omega) (by omega) rfl (Nat.le_of_ble_eq_true rfl) (Nat.le_of_ble_eq_true rfl) hT (fun v h9 hv => ?_)
            clear hT
            obtain ⟨y20, rfl, hv⟩ := hv
            obtain ⟨h19, eh⟩ : ∃ z, z = h9 := ⟨_, rfl⟩
            subst eh
            obtain ⟨hskh19, hv⟩ := hv
            rw [show mc + 0 - 0 = mc + 0 by omega, show ms + 12 - 0 = ms + 12 by omega]
            show mT g me_lw_law (d + 10) (mc + 0) (ms + 12) 346 [some (vr 14 0), some (vr 0 0), some (vr 10 0), some (vi x3)] [vi y20, vi y16] h19 _
            refine tr_icmp_eq (pc := 346) 1094 k_lw_law_346 (by decide) (fun q => ?_) (fun q => ?_)
            · replace hv := hv.1 q
              refine tr_iinc (pc := 1094) (v := (x3 + 6)) k_lw_law_1094 rfl rfl (by decide) rfl ?_
              show mT g me_lw_law (d + 10) (mc + 0) (ms + 12) 1097 [some (vr 14 0), some (vr 0 0), some (vr 10 0), some (vi (x3 + 6))] [] h19 _
              refine tr_goto (pc := 1097) 18 k_lw_law_1097 (by decide) ?_
              exact mT.weaken hv (by omega) (by omega)
            · replace hv := hv.2 q
              refine tr_iconst (pc := 349) (v := 0) k_lw_law_349 (by decide) ?_
              refine tr_ireturn (pc := 350) k_lw_law_350 rfl rfl ?_
              exact hv
      · cases hi
        replace hv := hv.2.2.2.1 (mtoI (hx.trans (by decide)))
        refine tr_aload_n (pc := 351) 1 k_lw_law_351 rfl rfl ?_
        refine tr_aload_n (pc := 352) 0 k_lw_law_352 rfl rfl ?_
        refine tr_iload_n (pc := 353) 3 k_lw_law_353 rfl rfl ?_
        refine tr_iconst (pc := 354) (v := 1) k_lw_law_354 (by decide) ?_
        refine tr_iadd (pc := 355) k_lw_law_355 ?_
        refine tr_sald (pc := 356) k_lw_law_356 hv.1 ?_
        replace hv := hv.2
        refine tr_aload_n (pc := 357) 0 k_lw_law_357 rfl rfl ?_
        refine tr_iload_n (pc := 358) 3 k_lw_law_358 rfl rfl ?_
        refine tr_iconst (pc := 359) (v := 2) k_lw_law_359 (by decide) ?_
        refine tr_iadd (pc := 360) k_lw_law_360 ?_
        refine tr_sald (pc := 361) k_lw_law_361 hv.1 ?_
        replace hv := hv.2
        have hT := hv
        clear hv
        refine tr_callV (pc := 362) (d' := d + 9) (mc' := 2) (ms' := 79) [vi (hI h 14 0 (x3 + (1 : Int32)).toNatClampNeg), vi (hI h 14 0 (x3 + (2 : Int32)).toNatClampNeg)] k_lw_law_362 ca_fn_jet ml_lw_28 ii_fn_jet ⟨by decide, rfl⟩ pa_fn_jet (by omega) (by omega) (by omega) rfl (Nat.le_of_ble_eq_true rfl) (Nat.le_of_ble_eq_true rfl) hT (fun v h9 hv => ?_)
        clear hT
        obtain ⟨y22, rfl, hv⟩ := hv
        obtain ⟨h21, eh⟩ : ∃ z, z = h9 := ⟨_, rfl⟩
        subst eh
        obtain ⟨hskh21, hv⟩ := hv
        rw [show mc + 2 - 2 = mc + 0 by omega, show ms + 100 - 79 = ms + 21 by omega]
        show mT g me_lw_law (d + 10) (mc + 0) (ms + 21) 365 [some (vr 14 0), some (vr 0 0), some (vr 10 0), some (vi x3)] [vi y22] h21 _
        refine tr_aload_n (pc := 365) 2 k_lw_law_365 rfl rfl ?_
        refine tr_aload_n (pc := 366) 0 k_lw_law_366 rfl rfl ?_
        refine tr_iload_n (pc := 367) 3 k_lw_law_367 rfl rfl ?_
        refine tr_iconst (pc := 368) (v := 1) k_lw_law_368 (by decide) ?_
        refine tr_iadd (pc := 369) k_lw_law_369 ?_
        refine tr_sald (pc := 370) k_lw_law_370 hv.1 ?_
        replace hv := hv.2
        refine tr_aload_n (pc := 371) 0 k_lw_law_371 rfl rfl ?_
        refine tr_iload_n (pc := 372) 3 k_lw_law_372 rfl rfl ?_
        refine tr_iconst (pc := 373) (v := 2) k_lw_law_373 (by decide) ?_
        refine tr_iadd (pc := 374) k_lw_law_374 ?_
        refine tr_sald (pc := 375) k_lw_law_375 hv.1 ?_
        replace hv := hv.2
        have hT := hv
        clear hv
        refine tr_callV (pc := 376) (d' := d + 9) (mc' := 0) (ms' := 0) [vi (hI h21 14 0 (x3 + (1 : Int32)).toNatClampNeg), vi (hI h21 14 0 (x3 + (2 : Int32)).toNatClampNeg)] k_lw_law_376 ca_fm_jet ml_lw_32 ii_fm_jet ⟨by decide, rfl⟩ pa_fm_jet (by omega) (by omega) (by omega) rfl (Nat.le_of_ble_eq_true rfl) (Nat.le_of_ble_eq_true rfl) hT (fun v h9 hv => ?_)
        clear hT
        obtain ⟨y24, rfl, hv⟩ := hv
        obtain ⟨h23, eh⟩ : ∃ z, z = h9 := ⟨_, rfl⟩
        subst eh
        obtain ⟨hskh23, hv⟩ := hv
        rw [show mc + 0 - 0 = mc + 0 by omega, show ms + 21 - 0 = ms + 21 by omega]
        show mT g me_lw_law (d + 10) (mc + 0) (ms + 21) 379 [some (vr 14 0), some (vr 0 0), some (vr 10 0), some (vi x3)] [vi y24, vi y22] h23 _
        refine tr_icmp_eq (pc := 379) 1094 k_lw_law_379 (by decide) (fun q => ?_) (fun q => ?_)
        · replace hv := hv.1 q
          refine tr_iinc (pc := 1094) (v := (x3 + 6)) k_lw_law_1094 rfl rfl (by decide) rfl ?_
          show mT g me_lw_law (d + 10) (mc + 0) (ms + 21) 1097 [some (vr 14 0), some (vr 0 0), some (vr 10 0), some (vi (x3 + 6))] [] h23 _
          refine tr_goto (pc := 1097) 18 k_lw_law_1097 (by decide) ?_
          exact mT.weaken hv (by omega) (by omega)
        · replace hv := hv.2 q
          refine tr_iconst (pc := 382) (v := 0) k_lw_law_382 (by decide) ?_
          refine tr_ireturn (pc := 383) k_lw_law_383 rfl rfl ?_
          exact hv
      · cases hi
        replace hv := hv.2.2.2.2.1 (mtoI (hx.trans (by decide)))
        refine tr_aload_n (pc := 384) 1 k_lw_law_384 rfl rfl ?_
        refine tr_aload_n (pc := 385) 0 k_lw_law_385 rfl rfl ?_
        refine tr_iload_n (pc := 386) 3 k_lw_law_386 rfl rfl ?_
        refine tr_iconst (pc := 387) (v := 1) k_lw_law_387 (by decide) ?_
        refine tr_iadd (pc := 388) k_lw_law_388 ?_
        refine tr_sald (pc := 389) k_lw_law_389 hv.1 ?_
        replace hv := hv.2
        refine tr_aload_n (pc := 390) 0 k_lw_law_390 rfl rfl ?_
        refine tr_iload_n (pc := 391) 3 k_lw_law_391 rfl rfl ?_
        refine tr_iconst (pc := 392) (v := 2) k_lw_law_392 (by decide) ?_
        refine tr_iadd (pc := 393) k_lw_law_393 ?_
        refine tr_sald (pc := 394) k_lw_law_394 hv.1 ?_
        replace hv := hv.2
        refine tr_if_eq (pc := 395) 402 k_lw_law_395 (by decide) (fun q => ?_) (fun q => ?_)
        · replace hv := hv.1 q
          refine tr_iconst (pc := 402) (v := 0) k_lw_law_402 (by decide) ?_
          have hT := hv
          clear hv
          refine tr_callV (pc := 403) (d' := d + 9) (mc' := 0) (ms' := 0) [vi (hI h 14 0 (x3 + (1 : Int32)).toNatClampNeg), vi (0 : Int32)] k_lw_law_403 ca_fn_play ml_lw_33 ii_fn_play ⟨by decide, rfl⟩ pa_fn_play (by omega) (by omega) (by omega) rfl (Nat.le_of_ble_eq_true rfl) (Nat.le_of_ble_eq_true rfl) hT (fun v h9 hv => ?_)
          clear hT
          obtain ⟨y26, rfl, hv⟩ := hv
          obtain ⟨h25, eh⟩ : ∃ z, z = h9 := ⟨_, rfl⟩
          subst eh
          obtain ⟨hskh25, hv⟩ := hv
          rw [show mc + 2 - 0 = mc + 2 by omega, show ms + 100 - 0 = ms + 100 by omega]
          show mT g me_lw_law (d + 10) (mc + 2) (ms + 100) 406 [some (vr 14 0), some (vr 0 0), some (vr 10 0), some (vi x3)] [vi y26] h25 _
          refine tr_aload_n (pc := 406) 2 k_lw_law_406 rfl rfl ?_
          refine tr_aload_n (pc := 407) 0 k_lw_law_407 rfl rfl ?_
          refine tr_iload_n (pc := 408) 3 k_lw_law_408 rfl rfl ?_
          refine tr_iconst (pc := 409) (v := 1) k_lw_law_409 (by decide) ?_
          refine tr_iadd (pc := 410) k_lw_law_410 ?_
          refine tr_sald (pc := 411) k_lw_law_411 hv.1 ?_
          replace hv := hv.2
          refine tr_aload_n (pc := 412) 0 k_lw_law_412 rfl rfl ?_
          refine tr_iload_n (pc := 413) 3 k_lw_law_413 rfl rfl ?_
          refine tr_iconst (pc := 414) (v := 2) k_lw_law_414 (by decide) ?_
          refine tr_iadd (pc := 415) k_lw_law_415 ?_
          refine tr_sald (pc := 416) k_lw_law_416 hv.1 ?_
          replace hv := hv.2
          refine tr_if_eq (pc := 417) 424 k_lw_law_417 (by decide) (fun q => ?_) (fun q => ?_)
          · replace hv := hv.1 q
            refine tr_iconst (pc := 424) (v := 0) k_lw_law_424 (by decide) ?_
            have hT := hv
            clear hv
            refine tr_callV (pc := 425) (d' := d + 9) (mc' := 0) (ms' := 0) [vi (hI h25 14 0 (x3 + (1 : Int32)).toNatClampNeg), vi (0 : Int32)] k_lw_law_425 ca_fm_play ml_lw_37 ii_fm_play ⟨by decide, rfl⟩ pa_fm_play (by omega) (by omega) (by omega) rfl (Nat.le_of_ble_eq_true rfl) (Nat.le_of_ble_eq_true rfl) hT (fun v h9 hv => ?_)
            clear hT
            obtain ⟨y28, rfl, hv⟩ := hv
            obtain ⟨h27, eh⟩ : ∃ z, z = h9 := ⟨_, rfl⟩
            subst eh
            obtain ⟨hskh27, hv⟩ := hv
            rw [show mc + 2 - 0 = mc + 2 by omega, show ms + 100 - 0 = ms + 100 by omega]
            show mT g me_lw_law (d + 10) (mc + 2) (ms + 100) 428 [some (vr 14 0), some (vr 0 0), some (vr 10 0), some (vi x3)] [vi y28, vi y26] h27 _
            refine tr_icmp_eq (pc := 428) 1094 k_lw_law_428 (by decide) (fun q => ?_) (fun q => ?_)
            · replace hv := hv.1 q
              refine tr_iinc (pc := 1094) (v := (x3 + 6)) k_lw_law_1094 rfl rfl (by decide) rfl ?_
              show mT g me_lw_law (d + 10) (mc + 2) (ms + 100) 1097 [some (vr 14 0), some (vr 0 0), some (vr 10 0), some (vi (x3 + 6))] [] h27 _
              refine tr_goto (pc := 1097) 18 k_lw_law_1097 (by decide) ?_
              exact mT.weaken hv (by omega) (by omega)
            · replace hv := hv.2 q
              refine tr_iconst (pc := 431) (v := 0) k_lw_law_431 (by decide) ?_
              refine tr_ireturn (pc := 432) k_lw_law_432 rfl rfl ?_
              exact hv
          · replace hv := hv.2 q
            refine tr_iconst (pc := 420) (v := 1) k_lw_law_420 (by decide) ?_
            refine tr_goto (pc := 421) 425 k_lw_law_421 (by decide) ?_
            have hT := hv
            clear hv
            refine tr_callV (pc := 425) (d' := d + 9) (mc' := 0) (ms' := 0) [vi (hI h25 14 0 (x3 + (1 : Int32)).toNatClampNeg), vi (1 : Int32)] k_lw_law_425 ca_fm_play ml_lw_37 ii_fm_play ⟨by decide, rfl⟩ pa_fm_play (by omega) (by omega) (by omega) rfl (Nat.le_of_ble_eq_true rfl) (Nat.le_of_ble_eq_true rfl) hT (fun v h9 hv => ?_)
            clear hT
            obtain ⟨y30, rfl, hv⟩ := hv
            obtain ⟨h29, eh⟩ : ∃ z, z = h9 := ⟨_, rfl⟩
            subst eh
            obtain ⟨hskh29, hv⟩ := hv
            rw [show mc + 2 - 0 = mc + 2 by omega, show ms + 100 - 0 = ms + 100 by omega]
            show mT g me_lw_law (d + 10) (mc + 2) (ms + 100) 428 [some (vr 14 0), some (vr 0 0), some (vr 10 0), some (vi x3)] [vi y30, vi y26] h29 _
            refine tr_icmp_eq (pc := 428) 1094 k_lw_law_428 (by decide) (fun q => ?_) (fun q => ?_)
            · replace hv := hv.1 q
              refine tr_iinc (pc := 1094) (v := (x3 + 6)) k_lw_law_1094 rfl rfl (by decide) rfl ?_
              show mT g me_lw_law (d + 10) (mc + 2) (ms + 100) 1097 [some (vr 14 0), some (vr 0 0), some (vr 10 0), some (vi (x3 + 6))] [] h29 _
              refine tr_goto (pc := 1097) 18 k_lw_law_1097 (by decide) ?_
              exact mT.weaken hv (by omega) (by omega)
            · replace hv := hv.2 q
              refine tr_iconst (pc := 431) (v := 0) k_lw_law_431 (by decide) ?_
              refine tr_ireturn (pc := 432) k_lw_law_432 rfl rfl ?_
              exact hv
        · replace hv := hv.2 q
          refine tr_iconst (pc := 398) (v := 1) k_lw_law_398 (by decide) ?_
          refine tr_goto (pc := 399) 403 k_lw_law_399 (by decide) ?_
          have hT := hv
          clear hv
          refine tr_callV (pc := 403) (d' := d + 9) (mc' := 0) (ms' := 0) [vi (hI h 14 0 (x3 + (1 : Int32)).toNatClampNeg), vi (1 : Int32)] k_lw_law_403 ca_fn_play ml_lw_33 ii_fn_play ⟨by decide, rfl⟩ pa_fn_play (by omega) (by omega) (by omega) rfl (Nat.le_of_ble_eq_true rfl) (Nat.le_of_ble_eq_true rfl) hT (fun v h9 hv => ?_)
          clear hT
          obtain ⟨y32, rfl, hv⟩ := hv
          obtain ⟨h31, eh⟩ : ∃ z, z = h9 := ⟨_, rfl⟩
          subst eh
          obtain ⟨hskh31, hv⟩ := hv
          rw [show mc + 2 - 0 = mc + 2 by omega, show ms + 100 - 0 = ms + 100 by omega]
          show mT g me_lw_law (d + 10) (mc + 2) (ms + 100) 406 [some (vr 14 0), some (vr 0 0), some (vr 10 0), some (vi x3)] [vi y32] h31 _
          refine tr_aload_n (pc := 406) 2 k_lw_law_406 rfl rfl ?_
          refine tr_aload_n (pc := 407) 0 k_lw_law_407 rfl rfl ?_
          refine tr_iload_n (pc := 408) 3 k_lw_law_408 rfl rfl ?_
          refine tr_iconst (pc := 409) (v := 1) k_lw_law_409 (by decide) ?_
          refine tr_iadd (pc := 410) k_lw_law_410 ?_
          refine tr_sald (pc := 411) k_lw_law_411 hv.1 ?_
          replace hv := hv.2
          refine tr_aload_n (pc := 412) 0 k_lw_law_412 rfl rfl ?_
          refine tr_iload_n (pc := 413) 3 k_lw_law_413 rfl rfl ?_
          refine tr_iconst (pc := 414) (v := 2) k_lw_law_414 (by decide) ?_
          refine tr_iadd (pc := 415) k_lw_law_415 ?_
          refine tr_sald (pc := 416) k_lw_law_416 hv.1 ?_
          replace hv := hv.2
          refine tr_if_eq (pc := 417) 424 k_lw_law_417 (by decide) (fun q => ?_) (fun q => ?_)
          · replace hv := hv.1 q
            refine tr_iconst (pc := 424) (v := 0) k_lw_law_424 (by decide) ?_
            have hT := hv
            clear hv
            refine tr_callV (pc := 425) (d' := d + 9) (mc' := 0) (ms' := 0) [vi (hI h31 14 0 (x3 + (1 : Int32)).toNatClampNeg), vi (0 : Int32)] k_lw_law_425 ca_fm_play ml_lw_37 ii_fm_play ⟨by decide, rfl⟩ pa_fm_play (by omega) (by omega) (by omega) rfl (Nat.le_of_ble_eq_true rfl) (Nat.le_of_ble_eq_true rfl) hT (fun v h9 hv => ?_)
            clear hT
            obtain ⟨y34, rfl, hv⟩ := hv
            obtain ⟨h33, eh⟩ : ∃ z, z = h9 := ⟨_, rfl⟩
            subst eh
            obtain ⟨hskh33, hv⟩ := hv
            rw [show mc + 2 - 0 = mc + 2 by omega, show ms + 100 - 0 = ms + 100 by omega]
            show mT g me_lw_law (d + 10) (mc + 2) (ms + 100) 428 [some (vr 14 0), some (vr 0 0), some (vr 10 0), some (vi x3)] [vi y34, vi y32] h33 _
            refine tr_icmp_eq (pc := 428) 1094 k_lw_law_428 (by decide) (fun q => ?_) (fun q => ?_)
            · replace hv := hv.1 q
              refine tr_iinc (pc := 1094) (v := (x3 + 6)) k_lw_law_1094 rfl rfl (by decide) rfl ?_
              show mT g me_lw_law (d + 10) (mc + 2) (ms + 100) 1097 [some (vr 14 0), some (vr 0 0), some (vr 10 0), some (vi (x3 + 6))] [] h33 _
              refine tr_goto (pc := 1097) 18 k_lw_law_1097 (by decide) ?_
              exact mT.weaken hv (by omega) (by omega)
            · replace hv := hv.2 q
              refine tr_iconst (pc := 431) (v := 0) k_lw_law_431 (by decide) ?_
              refine tr_ireturn (pc := 432) k_lw_law_432 rfl rfl ?_
              exact hv
          · replace hv := hv.2 q
            refine tr_iconst (pc := 420) (v := 1) k_lw_law_420 (by decide) ?_
            refine tr_goto (pc := 421) 425 k_lw_law_421 (by decide) ?_
            have hT := hv
            clear hv
            refine tr_callV (pc := 425) (d' := d + 9) (mc' := 0) (ms' := 0) [vi (hI h31 14 0 (x3 + (1 : Int32)).toNatClampNeg), vi (1 : Int32)] k_lw_law_425 ca_fm_play ml_lw_37 ii_fm_play ⟨by decide, rfl⟩ pa_fm_play (by omega) (by omega) (by omega) rfl (Nat.le_of_ble_eq_true rfl) (Nat.le_of_ble_eq_true rfl) hT (fun v h9 hv => ?_)
            clear hT
            obtain ⟨y36, rfl, hv⟩ := hv
            obtain ⟨h35, eh⟩ : ∃ z, z = h9 := ⟨_, rfl⟩
            subst eh
            obtain ⟨hskh35, hv⟩ := hv
            rw [show mc + 2 - 0 = mc + 2 by omega, show ms + 100 - 0 = ms + 100 by omega]
            show mT g me_lw_law (d + 10) (mc + 2) (ms + 100) 428 [some (vr 14 0), some (vr 0 0), some (vr 10 0), some (vi x3)] [vi y36, vi y32] h35 _
            refine tr_icmp_eq (pc := 428) 1094 k_lw_law_428 (by decide) (fun q => ?_) (fun q => ?_)
            · replace hv := hv.1 q
              refine tr_iinc (pc := 1094) (v := (x3 + 6)) k_lw_law_1094 rfl rfl (by decide) rfl ?_
              show mT g me_lw_law (d + 10) (mc + 2) (ms + 100) 1097 [some (vr 14 0), some (vr 0 0), some (vr 10 0), some (vi (x3 + 6))] [] h35 _
              refine tr_goto (pc := 1097) 18 k_lw_law_1097 (by decide) ?_
              exact mT.weaken hv (by omega) (by omega)
            · replace hv := hv.2 q
              refine tr_iconst (pc := 431) (v := 0) k_lw_law_431 (by decide) ?_
              refine tr_ireturn (pc := 432) k_lw_law_432 rfl rfl ?_
              exact hv
      · cases hi
        replace hv := hv.2.2.2.2.2.1 (mtoI (hx.trans (by decide)))
        refine tr_aload_n (pc := 433) 1 k_lw_law_433 rfl rfl ?_
        refine tr_aload_n (pc := 434) 0 k_lw_law_434 rfl rfl ?_
        refine tr_iload_n (pc := 435) 3 k_lw_law_435 rfl rfl ?_
        refine tr_iconst (pc := 436) (v := 1) k_lw_law_436 (by decide) ?_
        refine tr_iadd (pc := 437) k_lw_law_437 ?_
        refine tr_sald (pc := 438) k_lw_law_438 hv.1 ?_
        replace hv := hv.2
        refine tr_aload_n (pc := 439) 0 k_lw_law_439 rfl rfl ?_
        refine tr_iload_n (pc := 440) 3 k_lw_law_440 rfl rfl ?_
        refine tr_iconst (pc := 441) (v := 2) k_lw_law_441 (by decide) ?_
        refine tr_iadd (pc := 442) k_lw_law_442 ?_
        refine tr_sald (pc := 443) k_lw_law_443 hv.1 ?_
        replace hv := hv.2
        have hT := hv
        clear hv
        refine tr_callV (pc := 444) (d' := d + 9) (mc' := 0) (ms' := 0) [vi (hI h 14 0 (x3 + (1 : Int32)).toNatClampNeg), vi (hI h 14 0 (x3 + (2 : Int32)).toNatClampNeg)] k_lw_law_444 ca_fn_pipe ml_lw_38 ii_fn_pipe ⟨by decide, rfl⟩ pa_fn_pipe (by omega) (by omega) (by omega) rfl (Nat.le_of_ble_eq_true rfl) (Nat.le_of_ble_eq_true rfl) hT (fun v h9 hv => ?_)
        clear hT
        obtain ⟨y38, rfl, hv⟩ := hv
        obtain ⟨h37, eh⟩ : ∃ z, z = h9 := ⟨_, rfl⟩
        subst eh
        obtain ⟨hskh37, hv⟩ := hv
        rw [show mc + 2 - 0 = mc + 2 by omega, show ms + 100 - 0 = ms + 100 by omega]
        show mT g me_lw_law (d + 10) (mc + 2) (ms + 100) 447 [some (vr 14 0), some (vr 0 0), some (vr 10 0), some (vi x3)] [vi y38] h37 _
        refine tr_aload_n (pc := 447) 2 k_lw_law_447 rfl rfl ?_
        refine tr_aload_n (pc := 448) 0 k_lw_law_448 rfl rfl ?_
        refine tr_iload_n (pc := 449) 3 k_lw_law_449 rfl rfl ?_
        refine tr_iconst (pc := 450) (v := 1) k_lw_law_450 (by decide) ?_
        refine tr_iadd (pc := 451) k_lw_law_451 ?_
        refine tr_sald (pc := 452) k_lw_law_452 hv.1 ?_
        replace hv := hv.2
        refine tr_aload_n (pc := 453) 0 k_lw_law_453 rfl rfl ?_
        refine tr_iload_n (pc := 454) 3 k_lw_law_454 rfl rfl ?_
        refine tr_iconst (pc := 455) (v := 2) k_lw_law_455 (by decide) ?_
        refine tr_iadd (pc := 456) k_lw_law_456 ?_
        refine tr_sald (pc := 457) k_lw_law_457 hv.1 ?_
        replace hv := hv.2
        have hT := hv
        clear hv
        refine tr_callV (pc := 458) (d' := d + 9) (mc' := 0) (ms' := 0) [vi (hI h37 14 0 (x3 + (1 : Int32)).toNatClampNeg), vi (hI h37 14 0 (x3 + (2 : Int32)).toNatClampNeg)] k_lw_law_458 ca_fm_pipe ml_lw_41 ii_fm_pipe ⟨by decide, rfl⟩ pa_fm_pipe (by omega) (by omega) (by omega) rfl (Nat.le_of_ble_eq_true rfl) (Nat.le_of_ble_eq_true rfl) hT (fun v h9 hv => ?_)
        clear hT
        obtain ⟨y40, rfl, hv⟩ := hv
        obtain ⟨h39, eh⟩ : ∃ z, z = h9 := ⟨_, rfl⟩
        subst eh
        obtain ⟨hskh39, hv⟩ := hv
        rw [show mc + 2 - 0 = mc + 2 by omega, show ms + 100 - 0 = ms + 100 by omega]
        show mT g me_lw_law (d + 10) (mc + 2) (ms + 100) 461 [some (vr 14 0), some (vr 0 0), some (vr 10 0), some (vi x3)] [vi y40, vi y38] h39 _
        refine tr_icmp_eq (pc := 461) 1094 k_lw_law_461 (by decide) (fun q => ?_) (fun q => ?_)
        · replace hv := hv.1 q
          refine tr_iinc (pc := 1094) (v := (x3 + 6)) k_lw_law_1094 rfl rfl (by decide) rfl ?_
          show mT g me_lw_law (d + 10) (mc + 2) (ms + 100) 1097 [some (vr 14 0), some (vr 0 0), some (vr 10 0), some (vi (x3 + 6))] [] h39 _
          refine tr_goto (pc := 1097) 18 k_lw_law_1097 (by decide) ?_
          exact mT.weaken hv (by omega) (by omega)
        · replace hv := hv.2 q
          refine tr_iconst (pc := 464) (v := 0) k_lw_law_464 (by decide) ?_
          refine tr_ireturn (pc := 465) k_lw_law_465 rfl rfl ?_
          exact hv
      · cases hi
        replace hv := hv.2.2.2.2.2.2.1 (mtoI (hx.trans (by decide)))
        refine tr_aload_n (pc := 466) 1 k_lw_law_466 rfl rfl ?_
        refine tr_aload_n (pc := 467) 0 k_lw_law_467 rfl rfl ?_
        refine tr_iload_n (pc := 468) 3 k_lw_law_468 rfl rfl ?_
        refine tr_iconst (pc := 469) (v := 1) k_lw_law_469 (by decide) ?_
        refine tr_iadd (pc := 470) k_lw_law_470 ?_
        refine tr_sald (pc := 471) k_lw_law_471 hv.1 ?_
        replace hv := hv.2
        refine tr_aload_n (pc := 472) 0 k_lw_law_472 rfl rfl ?_
        refine tr_iload_n (pc := 473) 3 k_lw_law_473 rfl rfl ?_
        refine tr_iconst (pc := 474) (v := 2) k_lw_law_474 (by decide) ?_
        refine tr_iadd (pc := 475) k_lw_law_475 ?_
        refine tr_sald (pc := 476) k_lw_law_476 hv.1 ?_
        replace hv := hv.2
        have hT := hv
        clear hv
        refine tr_callV (pc := 477) (d' := d + 9) (mc' := 0) (ms' := 0) [vi (hI h 14 0 (x3 + (1 : Int32)).toNatClampNeg), vi (hI h 14 0 (x3 + (2 : Int32)).toNatClampNeg)] k_lw_law_477 ca_fn_leak ml_lw_42 ii_fn_leak ⟨by decide, rfl⟩ pa_fn_leak (by omega) (by omega) (by omega) rfl (Nat.le_of_ble_eq_true rfl) (Nat.le_of_ble_eq_true rfl) hT (fun v h9 hv => ?_)
        clear hT
        obtain ⟨y42, rfl, hv⟩ := hv
        obtain ⟨h41, eh⟩ : ∃ z, z = h9 := ⟨_, rfl⟩
        subst eh
        obtain ⟨hskh41, hv⟩ := hv
        rw [show mc + 2 - 0 = mc + 2 by omega, show ms + 100 - 0 = ms + 100 by omega]
        show mT g me_lw_law (d + 10) (mc + 2) (ms + 100) 480 [some (vr 14 0), some (vr 0 0), some (vr 10 0), some (vi x3)] [vi y42] h41 _
        refine tr_aload_n (pc := 480) 2 k_lw_law_480 rfl rfl ?_
        refine tr_aload_n (pc := 481) 0 k_lw_law_481 rfl rfl ?_
        refine tr_iload_n (pc := 482) 3 k_lw_law_482 rfl rfl ?_
        refine tr_iconst (pc := 483) (v := 1) k_lw_law_483 (by decide) ?_
        refine tr_iadd (pc := 484) k_lw_law_484 ?_
        refine tr_sald (pc := 485) k_lw_law_485 hv.1 ?_
        replace hv := hv.2
        refine tr_aload_n (pc := 486) 0 k_lw_law_486 rfl rfl ?_
        refine tr_iload_n (pc := 487) 3 k_lw_law_487 rfl rfl ?_
        refine tr_iconst (pc := 488) (v := 2) k_lw_law_488 (by decide) ?_
        refine tr_iadd (pc := 489) k_lw_law_489 ?_
        refine tr_sald (pc := 490) k_lw_law_490 hv.1 ?_
        replace hv := hv.2
        have hT := hv
        clear hv
        refine tr_callV (pc := 491) (d' := d + 9) (mc' := 0) (ms' := 0) [vi (hI h41 14 0 (x3 + (1 : Int32)).toNatClampNeg), vi (hI h41 14 0 (x3 + (2 : Int32)).toNatClampNeg)] k_lw_law_491 ca_fm_leak ml_lw_45 ii_fm_leak ⟨by decide, rfl⟩ pa_fm_leak (by omega) (by omega) (by omega) rfl (Nat.le_of_ble_eq_true rfl) (Nat.le_of_ble_eq_true rfl) hT (fun v h9 hv => ?_)
        clear hT
        obtain ⟨y44, rfl, hv⟩ := hv
        obtain ⟨h43, eh⟩ : ∃ z, z = h9 := ⟨_, rfl⟩
        subst eh
        obtain ⟨hskh43, hv⟩ := hv
        rw [show mc + 2 - 0 = mc + 2 by omega, show ms + 100 - 0 = ms + 100 by omega]
        show mT g me_lw_law (d + 10) (mc + 2) (ms + 100) 494 [some (vr 14 0), some (vr 0 0), some (vr 10 0), some (vi x3)] [vi y44, vi y42] h43 _
        refine tr_icmp_eq (pc := 494) 1094 k_lw_law_494 (by decide) (fun q => ?_) (fun q => ?_)
        · replace hv := hv.1 q
          refine tr_iinc (pc := 1094) (v := (x3 + 6)) k_lw_law_1094 rfl rfl (by decide) rfl ?_
          show mT g me_lw_law (d + 10) (mc + 2) (ms + 100) 1097 [some (vr 14 0), some (vr 0 0), some (vr 10 0), some (vi (x3 + 6))] [] h43 _
          refine tr_goto (pc := 1097) 18 k_lw_law_1097 (by decide) ?_
          exact mT.weaken hv (by omega) (by omega)
        · replace hv := hv.2 q
          refine tr_iconst (pc := 497) (v := 0) k_lw_law_497 (by decide) ?_
          refine tr_ireturn (pc := 498) k_lw_law_498 rfl rfl ?_
          exact hv
      · cases hi
        replace hv := hv.2.2.2.2.2.2.2.1 (mtoI (hx.trans (by decide)))
        refine tr_aload_n (pc := 499) 1 k_lw_law_499 rfl rfl ?_
        refine tr_aload_n (pc := 500) 0 k_lw_law_500 rfl rfl ?_
        refine tr_iload_n (pc := 501) 3 k_lw_law_501 rfl rfl ?_
        refine tr_iconst (pc := 502) (v := 1) k_lw_law_502 (by decide) ?_
        refine tr_iadd (pc := 503) k_lw_law_503 ?_
        refine tr_sald (pc := 504) k_lw_law_504 hv.1 ?_
        replace hv := hv.2
        have hT := hv
        clear hv
        refine tr_callV (pc := 505) (d' := d + 9) (mc' := 0) (ms' := 0) [vi (hI h 14 0 (x3 + (1 : Int32)).toNatClampNeg)] k_lw_law_505 ca_fn_flow ml_lw_46 ii_fn_flow ⟨by decide, rfl⟩ pa_fn_flow (by omega) (by omega) (by omega) rfl (Nat.le_of_ble_eq_true rfl) (Nat.le_of_ble_eq_true rfl) hT (fun v h9 hv => ?_)
        clear hT
        obtain ⟨y46, rfl, hv⟩ := hv
        obtain ⟨h45, eh⟩ : ∃ z, z = h9 := ⟨_, rfl⟩
        subst eh
        obtain ⟨hskh45, hv⟩ := hv
        rw [show mc + 2 - 0 = mc + 2 by omega, show ms + 100 - 0 = ms + 100 by omega]
        show mT g me_lw_law (d + 10) (mc + 2) (ms + 100) 508 [some (vr 14 0), some (vr 0 0), some (vr 10 0), some (vi x3)] [vi y46] h45 _
        refine tr_aload_n (pc := 508) 2 k_lw_law_508 rfl rfl ?_
        refine tr_aload_n (pc := 509) 0 k_lw_law_509 rfl rfl ?_
        refine tr_iload_n (pc := 510) 3 k_lw_law_510 rfl rfl ?_
        refine tr_iconst (pc := 511) (v := 1) k_lw_law_511 (by decide) ?_
        refine tr_iadd (pc := 512) k_lw_law_512 ?_
        refine tr_sald (pc := 513) k_lw_law_513 hv.1 ?_
        replace hv := hv.2
        have hT := hv
        clear hv
        refine tr_callV (pc := 514) (d' := d + 9) (mc' := 0) (ms' := 0) [vi (hI h45 14 0 (x3 + (1 : Int32)).toNatClampNeg)] k_lw_law_514 ca_fm_flow ml_lw_50 ii_fm_flow ⟨by decide, rfl⟩ pa_fm_flow (by omega) (by omega) (by omega) rfl (Nat.le_of_ble_eq_true rfl) (Nat.le_of_ble_eq_true rfl) hT (fun v h9 hv => ?_)
        clear hT
        obtain ⟨y48, rfl, hv⟩ := hv
        obtain ⟨h47, eh⟩ : ∃ z, z = h9 := ⟨_, rfl⟩
        subst eh
        obtain ⟨hskh47, hv⟩ := hv
        rw [show mc + 2 - 0 = mc + 2 by omega, show ms + 100 - 0 = ms + 100 by omega]
        show mT g me_lw_law (d + 10) (mc + 2) (ms + 100) 517 [some (vr 14 0), some (vr 0 0), some (vr 10 0), some (vi x3)] [vi y48, vi y46] h47 _
        refine tr_icmp_eq (pc := 517) 1094 k_lw_law_517 (by decide) (fun q => ?_) (fun q => ?_)
        · replace hv := hv.1 q
          refine tr_iinc (pc := 1094) (v := (x3 + 6)) k_lw_law_1094 rfl rfl (by decide) rfl ?_
          show mT g me_lw_law (d + 10) (mc + 2) (ms + 100) 1097 [some (vr 14 0), some (vr 0 0), some (vr 10 0), some (vi (x3 + 6))] [] h47 _
          refine tr_goto (pc := 1097) 18 k_lw_law_1097 (by decide) ?_
          exact mT.weaken hv (by omega) (by omega)
        · replace hv := hv.2 q
          refine tr_iconst (pc := 520) (v := 0) k_lw_law_520 (by decide) ?_
          refine tr_ireturn (pc := 521) k_lw_law_521 rfl rfl ?_
          exact hv
      · cases hi
        replace hv := hv.2.2.2.2.2.2.2.2.1 (mtoI (hx.trans (by decide)))
        refine tr_aload_n (pc := 522) 1 k_lw_law_522 rfl rfl ?_
        refine tr_aload_n (pc := 523) 0 k_lw_law_523 rfl rfl ?_
        refine tr_iload_n (pc := 524) 3 k_lw_law_524 rfl rfl ?_
        refine tr_iconst (pc := 525) (v := 1) k_lw_law_525 (by decide) ?_
        refine tr_iadd (pc := 526) k_lw_law_526 ?_
        refine tr_sald (pc := 527) k_lw_law_527 hv.1 ?_
        replace hv := hv.2
        have hT := hv
        clear hv
        refine tr_callV (pc := 528) (d' := d + 9) (mc' := 0) (ms' := 0) [vi (hI h 14 0 (x3 + (1 : Int32)).toNatClampNeg)] k_lw_law_528 ca_fn_head ml_lw_51 ii_fn_head ⟨by decide, rfl⟩ pa_fn_head (by omega) (by omega) (by omega) rfl (Nat.le_of_ble_eq_true rfl) (Nat.le_of_ble_eq_true rfl) hT (fun v h9 hv => ?_)
        clear hT
        obtain ⟨y50, rfl, hv⟩ := hv
        obtain ⟨h49, eh⟩ : ∃ z, z = h9 := ⟨_, rfl⟩
        subst eh
        obtain ⟨hskh49, hv⟩ := hv
        rw [show mc + 2 - 0 = mc + 2 by omega, show ms + 100 - 0 = ms + 100 by omega]
        show mT g me_lw_law (d + 10) (mc + 2) (ms + 100) 531 [some (vr 14 0), some (vr 0 0), some (vr 10 0), some (vi x3)] [vi y50] h49 _
        refine tr_aload_n (pc := 531) 2 k_lw_law_531 rfl rfl ?_
        refine tr_aload_n (pc := 532) 0 k_lw_law_532 rfl rfl ?_
        refine tr_iload_n (pc := 533) 3 k_lw_law_533 rfl rfl ?_
        refine tr_iconst (pc := 534) (v := 1) k_lw_law_534 (by decide) ?_
        refine tr_iadd (pc := 535) k_lw_law_535 ?_
        refine tr_sald (pc := 536) k_lw_law_536 hv.1 ?_
        replace hv := hv.2
        have hT := hv
        clear hv
        refine tr_callV (pc := 537) (d' := d + 9) (mc' := 0) (ms' := 0) [vi (hI h49 14 0 (x3 + (1 : Int32)).toNatClampNeg)] k_lw_law_537 ca_fm_head ml_lw_54 ii_fm_head ⟨by decide, rfl⟩ pa_fm_head (by omega) (by omega) (by omega) rfl (Nat.le_of_ble_eq_true rfl) (Nat.le_of_ble_eq_true rfl) hT (fun v h9 hv => ?_)
        clear hT
        obtain ⟨y52, rfl, hv⟩ := hv
        obtain ⟨h51, eh⟩ : ∃ z, z = h9 := ⟨_, rfl⟩
        subst eh
        obtain ⟨hskh51, hv⟩ := hv
        rw [show mc + 2 - 0 = mc + 2 by omega, show ms + 100 - 0 = ms + 100 by omega]
        show mT g me_lw_law (d + 10) (mc + 2) (ms + 100) 540 [some (vr 14 0), some (vr 0 0), some (vr 10 0), some (vi x3)] [vi y52, vi y50] h51 _
        refine tr_icmp_eq (pc := 540) 1094 k_lw_law_540 (by decide) (fun q => ?_) (fun q => ?_)
        · replace hv := hv.1 q
          refine tr_iinc (pc := 1094) (v := (x3 + 6)) k_lw_law_1094 rfl rfl (by decide) rfl ?_
          show mT g me_lw_law (d + 10) (mc + 2) (ms + 100) 1097 [some (vr 14 0), some (vr 0 0), some (vr 10 0), some (vi (x3 + 6))] [] h51 _
          refine tr_goto (pc := 1097) 18 k_lw_law_1097 (by decide) ?_
          exact mT.weaken hv (by omega) (by omega)
        · replace hv := hv.2 q
          refine tr_iconst (pc := 543) (v := 0) k_lw_law_543 (by decide) ?_
          refine tr_ireturn (pc := 544) k_lw_law_544 rfl rfl ?_
          exact hv
      · cases hi
        replace hv := hv.2.2.2.2.2.2.2.2.2.1 (mtoI (hx.trans (by decide)))
        refine tr_aload_n (pc := 545) 1 k_lw_law_545 rfl rfl ?_
        refine tr_aload_n (pc := 546) 0 k_lw_law_546 rfl rfl ?_
        refine tr_iload_n (pc := 547) 3 k_lw_law_547 rfl rfl ?_
        refine tr_iconst (pc := 548) (v := 1) k_lw_law_548 (by decide) ?_
        refine tr_iadd (pc := 549) k_lw_law_549 ?_
        refine tr_sald (pc := 550) k_lw_law_550 hv.1 ?_
        replace hv := hv.2
        have hT := hv
        clear hv
        refine tr_callV (pc := 551) (d' := d + 9) (mc' := 0) (ms' := 0) [vi (hI h 14 0 (x3 + (1 : Int32)).toNatClampNeg)] k_lw_law_551 ca_fn_rise ml_lw_55 ii_fn_rise ⟨by decide, rfl⟩ pa_fn_rise (by omega) (by omega) (by omega) rfl (Nat.le_of_ble_eq_true rfl) (Nat.le_of_ble_eq_true rfl) hT (fun v h9 hv => ?_)
        clear hT
        obtain ⟨y54, rfl, hv⟩ := hv
        obtain ⟨h53, eh⟩ : ∃ z, z = h9 := ⟨_, rfl⟩
        subst eh
        obtain ⟨hskh53, hv⟩ := hv
        rw [show mc + 2 - 0 = mc + 2 by omega, show ms + 100 - 0 = ms + 100 by omega]
        show mT g me_lw_law (d + 10) (mc + 2) (ms + 100) 554 [some (vr 14 0), some (vr 0 0), some (vr 10 0), some (vi x3)] [vi y54] h53 _
        refine tr_aload_n (pc := 554) 2 k_lw_law_554 rfl rfl ?_
        refine tr_aload_n (pc := 555) 0 k_lw_law_555 rfl rfl ?_
        refine tr_iload_n (pc := 556) 3 k_lw_law_556 rfl rfl ?_
        refine tr_iconst (pc := 557) (v := 1) k_lw_law_557 (by decide) ?_
        refine tr_iadd (pc := 558) k_lw_law_558 ?_
        refine tr_sald (pc := 559) k_lw_law_559 hv.1 ?_
        replace hv := hv.2
        have hT := hv
        clear hv
        refine tr_callV (pc := 560) (d' := d + 9) (mc' := 0) (ms' := 0) [vi (hI h53 14 0 (x3 + (1 : Int32)).toNatClampNeg)] k_lw_law_560 ca_fm_rise ml_lw_58 ii_fm_rise ⟨by decide, rfl⟩ pa_fm_rise (by omega) (by omega) (by omega) rfl (Nat.le_of_ble_eq_true rfl) (Nat.le_of_ble_eq_true rfl) hT (fun v h9 hv => ?_)
        clear hT
        obtain ⟨y56, rfl, hv⟩ := hv
        obtain ⟨h55, eh⟩ : ∃ z, z = h9 := ⟨_, rfl⟩
        subst eh
        obtain ⟨hskh55, hv⟩ := hv
        rw [show mc + 2 - 0 = mc + 2 by omega, show ms + 100 - 0 = ms + 100 by omega]
        show mT g me_lw_law (d + 10) (mc + 2) (ms + 100) 563 [some (vr 14 0), some (vr 0 0), some (vr 10 0), some (vi x3)] [vi y56, vi y54] h55 _
        refine tr_icmp_eq (pc := 563) 1094 k_lw_law_563 (by decide) (fun q => ?_) (fun q => ?_)
        · replace hv := hv.1 q
          refine tr_iinc (pc := 1094) (v := (x3 + 6)) k_lw_law_1094 rfl rfl (by decide) rfl ?_
          show mT g me_lw_law (d + 10) (mc + 2) (ms + 100) 1097 [some (vr 14 0), some (vr 0 0), some (vr 10 0), some (vi (x3 + 6))] [] h55 _
          refine tr_goto (pc := 1097) 18 k_lw_law_1097 (by decide) ?_
          exact mT.weaken hv (by omega) (by omega)
        · replace hv := hv.2 q
          refine tr_iconst (pc := 566) (v := 0) k_lw_law_566 (by decide) ?_
          refine tr_ireturn (pc := 567) k_lw_law_567 rfl rfl ?_
          exact hv
      · cases hi
        replace hv := hv.2.2.2.2.2.2.2.2.2.2.1 (mtoI (hx.trans (by decide)))
        refine tr_aload_n (pc := 568) 1 k_lw_law_568 rfl rfl ?_
        refine tr_aload_n (pc := 569) 0 k_lw_law_569 rfl rfl ?_
        refine tr_iload_n (pc := 570) 3 k_lw_law_570 rfl rfl ?_
        refine tr_iconst (pc := 571) (v := 1) k_lw_law_571 (by decide) ?_
        refine tr_iadd (pc := 572) k_lw_law_572 ?_
        refine tr_sald (pc := 573) k_lw_law_573 hv.1 ?_
        replace hv := hv.2
        refine tr_aload_n (pc := 574) 0 k_lw_law_574 rfl rfl ?_
        refine tr_iload_n (pc := 575) 3 k_lw_law_575 rfl rfl ?_
        refine tr_iconst (pc := 576) (v := 2) k_lw_law_576 (by decide) ?_
        refine tr_iadd (pc := 577) k_lw_law_577 ?_
        refine tr_sald (pc := 578) k_lw_law_578 hv.1 ?_
        replace hv := hv.2
        have hT := hv
        clear hv
        refine tr_callV (pc := 579) (d' := d + 9) (mc' := 0) (ms' := 0) [vi (hI h 14 0 (x3 + (1 : Int32)).toNatClampNeg), vi (hI h 14 0 (x3 + (2 : Int32)).toNatClampNeg)] k_lw_law_579 ca_fn_share ml_lw_59 ii_fn_share ⟨by decide, rfl⟩ pa_fn_share (by omega) (by omega) (by omega) rfl (Nat.le_of_ble_eq_true rfl) (Nat.le_of_ble_eq_true rfl) hT (fun v h9 hv => ?_)
        clear hT
        obtain ⟨y58, rfl, hv⟩ := hv
        obtain ⟨h57, eh⟩ : ∃ z, z = h9 := ⟨_, rfl⟩
        subst eh
        obtain ⟨hskh57, hv⟩ := hv
        rw [show mc + 2 - 0 = mc + 2 by omega, show ms + 100 - 0 = ms + 100 by omega]
        show mT g me_lw_law (d + 10) (mc + 2) (ms + 100) 582 [some (vr 14 0), some (vr 0 0), some (vr 10 0), some (vi x3)] [vi y58] h57 _
        refine tr_aload_n (pc := 582) 2 k_lw_law_582 rfl rfl ?_
        refine tr_aload_n (pc := 583) 0 k_lw_law_583 rfl rfl ?_
        refine tr_iload_n (pc := 584) 3 k_lw_law_584 rfl rfl ?_
        refine tr_iconst (pc := 585) (v := 1) k_lw_law_585 (by decide) ?_
        refine tr_iadd (pc := 586) k_lw_law_586 ?_
        refine tr_sald (pc := 587) k_lw_law_587 hv.1 ?_
        replace hv := hv.2
        refine tr_aload_n (pc := 588) 0 k_lw_law_588 rfl rfl ?_
        refine tr_iload_n (pc := 589) 3 k_lw_law_589 rfl rfl ?_
        refine tr_iconst (pc := 590) (v := 2) k_lw_law_590 (by decide) ?_
        refine tr_iadd (pc := 591) k_lw_law_591 ?_
        refine tr_sald (pc := 592) k_lw_law_592 hv.1 ?_
        replace hv := hv.2
        have hT := hv
        clear hv
        refine tr_callV (pc := 593) (d' := d + 9) (mc' := 0) (ms' := 0) [vi (hI h57 14 0 (x3 + (1 : Int32)).toNatClampNeg), vi (hI h57 14 0 (x3 + (2 : Int32)).toNatClampNeg)] k_lw_law_593 ca_fm_share ml_lw_62 ii_fm_share ⟨by decide, rfl⟩ pa_fm_share (by omega) (by omega) (by omega) rfl (Nat.le_of_ble_eq_true rfl) (Nat.le_of_ble_eq_true rfl) hT (fun v h9 hv => ?_)
        clear hT
        obtain ⟨y60, rfl, hv⟩ := hv
        obtain ⟨h59, eh⟩ : ∃ z, z = h9 := ⟨_, rfl⟩
        subst eh
        obtain ⟨hskh59, hv⟩ := hv
        rw [show mc + 2 - 0 = mc + 2 by omega, show ms + 100 - 0 = ms + 100 by omega]
        show mT g me_lw_law (d + 10) (mc + 2) (ms + 100) 596 [some (vr 14 0), some (vr 0 0), some (vr 10 0), some (vi x3)] [vi y60, vi y58] h59 _
        refine tr_icmp_eq (pc := 596) 1094 k_lw_law_596 (by decide) (fun q => ?_) (fun q => ?_)
        · replace hv := hv.1 q
          refine tr_iinc (pc := 1094) (v := (x3 + 6)) k_lw_law_1094 rfl rfl (by decide) rfl ?_
          show mT g me_lw_law (d + 10) (mc + 2) (ms + 100) 1097 [some (vr 14 0), some (vr 0 0), some (vr 10 0), some (vi (x3 + 6))] [] h59 _
          refine tr_goto (pc := 1097) 18 k_lw_law_1097 (by decide) ?_
          exact mT.weaken hv (by omega) (by omega)
        · replace hv := hv.2 q
          refine tr_iconst (pc := 599) (v := 0) k_lw_law_599 (by decide) ?_
          refine tr_ireturn (pc := 600) k_lw_law_600 rfl rfl ?_
          exact hv
      · cases hi
        replace hv := hv.2.2.2.2.2.2.2.2.2.2.2.1 (mtoI (hx.trans (by decide)))
        refine tr_aload_n (pc := 601) 1 k_lw_law_601 rfl rfl ?_
        refine tr_aload_n (pc := 602) 0 k_lw_law_602 rfl rfl ?_
        refine tr_iload_n (pc := 603) 3 k_lw_law_603 rfl rfl ?_
        refine tr_iconst (pc := 604) (v := 1) k_lw_law_604 (by decide) ?_
        refine tr_iadd (pc := 605) k_lw_law_605 ?_
        refine tr_sald (pc := 606) k_lw_law_606 hv.1 ?_
        replace hv := hv.2
        have hT := hv
        clear hv
        refine tr_callV (pc := 607) (d' := d + 9) (mc' := 0) (ms' := 0) [vi (hI h 14 0 (x3 + (1 : Int32)).toNatClampNeg)] k_lw_law_607 ca_fn_minutes ml_lw_63 ii_fn_minutes ⟨by decide, rfl⟩ pa_fn_minutes (by omega) (by omega) (by omega) rfl (Nat.le_of_ble_eq_true rfl) (Nat.le_of_ble_eq_true rfl) hT (fun v h9 hv => ?_)
        clear hT
        obtain ⟨y62, rfl, hv⟩ := hv
        obtain ⟨h61, eh⟩ : ∃ z, z = h9 := ⟨_, rfl⟩
        subst eh
        obtain ⟨hskh61, hv⟩ := hv
        rw [show mc + 2 - 0 = mc + 2 by omega, show ms + 100 - 0 = ms + 100 by omega]
        show mT g me_lw_law (d + 10) (mc + 2) (ms + 100) 610 [some (vr 14 0), some (vr 0 0), some (vr 10 0), some (vi x3)] [vi y62] h61 _
        refine tr_aload_n (pc := 610) 2 k_lw_law_610 rfl rfl ?_
        refine tr_aload_n (pc := 611) 0 k_lw_law_611 rfl rfl ?_
        refine tr_iload_n (pc := 612) 3 k_lw_law_612 rfl rfl ?_
        refine tr_iconst (pc := 613) (v := 1) k_lw_law_613 (by decide) ?_
        refine tr_iadd (pc := 614) k_lw_law_614 ?_
        refine tr_sald (pc := 615) k_lw_law_615 hv.1 ?_
        replace hv := hv.2
        have hT := hv
        clear hv
        refine tr_callV (pc := 616) (d' := d + 9) (mc' := 0) (ms' := 0) [vi (hI h61 14 0 (x3 + (1 : Int32)).toNatClampNeg)] k_lw_law_616 ca_fm_minutes ml_lw_66 ii_fm_minutes ⟨by decide, rfl⟩ pa_fm_minutes (by omega) (by omega) (by omega) rfl (Nat.le_of_ble_eq_true rfl) (Nat.le_of_ble_eq_true rfl) hT (fun v h9 hv => ?_)
        clear hT
        obtain ⟨y64, rfl, hv⟩ := hv
        obtain ⟨h63, eh⟩ : ∃ z, z = h9 := ⟨_, rfl⟩
        subst eh
        obtain ⟨hskh63, hv⟩ := hv
        rw [show mc + 2 - 0 = mc + 2 by omega, show ms + 100 - 0 = ms + 100 by omega]
        show mT g me_lw_law (d + 10) (mc + 2) (ms + 100) 619 [some (vr 14 0), some (vr 0 0), some (vr 10 0), some (vi x3)] [vi y64, vi y62] h63 _
        refine tr_icmp_eq (pc := 619) 1094 k_lw_law_619 (by decide) (fun q => ?_) (fun q => ?_)
        · replace hv := hv.1 q
          refine tr_iinc (pc := 1094) (v := (x3 + 6)) k_lw_law_1094 rfl rfl (by decide) rfl ?_
          show mT g me_lw_law (d + 10) (mc + 2) (ms + 100) 1097 [some (vr 14 0), some (vr 0 0), some (vr 10 0), some (vi (x3 + 6))] [] h63 _
          refine tr_goto (pc := 1097) 18 k_lw_law_1097 (by decide) ?_
          exact mT.weaken hv (by omega) (by omega)
        · replace hv := hv.2 q
          refine tr_iconst (pc := 622) (v := 0) k_lw_law_622 (by decide) ?_
          refine tr_ireturn (pc := 623) k_lw_law_623 rfl rfl ?_
          exact hv
      · cases hi
        replace hv := hv.2.2.2.2.2.2.2.2.2.2.2.2.1 (mtoI (hx.trans (by decide)))
        refine tr_aload_n (pc := 624) 1 k_lw_law_624 rfl rfl ?_
        refine tr_aload_n (pc := 625) 0 k_lw_law_625 rfl rfl ?_
        refine tr_iload_n (pc := 626) 3 k_lw_law_626 rfl rfl ?_
        refine tr_iconst (pc := 627) (v := 1) k_lw_law_627 (by decide) ?_
        refine tr_iadd (pc := 628) k_lw_law_628 ?_
        refine tr_sald (pc := 629) k_lw_law_629 hv.1 ?_
        replace hv := hv.2
        have hT := hv
        clear hv
        refine tr_callV (pc := 630) (d' := d + 9) (mc' := 0) (ms' := 0) [vi (hI h 14 0 (x3 + (1 : Int32)).toNatClampNeg)] k_lw_law_630 ca_fn_lasts ml_lw_67 ii_fn_lasts ⟨by decide, rfl⟩ pa_fn_lasts (by omega) (by omega) (by omega) rfl (Nat.le_of_ble_eq_true rfl) (Nat.le_of_ble_eq_true rfl) hT (fun v h9 hv => ?_)
        clear hT
        obtain ⟨y66, rfl, hv⟩ := hv
        obtain ⟨h65, eh⟩ : ∃ z, z = h9 := ⟨_, rfl⟩
        subst eh
        obtain ⟨hskh65, hv⟩ := hv
        rw [show mc + 2 - 0 = mc + 2 by omega, show ms + 100 - 0 = ms + 100 by omega]
        show mT g me_lw_law (d + 10) (mc + 2) (ms + 100) 633 [some (vr 14 0), some (vr 0 0), some (vr 10 0), some (vi x3)] [vi y66] h65 _
        refine tr_aload_n (pc := 633) 2 k_lw_law_633 rfl rfl ?_
        refine tr_aload_n (pc := 634) 0 k_lw_law_634 rfl rfl ?_
        refine tr_iload_n (pc := 635) 3 k_lw_law_635 rfl rfl ?_
        refine tr_iconst (pc := 636) (v := 1) k_lw_law_636 (by decide) ?_
        refine tr_iadd (pc := 637) k_lw_law_637 ?_
        refine tr_sald (pc := 638) k_lw_law_638 hv.1 ?_
        replace hv := hv.2
        have hT := hv
        clear hv
        refine tr_callV (pc := 639) (d' := d + 9) (mc' := 0) (ms' := 0) [vi (hI h65 14 0 (x3 + (1 : Int32)).toNatClampNeg)] k_lw_law_639 ca_fm_lasts ml_lw_70 ii_fm_lasts ⟨by decide, rfl⟩ pa_fm_lasts (by omega) (by omega) (by omega) rfl (Nat.le_of_ble_eq_true rfl) (Nat.le_of_ble_eq_true rfl) hT (fun v h9 hv => ?_)
        clear hT
        obtain ⟨y68, rfl, hv⟩ := hv
        obtain ⟨h67, eh⟩ : ∃ z, z = h9 := ⟨_, rfl⟩
        subst eh
        obtain ⟨hskh67, hv⟩ := hv
        rw [show mc + 2 - 0 = mc + 2 by omega, show ms + 100 - 0 = ms + 100 by omega]
        show mT g me_lw_law (d + 10) (mc + 2) (ms + 100) 642 [some (vr 14 0), some (vr 0 0), some (vr 10 0), some (vi x3)] [vi y68, vi y66] h67 _
        refine tr_icmp_eq (pc := 642) 1094 k_lw_law_642 (by decide) (fun q => ?_) (fun q => ?_)
        · replace hv := hv.1 q
          refine tr_iinc (pc := 1094) (v := (x3 + 6)) k_lw_law_1094 rfl rfl (by decide) rfl ?_
          show mT g me_lw_law (d + 10) (mc + 2) (ms + 100) 1097 [some (vr 14 0), some (vr 0 0), some (vr 10 0), some (vi (x3 + 6))] [] h67 _
          refine tr_goto (pc := 1097) 18 k_lw_law_1097 (by decide) ?_
          exact mT.weaken hv (by omega) (by omega)
        · replace hv := hv.2 q
          refine tr_iconst (pc := 645) (v := 0) k_lw_law_645 (by decide) ?_
          refine tr_ireturn (pc := 646) k_lw_law_646 rfl rfl ?_
          exact hv
      · cases hi
        replace hv := hv.2.2.2.2.2.2.2.2.2.2.2.2.2.1 (mtoI (hx.trans (by decide)))
        refine tr_aload_n (pc := 647) 1 k_lw_law_647 rfl rfl ?_
        refine tr_aload_n (pc := 648) 0 k_lw_law_648 rfl rfl ?_
        refine tr_iload_n (pc := 649) 3 k_lw_law_649 rfl rfl ?_
        refine tr_iconst (pc := 650) (v := 1) k_lw_law_650 (by decide) ?_
        refine tr_iadd (pc := 651) k_lw_law_651 ?_
        refine tr_sald (pc := 652) k_lw_law_652 hv.1 ?_
        replace hv := hv.2
        refine tr_aload_n (pc := 653) 0 k_lw_law_653 rfl rfl ?_
        refine tr_iload_n (pc := 654) 3 k_lw_law_654 rfl rfl ?_
        refine tr_iconst (pc := 655) (v := 2) k_lw_law_655 (by decide) ?_
        refine tr_iadd (pc := 656) k_lw_law_656 ?_
        refine tr_sald (pc := 657) k_lw_law_657 hv.1 ?_
        replace hv := hv.2
        refine tr_aload_n (pc := 658) 0 k_lw_law_658 rfl rfl ?_
        refine tr_iload_n (pc := 659) 3 k_lw_law_659 rfl rfl ?_
        refine tr_iconst (pc := 660) (v := 3) k_lw_law_660 (by decide) ?_
        refine tr_iadd (pc := 661) k_lw_law_661 ?_
        refine tr_sald (pc := 662) k_lw_law_662 hv.1 ?_
        replace hv := hv.2
        refine tr_aload_n (pc := 663) 0 k_lw_law_663 rfl rfl ?_
        refine tr_iload_n (pc := 664) 3 k_lw_law_664 rfl rfl ?_
        refine tr_iconst (pc := 665) (v := 4) k_lw_law_665 (by decide) ?_
        refine tr_iadd (pc := 666) k_lw_law_666 ?_
        refine tr_sald (pc := 667) k_lw_law_667 hv.1 ?_
        replace hv := hv.2
        have hT := hv
        clear hv
        refine tr_callV (pc := 668) (d' := d + 9) (mc' := 2) (ms' := 78) [vi (hI h 14 0 (x3 + (1 : Int32)).toNatClampNeg), vi (hI h 14 0 (x3 + (2 : Int32)).toNatClampNeg), vi (hI h 14 0 (x3 + (3 : Int32)).toNatClampNeg), vi (hI h 14 0 (x3 + (4 : Int32)).toNatClampNeg)] k_lw_law_668 ca_fn_view ml_lw_71 ii_fn_view ⟨by decide, rfl⟩ pa_fn_view (by omega) (by omega) (by omega) rfl (Nat.le_of_ble_eq_true rfl) (Nat.le_of_ble_eq_true rfl) hT (fun v h9 hv => ?_)
        clear hT
        obtain ⟨y70, rfl, hv⟩ := hv
        obtain ⟨h69, eh⟩ : ∃ z, z = h9 := ⟨_, rfl⟩
        subst eh
        obtain ⟨hskh69, hv⟩ := hv
        rw [show mc + 2 - 2 = mc + 0 by omega, show ms + 100 - 78 = ms + 22 by omega]
        show mT g me_lw_law (d + 10) (mc + 0) (ms + 22) 671 [some (vr 14 0), some (vr 0 0), some (vr 10 0), some (vi x3)] [vi y70] h69 _
        refine tr_aload_n (pc := 671) 2 k_lw_law_671 rfl rfl ?_
        refine tr_aload_n (pc := 672) 0 k_lw_law_672 rfl rfl ?_
        refine tr_iload_n (pc := 673) 3 k_lw_law_673 rfl rfl ?_
        refine tr_iconst (pc := 674) (v := 1) k_lw_law_674 (by decide) ?_
        refine tr_iadd (pc := 675) k_lw_law_675 ?_
        refine tr_sald (pc := 676) k_lw_law_676 hv.1 ?_
        replace hv := hv.2
        refine tr_aload_n (pc := 677) 0 k_lw_law_677 rfl rfl ?_
        refine tr_iload_n (pc := 678) 3 k_lw_law_678 rfl rfl ?_
        refine tr_iconst (pc := 679) (v := 2) k_lw_law_679 (by decide) ?_
        refine tr_iadd (pc := 680) k_lw_law_680 ?_
        refine tr_sald (pc := 681) k_lw_law_681 hv.1 ?_
        replace hv := hv.2
        refine tr_aload_n (pc := 682) 0 k_lw_law_682 rfl rfl ?_
        refine tr_iload_n (pc := 683) 3 k_lw_law_683 rfl rfl ?_
        refine tr_iconst (pc := 684) (v := 3) k_lw_law_684 (by decide) ?_
        refine tr_iadd (pc := 685) k_lw_law_685 ?_
        refine tr_sald (pc := 686) k_lw_law_686 hv.1 ?_
        replace hv := hv.2
        refine tr_aload_n (pc := 687) 0 k_lw_law_687 rfl rfl ?_
        refine tr_iload_n (pc := 688) 3 k_lw_law_688 rfl rfl ?_
        refine tr_iconst (pc := 689) (v := 4) k_lw_law_689 (by decide) ?_
        refine tr_iadd (pc := 690) k_lw_law_690 ?_
        refine tr_sald (pc := 691) k_lw_law_691 hv.1 ?_
        replace hv := hv.2
        have hT := hv
        clear hv
        refine tr_callV (pc := 692) (d' := d + 9) (mc' := 0) (ms' := 0) [vi (hI h69 14 0 (x3 + (1 : Int32)).toNatClampNeg), vi (hI h69 14 0 (x3 + (2 : Int32)).toNatClampNeg), vi (hI h69 14 0 (x3 + (3 : Int32)).toNatClampNeg), vi (hI h69 14 0 (x3 + (4 : Int32)).toNatClampNeg)] k_lw_law_692 ca_fm_view ml_lw_74 ii_fm_view ⟨by decide, rfl⟩ pa_fm_view (by omega) (by omega) (by omega) rfl (Nat.le_of_ble_eq_true rfl) (Nat.le_of_ble_eq_true rfl) hT (fun v h9 hv => ?_)
        clear hT
        obtain ⟨y72, rfl, hv⟩ := hv
        obtain ⟨h71, eh⟩ : ∃ z, z = h9 := ⟨_, rfl⟩
        subst eh
        obtain ⟨hskh71, hv⟩ := hv
        rw [show mc + 0 - 0 = mc + 0 by omega, show ms + 22 - 0 = ms + 22 by omega]
        show mT g me_lw_law (d + 10) (mc + 0) (ms + 22) 695 [some (vr 14 0), some (vr 0 0), some (vr 10 0), some (vi x3)] [vi y72, vi y70] h71 _
        refine tr_icmp_eq (pc := 695) 1094 k_lw_law_695 (by decide) (fun q => ?_) (fun q => ?_)
        · replace hv := hv.1 q
          refine tr_iinc (pc := 1094) (v := (x3 + 6)) k_lw_law_1094 rfl rfl (by decide) rfl ?_
          show mT g me_lw_law (d + 10) (mc + 0) (ms + 22) 1097 [some (vr 14 0), some (vr 0 0), some (vr 10 0), some (vi (x3 + 6))] [] h71 _
          refine tr_goto (pc := 1097) 18 k_lw_law_1097 (by decide) ?_
          exact mT.weaken hv (by omega) (by omega)
        · replace hv := hv.2 q
          refine tr_iconst (pc := 698) (v := 0) k_lw_law_698 (by decide) ?_
          refine tr_ireturn (pc := 699) k_lw_law_699 rfl rfl ?_
          exact hv
      · cases hi
        replace hv := hv.2.2.2.2.2.2.2.2.2.2.2.2.2.2.1 (mtoI (hx.trans (by decide)))
        refine tr_aload_n (pc := 700) 1 k_lw_law_700 rfl rfl ?_
        have hT := hv
        clear hv
        refine tr_callV (pc := 701) (d' := d + 9) (mc' := 0) (ms' := 0) [] k_lw_law_701 ca_fn_unview ml_lw_75 ii_fn_unview ⟨by decide, rfl⟩ pa_fn_unview (by omega) (by omega) (by omega) rfl (Nat.le_of_ble_eq_true rfl) (Nat.le_of_ble_eq_true rfl) hT (fun v h9 hv => ?_)
        clear hT
        obtain ⟨y74, rfl, hv⟩ := hv
        obtain ⟨h73, eh⟩ : ∃ z, z = h9 := ⟨_, rfl⟩
        subst eh
        obtain ⟨hskh73, hv⟩ := hv
        rw [show mc + 2 - 0 = mc + 2 by omega, show ms + 100 - 0 = ms + 100 by omega]
        show mT g me_lw_law (d + 10) (mc + 2) (ms + 100) 704 [some (vr 14 0), some (vr 0 0), some (vr 10 0), some (vi x3)] [vi y74] h73 _
        refine tr_aload_n (pc := 704) 2 k_lw_law_704 rfl rfl ?_
        have hT := hv
        clear hv
        refine tr_callV (pc := 705) (d' := d + 9) (mc' := 0) (ms' := 0) [] k_lw_law_705 ca_fm_unview ml_lw_79 ii_fm_unview ⟨by decide, rfl⟩ pa_fm_unview (by omega) (by omega) (by omega) rfl (Nat.le_of_ble_eq_true rfl) (Nat.le_of_ble_eq_true rfl) hT (fun v h9 hv => ?_)
        clear hT
        obtain ⟨y76, rfl, hv⟩ := hv
        obtain ⟨h75, eh⟩ : ∃ z, z = h9 := ⟨_, rfl⟩
        subst eh
        obtain ⟨hskh75, hv⟩ := hv
        rw [show mc + 2 - 0 = mc + 2 by omega, show ms + 100 - 0 = ms + 100 by omega]
        show mT g me_lw_law (d + 10) (mc + 2) (ms + 100) 708 [some (vr 14 0), some (vr 0 0), some (vr 10 0), some (vi x3)] [vi y76, vi y74] h75 _
        refine tr_icmp_eq (pc := 708) 1094 k_lw_law_708 (by decide) (fun q => ?_) (fun q => ?_)
        · replace hv := hv.1 q
          refine tr_iinc (pc := 1094) (v := (x3 + 6)) k_lw_law_1094 rfl rfl (by decide) rfl ?_
          show mT g me_lw_law (d + 10) (mc + 2) (ms + 100) 1097 [some (vr 14 0), some (vr 0 0), some (vr 10 0), some (vi (x3 + 6))] [] h75 _
          refine tr_goto (pc := 1097) 18 k_lw_law_1097 (by decide) ?_
          exact mT.weaken hv (by omega) (by omega)
        · replace hv := hv.2 q
          refine tr_iconst (pc := 711) (v := 0) k_lw_law_711 (by decide) ?_
          refine tr_ireturn (pc := 712) k_lw_law_712 rfl rfl ?_
          exact hv
      · cases hi
        replace hv := hv.2.2.2.2.2.2.2.2.2.2.2.2.2.2.2.1 (mtoI (hx.trans (by decide)))
        refine tr_aload_n (pc := 713) 1 k_lw_law_713 rfl rfl ?_
        refine tr_aload_n (pc := 714) 0 k_lw_law_714 rfl rfl ?_
        refine tr_iload_n (pc := 715) 3 k_lw_law_715 rfl rfl ?_
        refine tr_iconst (pc := 716) (v := 1) k_lw_law_716 (by decide) ?_
        refine tr_iadd (pc := 717) k_lw_law_717 ?_
        refine tr_sald (pc := 718) k_lw_law_718 hv.1 ?_
        replace hv := hv.2
        have hT := hv
        clear hv
        refine tr_callV (pc := 719) (d' := d + 9) (mc' := 0) (ms' := 0) [vi (hI h 14 0 (x3 + (1 : Int32)).toNatClampNeg)] k_lw_law_719 ca_fn_walk ml_lw_80 ii_fn_walk ⟨by decide, rfl⟩ pa_fn_walk (by omega) (by omega) (by omega) rfl (Nat.le_of_ble_eq_true rfl) (Nat.le_of_ble_eq_true rfl) hT (fun v h9 hv => ?_)
        clear hT
        obtain ⟨y78, rfl, hv⟩ := hv
        obtain ⟨h77, eh⟩ : ∃ z, z = h9 := ⟨_, rfl⟩
        subst eh
        obtain ⟨hskh77, hv⟩ := hv
        rw [show mc + 2 - 0 = mc + 2 by omega, show ms + 100 - 0 = ms + 100 by omega]
        show mT g me_lw_law (d + 10) (mc + 2) (ms + 100) 722 [some (vr 14 0), some (vr 0 0), some (vr 10 0), some (vi x3)] [vi y78] h77 _
        refine tr_aload_n (pc := 722) 2 k_lw_law_722 rfl rfl ?_
        refine tr_aload_n (pc := 723) 0 k_lw_law_723 rfl rfl ?_
        refine tr_iload_n (pc := 724) 3 k_lw_law_724 rfl rfl ?_
        refine tr_iconst (pc := 725) (v := 1) k_lw_law_725 (by decide) ?_
        refine tr_iadd (pc := 726) k_lw_law_726 ?_
        refine tr_sald (pc := 727) k_lw_law_727 hv.1 ?_
        replace hv := hv.2
        have hT := hv
        clear hv
        refine tr_callV (pc := 728) (d' := d + 9) (mc' := 0) (ms' := 0) [vi (hI h77 14 0 (x3 + (1 : Int32)).toNatClampNeg)] k_lw_law_728 ca_fm_walk ml_lw_83 ii_fm_walk ⟨by decide, rfl⟩ pa_fm_walk (by omega) (by omega) (by omega) rfl (Nat.le_of_ble_eq_true rfl) (Nat.le_of_ble_eq_true rfl) hT (fun v h9 hv => ?_)
        clear hT
        obtain ⟨y80, rfl, hv⟩ := hv
        obtain ⟨h79, eh⟩ : ∃ z, z = h9 := ⟨_, rfl⟩
        subst eh
        obtain ⟨hskh79, hv⟩ := hv
        rw [show mc + 2 - 0 = mc + 2 by omega, show ms + 100 - 0 = ms + 100 by omega]
        show mT g me_lw_law (d + 10) (mc + 2) (ms + 100) 731 [some (vr 14 0), some (vr 0 0), some (vr 10 0), some (vi x3)] [vi y80, vi y78] h79 _
        refine tr_icmp_eq (pc := 731) 1094 k_lw_law_731 (by decide) (fun q => ?_) (fun q => ?_)
        · replace hv := hv.1 q
          refine tr_iinc (pc := 1094) (v := (x3 + 6)) k_lw_law_1094 rfl rfl (by decide) rfl ?_
          show mT g me_lw_law (d + 10) (mc + 2) (ms + 100) 1097 [some (vr 14 0), some (vr 0 0), some (vr 10 0), some (vi (x3 + 6))] [] h79 _
          refine tr_goto (pc := 1097) 18 k_lw_law_1097 (by decide) ?_
          exact mT.weaken hv (by omega) (by omega)
        · replace hv := hv.2 q
          refine tr_iconst (pc := 734) (v := 0) k_lw_law_734 (by decide) ?_
          refine tr_ireturn (pc := 735) k_lw_law_735 rfl rfl ?_
          exact hv
      · cases hi
        replace hv := hv.2.2.2.2.2.2.2.2.2.2.2.2.2.2.2.2.1 (mtoI (hx.trans (by decide)))
        refine tr_aload_n (pc := 736) 1 k_lw_law_736 rfl rfl ?_
        have hT := hv
        clear hv
        refine tr_callV (pc := 737) (d' := d + 9) (mc' := 0) (ms' := 0) [] k_lw_law_737 ca_fn_most ml_lw_84 ii_fn_most ⟨by decide, rfl⟩ pa_fn_most (by omega) (by omega) (by omega) rfl (Nat.le_of_ble_eq_true rfl) (Nat.le_of_ble_eq_true rfl) hT (fun v h9 hv => ?_)
        clear hT
        obtain ⟨y82, rfl, hv⟩ := hv
        obtain ⟨h81, eh⟩ : ∃ z, z = h9 := ⟨_, rfl⟩
        subst eh
        obtain ⟨hskh81, hv⟩ := hv
        rw [show mc + 2 - 0 = mc + 2 by omega, show ms + 100 - 0 = ms + 100 by omega]
        show mT g me_lw_law (d + 10) (mc + 2) (ms + 100) 740 [some (vr 14 0), some (vr 0 0), some (vr 10 0), some (vi x3)] [vi y82] h81 _
        refine tr_aload_n (pc := 740) 2 k_lw_law_740 rfl rfl ?_
        have hT := hv
        clear hv
        refine tr_callV (pc := 741) (d' := d + 9) (mc' := 0) (ms' := 0) [] k_lw_law_741 ca_fm_most ml_lw_87 ii_fm_most ⟨by decide, rfl⟩ pa_fm_most (by omega) (by omega) (by omega) rfl (Nat.le_of_ble_eq_true rfl) (Nat.le_of_ble_eq_true rfl) hT (fun v h9 hv => ?_)
        clear hT
        obtain ⟨y84, rfl, hv⟩ := hv
        obtain ⟨h83, eh⟩ : ∃ z, z = h9 := ⟨_, rfl⟩
        subst eh
        obtain ⟨hskh83, hv⟩ := hv
        rw [show mc + 2 - 0 = mc + 2 by omega, show ms + 100 - 0 = ms + 100 by omega]
        show mT g me_lw_law (d + 10) (mc + 2) (ms + 100) 744 [some (vr 14 0), some (vr 0 0), some (vr 10 0), some (vi x3)] [vi y84, vi y82] h83 _
        refine tr_icmp_eq (pc := 744) 1094 k_lw_law_744 (by decide) (fun q => ?_) (fun q => ?_)
        · replace hv := hv.1 q
          refine tr_iinc (pc := 1094) (v := (x3 + 6)) k_lw_law_1094 rfl rfl (by decide) rfl ?_
          show mT g me_lw_law (d + 10) (mc + 2) (ms + 100) 1097 [some (vr 14 0), some (vr 0 0), some (vr 10 0), some (vi (x3 + 6))] [] h83 _
          refine tr_goto (pc := 1097) 18 k_lw_law_1097 (by decide) ?_
          exact mT.weaken hv (by omega) (by omega)
        · replace hv := hv.2 q
          refine tr_iconst (pc := 747) (v := 0) k_lw_law_747 (by decide) ?_
          refine tr_ireturn (pc := 748) k_lw_law_748 rfl rfl ?_
          exact hv
      · cases hi
        replace hv := hv.2.2.2.2.2.2.2.2.2.2.2.2.2.2.2.2.2.1 (mtoI (hx.trans (by decide)))
        refine tr_aload_n (pc := 749) 1 k_lw_law_749 rfl rfl ?_
        refine tr_aload_n (pc := 750) 0 k_lw_law_750 rfl rfl ?_
        refine tr_iload_n (pc := 751) 3 k_lw_law_751 rfl rfl ?_
        refine tr_iconst (pc := 752) (v := 1) k_lw_law_752 (by decide) ?_
        refine tr_iadd (pc := 753) k_lw_law_753 ?_
        refine tr_sald (pc := 754) k_lw_law_754 hv.1 ?_
        replace hv := hv.2
        have hT := hv
        clear hv
        refine tr_callV (pc := 755) (d' := d + 9) (mc' := 0) (ms' := 0) [vi (hI h 14 0 (x3 + (1 : Int32)).toNatClampNeg)] k_lw_law_755 ca_fn_pace ml_lw_88 ii_fn_pace ⟨by decide, rfl⟩ pa_fn_pace (by omega) (by omega) (by omega) rfl (Nat.le_of_ble_eq_true rfl) (Nat.le_of_ble_eq_true rfl) hT (fun v h9 hv => ?_)
        clear hT
        obtain ⟨y86, rfl, hv⟩ := hv
        obtain ⟨h85, eh⟩ : ∃ z, z = h9 := ⟨_, rfl⟩
        subst eh
        obtain ⟨hskh85, hv⟩ := hv
        rw [show mc + 2 - 0 = mc + 2 by omega, show ms + 100 - 0 = ms + 100 by omega]
        show mT g me_lw_law (d + 10) (mc + 2) (ms + 100) 758 [some (vr 14 0), some (vr 0 0), some (vr 10 0), some (vi x3)] [vi y86] h85 _
        refine tr_aload_n (pc := 758) 2 k_lw_law_758 rfl rfl ?_
        refine tr_aload_n (pc := 759) 0 k_lw_law_759 rfl rfl ?_
        refine tr_iload_n (pc := 760) 3 k_lw_law_760 rfl rfl ?_
        refine tr_iconst (pc := 761) (v := 1) k_lw_law_761 (by decide) ?_
        refine tr_iadd (pc := 762) k_lw_law_762 ?_
        refine tr_sald (pc := 763) k_lw_law_763 hv.1 ?_
        replace hv := hv.2
        have hT := hv
        clear hv
        refine tr_callV (pc := 764) (d' := d + 9) (mc' := 0) (ms' := 0) [vi (hI h85 14 0 (x3 + (1 : Int32)).toNatClampNeg)] k_lw_law_764 ca_fm_pace ml_lw_91 ii_fm_pace ⟨by decide, rfl⟩ pa_fm_pace (by omega) (by omega) (by omega) rfl (Nat.le_of_ble_eq_true rfl) (Nat.le_of_ble_eq_true rfl) hT (fun v h9 hv => ?_)
        clear hT
        obtain ⟨y88, rfl, hv⟩ := hv
        obtain ⟨h87, eh⟩ : ∃ z, z = h9 := ⟨_, rfl⟩
        subst eh
        obtain ⟨hskh87, hv⟩ := hv
        rw [show mc + 2 - 0 = mc + 2 by omega, show ms + 100 - 0 = ms + 100 by omega]
        show mT g me_lw_law (d + 10) (mc + 2) (ms + 100) 767 [some (vr 14 0), some (vr 0 0), some (vr 10 0), some (vi x3)] [vi y88, vi y86] h87 _
        refine tr_icmp_eq (pc := 767) 1094 k_lw_law_767 (by decide) (fun q => ?_) (fun q => ?_)
        · replace hv := hv.1 q
          refine tr_iinc (pc := 1094) (v := (x3 + 6)) k_lw_law_1094 rfl rfl (by decide) rfl ?_
          show mT g me_lw_law (d + 10) (mc + 2) (ms + 100) 1097 [some (vr 14 0), some (vr 0 0), some (vr 10 0), some (vi (x3 + 6))] [] h87 _
          refine tr_goto (pc := 1097) 18 k_lw_law_1097 (by decide) ?_
          exact mT.weaken hv (by omega) (by omega)
        · replace hv := hv.2 q
          refine tr_iconst (pc := 770) (v := 0) k_lw_law_770 (by decide) ?_
          refine tr_ireturn (pc := 771) k_lw_law_771 rfl rfl ?_
          exact hv
      · cases hi
        replace hv := hv.2.2.2.2.2.2.2.2.2.2.2.2.2.2.2.2.2.2.1 (mtoI (hx.trans (by decide)))
        refine tr_aload_n (pc := 772) 1 k_lw_law_772 rfl rfl ?_
        have hT := hv
        clear hv
        refine tr_callV (pc := 773) (d' := d + 9) (mc' := 0) (ms' := 0) [] k_lw_law_773 ca_fn_tasks ml_lw_92 ii_fn_tasks ⟨by decide, rfl⟩ pa_fn_tasks (by omega) (by omega) (by omega) rfl (Nat.le_of_ble_eq_true rfl) (Nat.le_of_ble_eq_true rfl) hT (fun v h9 hv => ?_)
        clear hT
        obtain ⟨y90, rfl, hv⟩ := hv
        obtain ⟨h89, eh⟩ : ∃ z, z = h9 := ⟨_, rfl⟩
        subst eh
        obtain ⟨hskh89, hv⟩ := hv
        rw [show mc + 2 - 0 = mc + 2 by omega, show ms + 100 - 0 = ms + 100 by omega]
        show mT g me_lw_law (d + 10) (mc + 2) (ms + 100) 776 [some (vr 14 0), some (vr 0 0), some (vr 10 0), some (vi x3)] [vi y90] h89 _
        refine tr_aload_n (pc := 776) 2 k_lw_law_776 rfl rfl ?_
        have hT := hv
        clear hv
        refine tr_callV (pc := 777) (d' := d + 9) (mc' := 0) (ms' := 0) [] k_lw_law_777 ca_fm_tasks ml_lw_95 ii_fm_tasks ⟨by decide, rfl⟩ pa_fm_tasks (by omega) (by omega) (by omega) rfl (Nat.le_of_ble_eq_true rfl) (Nat.le_of_ble_eq_true rfl) hT (fun v h9 hv => ?_)
        clear hT
        obtain ⟨y92, rfl, hv⟩ := hv
        obtain ⟨h91, eh⟩ : ∃ z, z = h9 := ⟨_, rfl⟩
        subst eh
        obtain ⟨hskh91, hv⟩ := hv
        rw [show mc + 2 - 0 = mc + 2 by omega, show ms + 100 - 0 = ms + 100 by omega]
        show mT g me_lw_law (d + 10) (mc + 2) (ms + 100) 780 [some (vr 14 0), some (vr 0 0), some (vr 10 0), some (vi x3)] [vi y92, vi y90] h91 _
        refine tr_icmp_eq (pc := 780) 1094 k_lw_law_780 (by decide) (fun q => ?_) (fun q => ?_)
        · replace hv := hv.1 q
          refine tr_iinc (pc := 1094) (v := (x3 + 6)) k_lw_law_1094 rfl rfl (by decide) rfl ?_
          show mT g me_lw_law (d + 10) (mc + 2) (ms + 100) 1097 [some (vr 14 0), some (vr 0 0), some (vr 10 0), some (vi (x3 + 6))] [] h91 _
          refine tr_goto (pc := 1097) 18 k_lw_law_1097 (by decide) ?_
          exact mT.weaken hv (by omega) (by omega)
        · replace hv := hv.2 q
          refine tr_iconst (pc := 783) (v := 0) k_lw_law_783 (by decide) ?_
          refine tr_ireturn (pc := 784) k_lw_law_784 rfl rfl ?_
          exact hv
      · cases hi
        replace hv := hv.2.2.2.2.2.2.2.2.2.2.2.2.2.2.2.2.2.2.2.1 (mtoI (hx.trans (by decide)))
        refine tr_aload_n (pc := 785) 1 k_lw_law_785 rfl rfl ?_
        refine tr_aload_n (pc := 786) 0 k_lw_law_786 rfl rfl ?_
        refine tr_iload_n (pc := 787) 3 k_lw_law_787 rfl rfl ?_
        refine tr_iconst (pc := 788) (v := 1) k_lw_law_788 (by decide) ?_
        refine tr_iadd (pc := 789) k_lw_law_789 ?_
        refine tr_sald (pc := 790) k_lw_law_790 hv.1 ?_
        replace hv := hv.2
        refine tr_aload_n (pc := 791) 0 k_lw_law_791 rfl rfl ?_
        refine tr_iload_n (pc := 792) 3 k_lw_law_792 rfl rfl ?_
        refine tr_iconst (pc := 793) (v := 2) k_lw_law_793 (by decide) ?_
        refine tr_iadd (pc := 794) k_lw_law_794 ?_
        refine tr_sald (pc := 795) k_lw_law_795 hv.1 ?_
        replace hv := hv.2
        have hT := hv
        clear hv
        refine tr_callV (pc := 796) (d' := d + 9) (mc' := 0) (ms' := 0) [vi (hI h 14 0 (x3 + (1 : Int32)).toNatClampNeg), vi (hI h 14 0 (x3 + (2 : Int32)).toNatClampNeg)] k_lw_law_796 ca_fn_task ml_lw_96 ii_fn_task ⟨by decide, rfl⟩ pa_fn_task (by omega) (by omega) (by omega) rfl (Nat.le_of_ble_eq_true rfl) (Nat.le_of_ble_eq_true rfl) hT (fun v h9 hv => ?_)
        clear hT
        obtain ⟨y94, rfl, hv⟩ := hv
        obtain ⟨h93, eh⟩ : ∃ z, z = h9 := ⟨_, rfl⟩
        subst eh
        obtain ⟨hskh93, hv⟩ := hv
        rw [show mc + 2 - 0 = mc + 2 by omega, show ms + 100 - 0 = ms + 100 by omega]
        show mT g me_lw_law (d + 10) (mc + 2) (ms + 100) 799 [some (vr 14 0), some (vr 0 0), some (vr 10 0), some (vi x3)] [vi y94] h93 _
        refine tr_aload_n (pc := 799) 2 k_lw_law_799 rfl rfl ?_
        refine tr_aload_n (pc := 800) 0 k_lw_law_800 rfl rfl ?_
        refine tr_iload_n (pc := 801) 3 k_lw_law_801 rfl rfl ?_
        refine tr_iconst (pc := 802) (v := 1) k_lw_law_802 (by decide) ?_
        refine tr_iadd (pc := 803) k_lw_law_803 ?_
        refine tr_sald (pc := 804) k_lw_law_804 hv.1 ?_
        replace hv := hv.2
        refine tr_aload_n (pc := 805) 0 k_lw_law_805 rfl rfl ?_
        refine tr_iload_n (pc := 806) 3 k_lw_law_806 rfl rfl ?_
        refine tr_iconst (pc := 807) (v := 2) k_lw_law_807 (by decide) ?_
        refine tr_iadd (pc := 808) k_lw_law_808 ?_
        refine tr_sald (pc := 809) k_lw_law_809 hv.1 ?_
        replace hv := hv.2
        have hT := hv
        clear hv
        refine tr_callV (pc := 810) (d' := d + 9) (mc' := 0) (ms' := 0) [vi (hI h93 14 0 (x3 + (1 : Int32)).toNatClampNeg), vi (hI h93 14 0 (x3 + (2 : Int32)).toNatClampNeg)] k_lw_law_810 ca_fm_task ml_lw_99 ii_fm_task ⟨by decide, rfl⟩ pa_fm_task (by omega) (by omega) (by omega) rfl (Nat.le_of_ble_eq_true rfl) (Nat.le_of_ble_eq_true rfl) hT (fun v h9 hv => ?_)
        clear hT
        obtain ⟨y96, rfl, hv⟩ := hv
        obtain ⟨h95, eh⟩ : ∃ z, z = h9 := ⟨_, rfl⟩
        subst eh
        obtain ⟨hskh95, hv⟩ := hv
        rw [show mc + 2 - 0 = mc + 2 by omega, show ms + 100 - 0 = ms + 100 by omega]
        show mT g me_lw_law (d + 10) (mc + 2) (ms + 100) 813 [some (vr 14 0), some (vr 0 0), some (vr 10 0), some (vi x3)] [vi y96, vi y94] h95 _
        refine tr_icmp_eq (pc := 813) 1094 k_lw_law_813 (by decide) (fun q => ?_) (fun q => ?_)
        · replace hv := hv.1 q
          refine tr_iinc (pc := 1094) (v := (x3 + 6)) k_lw_law_1094 rfl rfl (by decide) rfl ?_
          show mT g me_lw_law (d + 10) (mc + 2) (ms + 100) 1097 [some (vr 14 0), some (vr 0 0), some (vr 10 0), some (vi (x3 + 6))] [] h95 _
          refine tr_goto (pc := 1097) 18 k_lw_law_1097 (by decide) ?_
          exact mT.weaken hv (by omega) (by omega)
        · replace hv := hv.2 q
          refine tr_iconst (pc := 816) (v := 0) k_lw_law_816 (by decide) ?_
          refine tr_ireturn (pc := 817) k_lw_law_817 rfl rfl ?_
          exact hv
      · cases hi
        replace hv := hv.2.2.2.2.2.2.2.2.2.2.2.2.2.2.2.2.2.2.2.2.1 (mtoI (hx.trans (by decide)))
        refine tr_aload_n (pc := 818) 1 k_lw_law_818 rfl rfl ?_
        have hT := hv
        clear hv
        refine tr_callV (pc := 819) (d' := d + 9) (mc' := 0) (ms' := 0) [] k_lw_law_819 ca_fn_boys ml_lw_100 ii_fn_boys ⟨by decide, rfl⟩ pa_fn_boys (by omega) (by omega) (by omega) rfl (Nat.le_of_ble_eq_true rfl) (Nat.le_of_ble_eq_true rfl) hT (fun v h9 hv => ?_)
        clear hT
        obtain ⟨y98, rfl, hv⟩ := hv
        obtain ⟨h97, eh⟩ : ∃ z, z = h9 := ⟨_, rfl⟩
        subst eh
        obtain ⟨hskh97, hv⟩ := hv
        rw [show mc + 2 - 0 = mc + 2 by omega, show ms + 100 - 0 = ms + 100 by omega]
        show mT g me_lw_law (d + 10) (mc + 2) (ms + 100) 822 [some (vr 14 0), some (vr 0 0), some (vr 10 0), some (vi x3)] [vi y98] h97 _
        refine tr_aload_n (pc := 822) 2 k_lw_law_822 rfl rfl ?_
        have hT := hv
        clear hv
        refine tr_callV (pc := 823) (d' := d + 9) (mc' := 0) (ms' := 0) [] k_lw_law_823 ca_fm_boys ml_lw_103 ii_fm_boys ⟨by decide, rfl⟩ pa_fm_boys (by omega) (by omega) (by omega) rfl (Nat.le_of_ble_eq_true rfl) (Nat.le_of_ble_eq_true rfl) hT (fun v h9 hv => ?_)
        clear hT
        obtain ⟨y100, rfl, hv⟩ := hv
        obtain ⟨h99, eh⟩ : ∃ z, z = h9 := ⟨_, rfl⟩
        subst eh
        obtain ⟨hskh99, hv⟩ := hv
        rw [show mc + 2 - 0 = mc + 2 by omega, show ms + 100 - 0 = ms + 100 by omega]
        show mT g me_lw_law (d + 10) (mc + 2) (ms + 100) 826 [some (vr 14 0), some (vr 0 0), some (vr 10 0), some (vi x3)] [vi y100, vi y98] h99 _
        refine tr_icmp_eq (pc := 826) 1094 k_lw_law_826 (by decide) (fun q => ?_) (fun q => ?_)
        · replace hv := hv.1 q
          refine tr_iinc (pc := 1094) (v := (x3 + 6)) k_lw_law_1094 rfl rfl (by decide) rfl ?_
          show mT g me_lw_law (d + 10) (mc + 2) (ms + 100) 1097 [some (vr 14 0), some (vr 0 0), some (vr 10 0), some (vi (x3 + 6))] [] h99 _
          refine tr_goto (pc := 1097) 18 k_lw_law_1097 (by decide) ?_
          exact mT.weaken hv (by omega) (by omega)
        · replace hv := hv.2 q
          refine tr_iconst (pc := 829) (v := 0) k_lw_law_829 (by decide) ?_
          refine tr_ireturn (pc := 830) k_lw_law_830 rfl rfl ?_
          exact hv
      · cases hi
        replace hv := hv.2.2.2.2.2.2.2.2.2.2.2.2.2.2.2.2.2.2.2.2.2.1 (mtoI (hx.trans (by decide)))
        refine tr_aload_n (pc := 831) 1 k_lw_law_831 rfl rfl ?_
        refine tr_aload_n (pc := 832) 0 k_lw_law_832 rfl rfl ?_
        refine tr_iload_n (pc := 833) 3 k_lw_law_833 rfl rfl ?_
        refine tr_iconst (pc := 834) (v := 1) k_lw_law_834 (by decide) ?_
        refine tr_iadd (pc := 835) k_lw_law_835 ?_
        refine tr_sald (pc := 836) k_lw_law_836 hv.1 ?_
        replace hv := hv.2
        refine tr_aload_n (pc := 837) 0 k_lw_law_837 rfl rfl ?_
        refine tr_iload_n (pc := 838) 3 k_lw_law_838 rfl rfl ?_
        refine tr_iconst (pc := 839) (v := 2) k_lw_law_839 (by decide) ?_
        refine tr_iadd (pc := 840) k_lw_law_840 ?_
        refine tr_sald (pc := 841) k_lw_law_841 hv.1 ?_
        replace hv := hv.2
        have hT := hv
        clear hv
        refine tr_callV (pc := 842) (d' := d + 9) (mc' := 0) (ms' := 0) [vi (hI h 14 0 (x3 + (1 : Int32)).toNatClampNeg), vi (hI h 14 0 (x3 + (2 : Int32)).toNatClampNeg)] k_lw_law_842 ca_fn_gauge ml_lw_104 ii_fn_gauge ⟨by decide, rfl⟩ pa_fn_gauge (by omega) (by omega) (by omega) rfl (Nat.le_of_ble_eq_true rfl) (Nat.le_of_ble_eq_true rfl) hT (fun v h9 hv => ?_)
        clear hT
        obtain ⟨y102, rfl, hv⟩ := hv
        obtain ⟨h101, eh⟩ : ∃ z, z = h9 := ⟨_, rfl⟩
        subst eh
        obtain ⟨hskh101, hv⟩ := hv
        rw [show mc + 2 - 0 = mc + 2 by omega, show ms + 100 - 0 = ms + 100 by omega]
        show mT g me_lw_law (d + 10) (mc + 2) (ms + 100) 845 [some (vr 14 0), some (vr 0 0), some (vr 10 0), some (vi x3)] [vi y102] h101 _
        refine tr_aload_n (pc := 845) 2 k_lw_law_845 rfl rfl ?_
        refine tr_aload_n (pc := 846) 0 k_lw_law_846 rfl rfl ?_
        refine tr_iload_n (pc := 847) 3 k_lw_law_847 rfl rfl ?_
        refine tr_iconst (pc := 848) (v := 1) k_lw_law_848 (by decide) ?_
        refine tr_iadd (pc := 849) k_lw_law_849 ?_
        refine tr_sald (pc := 850) k_lw_law_850 hv.1 ?_
        replace hv := hv.2
        refine tr_aload_n (pc := 851) 0 k_lw_law_851 rfl rfl ?_
        refine tr_iload_n (pc := 852) 3 k_lw_law_852 rfl rfl ?_
        refine tr_iconst (pc := 853) (v := 2) k_lw_law_853 (by decide) ?_
        refine tr_iadd (pc := 854) k_lw_law_854 ?_
        refine tr_sald (pc := 855) k_lw_law_855 hv.1 ?_
        replace hv := hv.2
        have hT := hv
        clear hv
        refine tr_callV (pc := 856) (d' := d + 9) (mc' := 0) (ms' := 0) [vi (hI h101 14 0 (x3 + (1 : Int32)).toNatClampNeg), vi (hI h101 14 0 (x3 + (2 : Int32)).toNatClampNeg)] k_lw_law_856 ca_fm_gauge ml_lw_107 ii_fm_gauge ⟨by decide, rfl⟩ pa_fm_gauge (by omega) (by omega) (by omega) rfl (Nat.le_of_ble_eq_true rfl) (Nat.le_of_ble_eq_true rfl) hT (fun v h9 hv => ?_)
        clear hT
        obtain ⟨y104, rfl, hv⟩ := hv
        obtain ⟨h103, eh⟩ : ∃ z, z = h9 := ⟨_, rfl⟩
        subst eh
        obtain ⟨hskh103, hv⟩ := hv
        rw [show mc + 2 - 0 = mc + 2 by omega, show ms + 100 - 0 = ms + 100 by omega]
        show mT g me_lw_law (d + 10) (mc + 2) (ms + 100) 859 [some (vr 14 0), some (vr 0 0), some (vr 10 0), some (vi x3)] [vi y104, vi y102] h103 _
        refine tr_icmp_eq (pc := 859) 1094 k_lw_law_859 (by decide) (fun q => ?_) (fun q => ?_)
        · replace hv := hv.1 q
          refine tr_iinc (pc := 1094) (v := (x3 + 6)) k_lw_law_1094 rfl rfl (by decide) rfl ?_
          show mT g me_lw_law (d + 10) (mc + 2) (ms + 100) 1097 [some (vr 14 0), some (vr 0 0), some (vr 10 0), some (vi (x3 + 6))] [] h103 _
          refine tr_goto (pc := 1097) 18 k_lw_law_1097 (by decide) ?_
          exact mT.weaken hv (by omega) (by omega)
        · replace hv := hv.2 q
          refine tr_iconst (pc := 862) (v := 0) k_lw_law_862 (by decide) ?_
          refine tr_ireturn (pc := 863) k_lw_law_863 rfl rfl ?_
          exact hv
      · cases hi
        replace hv := hv.2.2.2.2.2.2.2.2.2.2.2.2.2.2.2.2.2.2.2.2.2.2.1 (mtoI (hx.trans (by decide)))
        refine tr_aload_n (pc := 864) 1 k_lw_law_864 rfl rfl ?_
        refine tr_aload_n (pc := 865) 0 k_lw_law_865 rfl rfl ?_
        refine tr_iload_n (pc := 866) 3 k_lw_law_866 rfl rfl ?_
        refine tr_iconst (pc := 867) (v := 1) k_lw_law_867 (by decide) ?_
        refine tr_iadd (pc := 868) k_lw_law_868 ?_
        refine tr_sald (pc := 869) k_lw_law_869 hv.1 ?_
        replace hv := hv.2
        have hT := hv
        clear hv
        refine tr_callV (pc := 870) (d' := d + 9) (mc' := 0) (ms' := 0) [vi (hI h 14 0 (x3 + (1 : Int32)).toNatClampNeg)] k_lw_law_870 ca_fn_tol ml_lw_108 ii_fn_tol ⟨by decide, rfl⟩ pa_fn_tol (by omega) (by omega) (by omega) rfl (Nat.le_of_ble_eq_true rfl) (Nat.le_of_ble_eq_true rfl) hT (fun v h9 hv => ?_)
        clear hT
        obtain ⟨y106, rfl, hv⟩ := hv
        obtain ⟨h105, eh⟩ : ∃ z, z = h9 := ⟨_, rfl⟩
        subst eh
        obtain ⟨hskh105, hv⟩ := hv
        rw [show mc + 2 - 0 = mc + 2 by omega, show ms + 100 - 0 = ms + 100 by omega]
        show mT g me_lw_law (d + 10) (mc + 2) (ms + 100) 873 [some (vr 14 0), some (vr 0 0), some (vr 10 0), some (vi x3)] [vi y106] h105 _
        refine tr_aload_n (pc := 873) 2 k_lw_law_873 rfl rfl ?_
        refine tr_aload_n (pc := 874) 0 k_lw_law_874 rfl rfl ?_
        refine tr_iload_n (pc := 875) 3 k_lw_law_875 rfl rfl ?_
        refine tr_iconst (pc := 876) (v := 1) k_lw_law_876 (by decide) ?_
        refine tr_iadd (pc := 877) k_lw_law_877 ?_
        refine tr_sald (pc := 878) k_lw_law_878 hv.1 ?_
        replace hv := hv.2
        have hT := hv
        clear hv
        refine tr_callV (pc := 879) (d' := d + 9) (mc' := 0) (ms' := 0) [vi (hI h105 14 0 (x3 + (1 : Int32)).toNatClampNeg)] k_lw_law_879 ca_fm_tol ml_lw_111 ii_fm_tol ⟨by decide, rfl⟩ pa_fm_tol (by omega) (by omega) (by omega) rfl (Nat.le_of_ble_eq_true rfl) (Nat.le_of_ble_eq_true rfl) hT (fun v h9 hv => ?_)
        clear hT
        obtain ⟨y108, rfl, hv⟩ := hv
        obtain ⟨h107, eh⟩ : ∃ z, z = h9 := ⟨_, rfl⟩
        subst eh
        obtain ⟨hskh107, hv⟩ := hv
        rw [show mc + 2 - 0 = mc + 2 by omega, show ms + 100 - 0 = ms + 100 by omega]
        show mT g me_lw_law (d + 10) (mc + 2) (ms + 100) 882 [some (vr 14 0), some (vr 0 0), some (vr 10 0), some (vi x3)] [vi y108, vi y106] h107 _
        refine tr_icmp_eq (pc := 882) 1094 k_lw_law_882 (by decide) (fun q => ?_) (fun q => ?_)
        · replace hv := hv.1 q
          refine tr_iinc (pc := 1094) (v := (x3 + 6)) k_lw_law_1094 rfl rfl (by decide) rfl ?_
          show mT g me_lw_law (d + 10) (mc + 2) (ms + 100) 1097 [some (vr 14 0), some (vr 0 0), some (vr 10 0), some (vi (x3 + 6))] [] h107 _
          refine tr_goto (pc := 1097) 18 k_lw_law_1097 (by decide) ?_
          exact mT.weaken hv (by omega) (by omega)
        · replace hv := hv.2 q
          refine tr_iconst (pc := 885) (v := 0) k_lw_law_885 (by decide) ?_
          refine tr_ireturn (pc := 886) k_lw_law_886 rfl rfl ?_
          exact hv
      · cases hi
        replace hv := hv.2.2.2.2.2.2.2.2.2.2.2.2.2.2.2.2.2.2.2.2.2.2.2.1 (mtoI (hx.trans (by decide)))
        refine tr_aload_n (pc := 887) 1 k_lw_law_887 rfl rfl ?_
        have hT := hv
        clear hv
        refine tr_callV (pc := 888) (d' := d + 9) (mc' := 0) (ms' := 0) [] k_lw_law_888 ca_fn_explain ml_lw_112 ii_fn_explain ⟨by decide, rfl⟩ pa_fn_explain (by omega) (by omega) (by omega) rfl (Nat.le_of_ble_eq_true rfl) (Nat.le_of_ble_eq_true rfl) hT (fun v h9 hv => ?_)
        clear hT
        obtain ⟨y110, rfl, hv⟩ := hv
        obtain ⟨h109, eh⟩ : ∃ z, z = h9 := ⟨_, rfl⟩
        subst eh
        obtain ⟨hskh109, hv⟩ := hv
        rw [show mc + 2 - 0 = mc + 2 by omega, show ms + 100 - 0 = ms + 100 by omega]
        show mT g me_lw_law (d + 10) (mc + 2) (ms + 100) 891 [some (vr 14 0), some (vr 0 0), some (vr 10 0), some (vi x3)] [vi y110] h109 _
        refine tr_aload_n (pc := 891) 2 k_lw_law_891 rfl rfl ?_
        have hT := hv
        clear hv
        refine tr_callV (pc := 892) (d' := d + 9) (mc' := 0) (ms' := 0) [] k_lw_law_892 ca_fm_explain ml_lw_115 ii_fm_explain ⟨by decide, rfl⟩ pa_fm_explain (by omega) (by omega) (by omega) rfl (Nat.le_of_ble_eq_true rfl) (Nat.le_of_ble_eq_true rfl) hT (fun v h9 hv => ?_)
        clear hT
        obtain ⟨y112, rfl, hv⟩ := hv
        obtain ⟨h111, eh⟩ : ∃ z, z = h9 := ⟨_, rfl⟩
        subst eh
        obtain ⟨hskh111, hv⟩ := hv
        rw [show mc + 2 - 0 = mc + 2 by omega, show ms + 100 - 0 = ms + 100 by omega]
        show mT g me_lw_law (d + 10) (mc + 2) (ms + 100) 895 [some (vr 14 0), some (vr 0 0), some (vr 10 0), some (vi x3)] [vi y112, vi y110] h111 _
        refine tr_icmp_eq (pc := 895) 1094 k_lw_law_895 (by decide) (fun q => ?_) (fun q => ?_)
        · replace hv := hv.1 q
          refine tr_iinc (pc := 1094) (v := (x3 + 6)) k_lw_law_1094 rfl rfl (by decide) rfl ?_
          show mT g me_lw_law (d + 10) (mc + 2) (ms + 100) 1097 [some (vr 14 0), some (vr 0 0), some (vr 10 0), some (vi (x3 + 6))] [] h111 _
          refine tr_goto (pc := 1097) 18 k_lw_law_1097 (by decide) ?_
          exact mT.weaken hv (by omega) (by omega)
        · replace hv := hv.2 q
          refine tr_iconst (pc := 898) (v := 0) k_lw_law_898 (by decide) ?_
          refine tr_ireturn (pc := 899) k_lw_law_899 rfl rfl ?_
          exact hv
      · cases hi
        replace hv := hv.2.2.2.2.2.2.2.2.2.2.2.2.2.2.2.2.2.2.2.2.2.2.2.2.1 (mtoI (hx.trans (by decide)))
        refine tr_aload_n (pc := 900) 1 k_lw_law_900 rfl rfl ?_
        refine tr_aload_n (pc := 901) 0 k_lw_law_901 rfl rfl ?_
        refine tr_iload_n (pc := 902) 3 k_lw_law_902 rfl rfl ?_
        refine tr_iconst (pc := 903) (v := 1) k_lw_law_903 (by decide) ?_
        refine tr_iadd (pc := 904) k_lw_law_904 ?_
        refine tr_sald (pc := 905) k_lw_law_905 hv.1 ?_
        replace hv := hv.2
        have hT := hv
        clear hv
        refine tr_callV (pc := 906) (d' := d + 9) (mc' := 0) (ms' := 0) [vi (hI h 14 0 (x3 + (1 : Int32)).toNatClampNeg)] k_lw_law_906 ca_fn_explained ml_lw_116 ii_fn_explained ⟨by decide, rfl⟩ pa_fn_explained (by omega) (by omega) (by omega) rfl (Nat.le_of_ble_eq_true rfl) (Nat.le_of_ble_eq_true rfl) hT (fun v h9 hv => ?_)
        clear hT
        obtain ⟨y114, rfl, hv⟩ := hv
        obtain ⟨h113, eh⟩ : ∃ z, z = h9 := ⟨_, rfl⟩
        subst eh
        obtain ⟨hskh113, hv⟩ := hv
        rw [show mc + 2 - 0 = mc + 2 by omega, show ms + 100 - 0 = ms + 100 by omega]
        show mT g me_lw_law (d + 10) (mc + 2) (ms + 100) 909 [some (vr 14 0), some (vr 0 0), some (vr 10 0), some (vi x3)] [vi y114] h113 _
        refine tr_aload_n (pc := 909) 2 k_lw_law_909 rfl rfl ?_
        refine tr_aload_n (pc := 910) 0 k_lw_law_910 rfl rfl ?_
        refine tr_iload_n (pc := 911) 3 k_lw_law_911 rfl rfl ?_
        refine tr_iconst (pc := 912) (v := 1) k_lw_law_912 (by decide) ?_
        refine tr_iadd (pc := 913) k_lw_law_913 ?_
        refine tr_sald (pc := 914) k_lw_law_914 hv.1 ?_
        replace hv := hv.2
        have hT := hv
        clear hv
        refine tr_callV (pc := 915) (d' := d + 9) (mc' := 0) (ms' := 0) [vi (hI h113 14 0 (x3 + (1 : Int32)).toNatClampNeg)] k_lw_law_915 ca_fm_explained ml_lw_119 ii_fm_explained ⟨by decide, rfl⟩ pa_fm_explained (by omega) (by omega) (by omega) rfl (Nat.le_of_ble_eq_true rfl) (Nat.le_of_ble_eq_true rfl) hT (fun v h9 hv => ?_)
        clear hT
        obtain ⟨y116, rfl, hv⟩ := hv
        obtain ⟨h115, eh⟩ : ∃ z, z = h9 := ⟨_, rfl⟩
        subst eh
        obtain ⟨hskh115, hv⟩ := hv
        rw [show mc + 2 - 0 = mc + 2 by omega, show ms + 100 - 0 = ms + 100 by omega]
        show mT g me_lw_law (d + 10) (mc + 2) (ms + 100) 918 [some (vr 14 0), some (vr 0 0), some (vr 10 0), some (vi x3)] [vi y116, vi y114] h115 _
        refine tr_icmp_eq (pc := 918) 1094 k_lw_law_918 (by decide) (fun q => ?_) (fun q => ?_)
        · replace hv := hv.1 q
          refine tr_iinc (pc := 1094) (v := (x3 + 6)) k_lw_law_1094 rfl rfl (by decide) rfl ?_
          show mT g me_lw_law (d + 10) (mc + 2) (ms + 100) 1097 [some (vr 14 0), some (vr 0 0), some (vr 10 0), some (vi (x3 + 6))] [] h115 _
          refine tr_goto (pc := 1097) 18 k_lw_law_1097 (by decide) ?_
          exact mT.weaken hv (by omega) (by omega)
        · replace hv := hv.2 q
          refine tr_iconst (pc := 921) (v := 0) k_lw_law_921 (by decide) ?_
          refine tr_ireturn (pc := 922) k_lw_law_922 rfl rfl ?_
          exact hv
      · cases hi
        replace hv := hv.2.2.2.2.2.2.2.2.2.2.2.2.2.2.2.2.2.2.2.2.2.2.2.2.2.1 (mtoI (hx.trans (by decide)))
        refine tr_aload_n (pc := 923) 1 k_lw_law_923 rfl rfl ?_
        have hT := hv
        clear hv
        refine tr_callV (pc := 924) (d' := d + 9) (mc' := 0) (ms' := 0) [] k_lw_law_924 ca_fn_rivals ml_lw_120 ii_fn_rivals ⟨by decide, rfl⟩ pa_fn_rivals (by omega) (by omega) (by omega) rfl (Nat.le_of_ble_eq_true rfl) (Nat.le_of_ble_eq_true rfl) hT (fun v h9 hv => ?_)
        clear hT
        obtain ⟨y118, rfl, hv⟩ := hv
        obtain ⟨h117, eh⟩ : ∃ z, z = h9 := ⟨_, rfl⟩
        subst eh
        obtain ⟨hskh117, hv⟩ := hv
        rw [show mc + 2 - 0 = mc + 2 by omega, show ms + 100 - 0 = ms + 100 by omega]
        show mT g me_lw_law (d + 10) (mc + 2) (ms + 100) 927 [some (vr 14 0), some (vr 0 0), some (vr 10 0), some (vi x3)] [vi y118] h117 _
        refine tr_aload_n (pc := 927) 2 k_lw_law_927 rfl rfl ?_
        have hT := hv
        clear hv
        refine tr_callV (pc := 928) (d' := d + 9) (mc' := 0) (ms' := 0) [] k_lw_law_928 ca_fm_rivals ml_lw_123 ii_fm_rivals ⟨by decide, rfl⟩ pa_fm_rivals (by omega) (by omega) (by omega) rfl (Nat.le_of_ble_eq_true rfl) (Nat.le_of_ble_eq_true rfl) hT (fun v h9 hv => ?_)
        clear hT
        obtain ⟨y120, rfl, hv⟩ := hv
        obtain ⟨h119, eh⟩ : ∃ z, z = h9 := ⟨_, rfl⟩
        subst eh
        obtain ⟨hskh119, hv⟩ := hv
        rw [show mc + 2 - 0 = mc + 2 by omega, show ms + 100 - 0 = ms + 100 by omega]
        show mT g me_lw_law (d + 10) (mc + 2) (ms + 100) 931 [some (vr 14 0), some (vr 0 0), some (vr 10 0), some (vi x3)] [vi y120, vi y118] h119 _
        refine tr_icmp_eq (pc := 931) 1094 k_lw_law_931 (by decide) (fun q => ?_) (fun q => ?_)
        · replace hv := hv.1 q
          refine tr_iinc (pc := 1094) (v := (x3 + 6)) k_lw_law_1094 rfl rfl (by decide) rfl ?_
          show mT g me_lw_law (d + 10) (mc + 2) (ms + 100) 1097 [some (vr 14 0), some (vr 0 0), some (vr 10 0), some (vi (x3 + 6))] [] h119 _
          refine tr_goto (pc := 1097) 18 k_lw_law_1097 (by decide) ?_
          exact mT.weaken hv (by omega) (by omega)
        · replace hv := hv.2 q
          refine tr_iconst (pc := 934) (v := 0) k_lw_law_934 (by decide) ?_
          refine tr_ireturn (pc := 935) k_lw_law_935 rfl rfl ?_
          exact hv
      · cases hi
        replace hv := hv.2.2.2.2.2.2.2.2.2.2.2.2.2.2.2.2.2.2.2.2.2.2.2.2.2.2.1 (mtoI (hx.trans (by decide)))
        refine tr_aload_n (pc := 936) 1 k_lw_law_936 rfl rfl ?_
        refine tr_aload_n (pc := 937) 0 k_lw_law_937 rfl rfl ?_
        refine tr_iload_n (pc := 938) 3 k_lw_law_938 rfl rfl ?_
        refine tr_iconst (pc := 939) (v := 1) k_lw_law_939 (by decide) ?_
        refine tr_iadd (pc := 940) k_lw_law_940 ?_
        refine tr_sald (pc := 941) k_lw_law_941 hv.1 ?_
        replace hv := hv.2
        have hT := hv
        clear hv
        refine tr_callV (pc := 942) (d' := d + 9) (mc' := 0) (ms' := 0) [vi (hI h 14 0 (x3 + (1 : Int32)).toNatClampNeg)] k_lw_law_942 ca_fn_empty ml_lw_124 ii_fn_empty ⟨by decide, rfl⟩ pa_fn_empty (by omega) (by omega) (by omega) rfl (Nat.le_of_ble_eq_true rfl) (Nat.le_of_ble_eq_true rfl) hT (fun v h9 hv => ?_)
        clear hT
        obtain ⟨y122, rfl, hv⟩ := hv
        obtain ⟨h121, eh⟩ : ∃ z, z = h9 := ⟨_, rfl⟩
        subst eh
        obtain ⟨hskh121, hv⟩ := hv
        rw [show mc + 2 - 0 = mc + 2 by omega, show ms + 100 - 0 = ms + 100 by omega]
        show mT g me_lw_law (d + 10) (mc + 2) (ms + 100) 945 [some (vr 14 0), some (vr 0 0), some (vr 10 0), some (vi x3)] [vi y122] h121 _
        refine tr_aload_n (pc := 945) 2 k_lw_law_945 rfl rfl ?_
        refine tr_aload_n (pc := 946) 0 k_lw_law_946 rfl rfl ?_
        refine tr_iload_n (pc := 947) 3 k_lw_law_947 rfl rfl ?_
        refine tr_iconst (pc := 948) (v := 1) k_lw_law_948 (by decide) ?_
        refine tr_iadd (pc := 949) k_lw_law_949 ?_
        refine tr_sald (pc := 950) k_lw_law_950 hv.1 ?_
        replace hv := hv.2
        have hT := hv
        clear hv
        refine tr_callV (pc := 951) (d' := d + 9) (mc' := 0) (ms' := 0) [vi (hI h121 14 0 (x3 + (1 : Int32)).toNatClampNeg)] k_lw_law_951 ca_fm_empty ml_lw_127 ii_fm_empty ⟨by decide, rfl⟩ pa_fm_empty (by omega) (by omega) (by omega) rfl (Nat.le_of_ble_eq_true rfl) (Nat.le_of_ble_eq_true rfl) hT (fun v h9 hv => ?_)
        clear hT
        obtain ⟨y124, rfl, hv⟩ := hv
        obtain ⟨h123, eh⟩ : ∃ z, z = h9 := ⟨_, rfl⟩
        subst eh
        obtain ⟨hskh123, hv⟩ := hv
        rw [show mc + 2 - 0 = mc + 2 by omega, show ms + 100 - 0 = ms + 100 by omega]
        show mT g me_lw_law (d + 10) (mc + 2) (ms + 100) 954 [some (vr 14 0), some (vr 0 0), some (vr 10 0), some (vi x3)] [vi y124, vi y122] h123 _
        refine tr_icmp_eq (pc := 954) 1094 k_lw_law_954 (by decide) (fun q => ?_) (fun q => ?_)
        · replace hv := hv.1 q
          refine tr_iinc (pc := 1094) (v := (x3 + 6)) k_lw_law_1094 rfl rfl (by decide) rfl ?_
          show mT g me_lw_law (d + 10) (mc + 2) (ms + 100) 1097 [some (vr 14 0), some (vr 0 0), some (vr 10 0), some (vi (x3 + 6))] [] h123 _
          refine tr_goto (pc := 1097) 18 k_lw_law_1097 (by decide) ?_
          exact mT.weaken hv (by omega) (by omega)
        · replace hv := hv.2 q
          refine tr_iconst (pc := 957) (v := 0) k_lw_law_957 (by decide) ?_
          refine tr_ireturn (pc := 958) k_lw_law_958 rfl rfl ?_
          exact hv
      · cases hi
        replace hv := hv.2.2.2.2.2.2.2.2.2.2.2.2.2.2.2.2.2.2.2.2.2.2.2.2.2.2.2.1 (mtoI (hx.trans (by decide)))
        refine tr_aload_n (pc := 959) 1 k_lw_law_959 rfl rfl ?_
        refine tr_aload_n (pc := 960) 0 k_lw_law_960 rfl rfl ?_
        refine tr_iload_n (pc := 961) 3 k_lw_law_961 rfl rfl ?_
        refine tr_iconst (pc := 962) (v := 1) k_lw_law_962 (by decide) ?_
        refine tr_iadd (pc := 963) k_lw_law_963 ?_
        refine tr_sald (pc := 964) k_lw_law_964 hv.1 ?_
        replace hv := hv.2
        have hT := hv
        clear hv
        refine tr_callV (pc := 965) (d' := d + 9) (mc' := 0) (ms' := 0) [vi (hI h 14 0 (x3 + (1 : Int32)).toNatClampNeg)] k_lw_law_965 ca_fn_fill ml_lw_128 ii_fn_fill ⟨by decide, rfl⟩ pa_fn_fill (by omega) (by omega) (by omega) rfl (Nat.le_of_ble_eq_true rfl) (Nat.le_of_ble_eq_true rfl) hT (fun v h9 hv => ?_)
        clear hT
        obtain ⟨y126, rfl, hv⟩ := hv
        obtain ⟨h125, eh⟩ : ∃ z, z = h9 := ⟨_, rfl⟩
        subst eh
        obtain ⟨hskh125, hv⟩ := hv
        rw [show mc + 2 - 0 = mc + 2 by omega, show ms + 100 - 0 = ms + 100 by omega]
        show mT g me_lw_law (d + 10) (mc + 2) (ms + 100) 968 [some (vr 14 0), some (vr 0 0), some (vr 10 0), some (vi x3)] [vi y126] h125 _
        refine tr_aload_n (pc := 968) 2 k_lw_law_968 rfl rfl ?_
        refine tr_aload_n (pc := 969) 0 k_lw_law_969 rfl rfl ?_
        refine tr_iload_n (pc := 970) 3 k_lw_law_970 rfl rfl ?_
        refine tr_iconst (pc := 971) (v := 1) k_lw_law_971 (by decide) ?_
        refine tr_iadd (pc := 972) k_lw_law_972 ?_
        refine tr_sald (pc := 973) k_lw_law_973 hv.1 ?_
        replace hv := hv.2
        have hT := hv
        clear hv
        refine tr_callV (pc := 974) (d' := d + 9) (mc' := 0) (ms' := 0) [vi (hI h125 14 0 (x3 + (1 : Int32)).toNatClampNeg)] k_lw_law_974 ca_fm_fill ml_lw_131 ii_fm_fill ⟨by decide, rfl⟩ pa_fm_fill (by omega) (by omega) (by omega) rfl (Nat.le_of_ble_eq_true rfl) (Nat.le_of_ble_eq_true rfl) hT (fun v h9 hv => ?_)
        clear hT
        obtain ⟨y128, rfl, hv⟩ := hv
        obtain ⟨h127, eh⟩ : ∃ z, z = h9 := ⟨_, rfl⟩
        subst eh
        obtain ⟨hskh127, hv⟩ := hv
        rw [show mc + 2 - 0 = mc + 2 by omega, show ms + 100 - 0 = ms + 100 by omega]
        show mT g me_lw_law (d + 10) (mc + 2) (ms + 100) 977 [some (vr 14 0), some (vr 0 0), some (vr 10 0), some (vi x3)] [vi y128, vi y126] h127 _
        refine tr_icmp_eq (pc := 977) 1094 k_lw_law_977 (by decide) (fun q => ?_) (fun q => ?_)
        · replace hv := hv.1 q
          refine tr_iinc (pc := 1094) (v := (x3 + 6)) k_lw_law_1094 rfl rfl (by decide) rfl ?_
          show mT g me_lw_law (d + 10) (mc + 2) (ms + 100) 1097 [some (vr 14 0), some (vr 0 0), some (vr 10 0), some (vi (x3 + 6))] [] h127 _
          refine tr_goto (pc := 1097) 18 k_lw_law_1097 (by decide) ?_
          exact mT.weaken hv (by omega) (by omega)
        · replace hv := hv.2 q
          refine tr_iconst (pc := 980) (v := 0) k_lw_law_980 (by decide) ?_
          refine tr_ireturn (pc := 981) k_lw_law_981 rfl rfl ?_
          exact hv
      · cases hi
        replace hv := hv.2.2.2.2.2.2.2.2.2.2.2.2.2.2.2.2.2.2.2.2.2.2.2.2.2.2.2.2.1 (mtoI (hx.trans (by decide)))
        refine tr_aload_n (pc := 982) 1 k_lw_law_982 rfl rfl ?_
        refine tr_aload_n (pc := 983) 0 k_lw_law_983 rfl rfl ?_
        refine tr_iload_n (pc := 984) 3 k_lw_law_984 rfl rfl ?_
        refine tr_iconst (pc := 985) (v := 1) k_lw_law_985 (by decide) ?_
        refine tr_iadd (pc := 986) k_lw_law_986 ?_
        refine tr_sald (pc := 987) k_lw_law_987 hv.1 ?_
        replace hv := hv.2
        have hT := hv
        clear hv
        refine tr_callV (pc := 988) (d' := d + 9) (mc' := 0) (ms' := 0) [vi (hI h 14 0 (x3 + (1 : Int32)).toNatClampNeg)] k_lw_law_988 ca_fn_order ml_lw_132 ii_fn_order ⟨by decide, rfl⟩ pa_fn_order (by omega) (by omega) (by omega) rfl (Nat.le_of_ble_eq_true rfl) (Nat.le_of_ble_eq_true rfl) hT (fun v h9 hv => ?_)
        clear hT
        obtain ⟨y130, rfl, hv⟩ := hv
        obtain ⟨h129, eh⟩ : ∃ z, z = h9 := ⟨_, rfl⟩
        subst eh
        obtain ⟨hskh129, hv⟩ := hv
        rw [show mc + 2 - 0 = mc + 2 by omega, show ms + 100 - 0 = ms + 100 by omega]
        show mT g me_lw_law (d + 10) (mc + 2) (ms + 100) 991 [some (vr 14 0), some (vr 0 0), some (vr 10 0), some (vi x3)] [vi y130] h129 _
        refine tr_aload_n (pc := 991) 2 k_lw_law_991 rfl rfl ?_
        refine tr_aload_n (pc := 992) 0 k_lw_law_992 rfl rfl ?_
        refine tr_iload_n (pc := 993) 3 k_lw_law_993 rfl rfl ?_
        refine tr_iconst (pc := 994) (v := 1) k_lw_law_994 (by decide) ?_
        refine tr_iadd (pc := 995) k_lw_law_995 ?_
        refine tr_sald (pc := 996) k_lw_law_996 hv.1 ?_
        replace hv := hv.2
        have hT := hv
        clear hv
        refine tr_callV (pc := 997) (d' := d + 9) (mc' := 0) (ms' := 0) [vi (hI h129 14 0 (x3 + (1 : Int32)).toNatClampNeg)] k_lw_law_997 ca_fm_order ml_lw_135 ii_fm_order ⟨by decide, rfl⟩ pa_fm_order (by omega) (by omega) (by omega) rfl (Nat.le_of_ble_eq_true rfl) (Nat.le_of_ble_eq_true rfl) hT (fun v h9 hv => ?_)
        clear hT
        obtain ⟨y132, rfl, hv⟩ := hv
        obtain ⟨h131, eh⟩ : ∃ z, z = h9 := ⟨_, rfl⟩
        subst eh
        obtain ⟨hskh131, hv⟩ := hv
        rw [show mc + 2 - 0 = mc + 2 by omega, show ms + 100 - 0 = ms + 100 by omega]
        show mT g me_lw_law (d + 10) (mc + 2) (ms + 100) 1000 [some (vr 14 0), some (vr 0 0), some (vr 10 0), some (vi x3)] [vi y132, vi y130] h131 _
        refine tr_icmp_eq (pc := 1000) 1094 k_lw_law_1000 (by decide) (fun q => ?_) (fun q => ?_)
        · replace hv := hv.1 q
          refine tr_iinc (pc := 1094) (v := (x3 + 6)) k_lw_law_1094 rfl rfl (by decide) rfl ?_
          show mT g me_lw_law (d + 10) (mc + 2) (ms + 100) 1097 [some (vr 14 0), some (vr 0 0), some (vr 10 0), some (vi (x3 + 6))] [] h131 _
          refine tr_goto (pc := 1097) 18 k_lw_law_1097 (by decide) ?_
          exact mT.weaken hv (by omega) (by omega)
        · replace hv := hv.2 q
          refine tr_iconst (pc := 1003) (v := 0) k_lw_law_1003 (by decide) ?_
          refine tr_ireturn (pc := 1004) k_lw_law_1004 rfl rfl ?_
          exact hv
      · cases hi
        replace hv := hv.2.2.2.2.2.2.2.2.2.2.2.2.2.2.2.2.2.2.2.2.2.2.2.2.2.2.2.2.2.1 (mtoI (hx.trans (by decide)))
        refine tr_aload_n (pc := 1005) 1 k_lw_law_1005 rfl rfl ?_
        refine tr_aload_n (pc := 1006) 0 k_lw_law_1006 rfl rfl ?_
        refine tr_iload_n (pc := 1007) 3 k_lw_law_1007 rfl rfl ?_
        refine tr_iconst (pc := 1008) (v := 1) k_lw_law_1008 (by decide) ?_
        refine tr_iadd (pc := 1009) k_lw_law_1009 ?_
        refine tr_sald (pc := 1010) k_lw_law_1010 hv.1 ?_
        replace hv := hv.2
        refine tr_aload_n (pc := 1011) 0 k_lw_law_1011 rfl rfl ?_
        refine tr_iload_n (pc := 1012) 3 k_lw_law_1012 rfl rfl ?_
        refine tr_iconst (pc := 1013) (v := 2) k_lw_law_1013 (by decide) ?_
        refine tr_iadd (pc := 1014) k_lw_law_1014 ?_
        refine tr_sald (pc := 1015) k_lw_law_1015 hv.1 ?_
        replace hv := hv.2
        have hT := hv
        clear hv
        refine tr_callV (pc := 1016) (d' := d + 9) (mc' := 0) (ms' := 0) [vi (hI h 14 0 (x3 + (1 : Int32)).toNatClampNeg), vi (hI h 14 0 (x3 + (2 : Int32)).toNatClampNeg)] k_lw_law_1016 ca_fn_tankOf ml_lw_136 ii_fn_tankOf ⟨by decide, rfl⟩ pa_fn_tankOf (by omega) (by omega) (by omega) rfl (Nat.le_of_ble_eq_true rfl) (Nat.le_of_ble_eq_true rfl) hT (fun v h9 hv => ?_)
        clear hT
        obtain ⟨y134, rfl, hv⟩ := hv
        obtain ⟨h133, eh⟩ : ∃ z, z = h9 := ⟨_, rfl⟩
        subst eh
        obtain ⟨hskh133, hv⟩ := hv
        rw [show mc + 2 - 0 = mc + 2 by omega, show ms + 100 - 0 = ms + 100 by omega]
        show mT g me_lw_law (d + 10) (mc + 2) (ms + 100) 1019 [some (vr 14 0), some (vr 0 0), some (vr 10 0), some (vi x3)] [vi y134] h133 _
        refine tr_aload_n (pc := 1019) 2 k_lw_law_1019 rfl rfl ?_
        refine tr_aload_n (pc := 1020) 0 k_lw_law_1020 rfl rfl ?_
        refine tr_iload_n (pc := 1021) 3 k_lw_law_1021 rfl rfl ?_
        refine tr_iconst (pc := 1022) (v := 1) k_lw_law_1022 (by decide) ?_
        refine tr_iadd (pc := 1023) k_lw_law_1023 ?_
        refine tr_sald (pc := 1024) k_lw_law_1024 hv.1 ?_
        replace hv := hv.2
        refine tr_aload_n (pc := 1025) 0 k_lw_law_1025 rfl rfl ?_
        refine tr_iload_n (pc := 1026) 3 k_lw_law_1026 rfl rfl ?_
        refine tr_iconst (pc := 1027) (v := 2) k_lw_law_1027 (by decide) ?_
        refine tr_iadd (pc := 1028) k_lw_law_1028 ?_
        refine tr_sald (pc := 1029) k_lw_law_1029 hv.1 ?_
        replace hv := hv.2
        have hT := hv
        clear hv
        refine tr_callV (pc := 1030) (d' := d + 9) (mc' := 0) (ms' := 0) [vi (hI h133 14 0 (x3 + (1 : Int32)).toNatClampNeg), vi (hI h133 14 0 (x3 + (2 : Int32)).toNatClampNeg)] k_lw_law_1030 ca_fm_tankOf ml_lw_139 ii_fm_tankOf ⟨by decide, rfl⟩ pa_fm_tankOf (by omega) (by omega) (by omega) rfl (Nat.le_of_ble_eq_true rfl) (Nat.le_of_ble_eq_true rfl) hT (fun v h9 hv => ?_)
        clear hT
        obtain ⟨y136, rfl, hv⟩ := hv
        obtain ⟨h135, eh⟩ : ∃ z, z = h9 := ⟨_, rfl⟩
        subst eh
        obtain ⟨hskh135, hv⟩ := hv
        rw [show mc + 2 - 0 = mc + 2 by omega, show ms + 100 - 0 = ms + 100 by omega]
        show mT g me_lw_law (d + 10) (mc + 2) (ms + 100) 1033 [some (vr 14 0), some (vr 0 0), some (vr 10 0), some (vi x3)] [vi y136, vi y134] h135 _
        refine tr_icmp_eq (pc := 1033) 1094 k_lw_law_1033 (by decide) (fun q => ?_) (fun q => ?_)
        · replace hv := hv.1 q
          refine tr_iinc (pc := 1094) (v := (x3 + 6)) k_lw_law_1094 rfl rfl (by decide) rfl ?_
          show mT g me_lw_law (d + 10) (mc + 2) (ms + 100) 1097 [some (vr 14 0), some (vr 0 0), some (vr 10 0), some (vi (x3 + 6))] [] h135 _
          refine tr_goto (pc := 1097) 18 k_lw_law_1097 (by decide) ?_
          exact mT.weaken hv (by omega) (by omega)
        · replace hv := hv.2 q
          refine tr_iconst (pc := 1036) (v := 0) k_lw_law_1036 (by decide) ?_
          refine tr_ireturn (pc := 1037) k_lw_law_1037 rfl rfl ?_
          exact hv
      · cases hi
        replace hv := hv.2.2.2.2.2.2.2.2.2.2.2.2.2.2.2.2.2.2.2.2.2.2.2.2.2.2.2.2.2.2.1 (mtoI (hx.trans (by decide)))
        refine tr_aload_n (pc := 1038) 1 k_lw_law_1038 rfl rfl ?_
        refine tr_aload_n (pc := 1039) 0 k_lw_law_1039 rfl rfl ?_
        refine tr_iload_n (pc := 1040) 3 k_lw_law_1040 rfl rfl ?_
        refine tr_iconst (pc := 1041) (v := 1) k_lw_law_1041 (by decide) ?_
        refine tr_iadd (pc := 1042) k_lw_law_1042 ?_
        refine tr_sald (pc := 1043) k_lw_law_1043 hv.1 ?_
        replace hv := hv.2
        refine tr_aload_n (pc := 1044) 0 k_lw_law_1044 rfl rfl ?_
        refine tr_iload_n (pc := 1045) 3 k_lw_law_1045 rfl rfl ?_
        refine tr_iconst (pc := 1046) (v := 2) k_lw_law_1046 (by decide) ?_
        refine tr_iadd (pc := 1047) k_lw_law_1047 ?_
        refine tr_sald (pc := 1048) k_lw_law_1048 hv.1 ?_
        replace hv := hv.2
        have hT := hv
        clear hv
        refine tr_callV (pc := 1049) (d' := d + 9) (mc' := 0) (ms' := 0) [vi (hI h 14 0 (x3 + (1 : Int32)).toNatClampNeg), vi (hI h 14 0 (x3 + (2 : Int32)).toNatClampNeg)] k_lw_law_1049 ca_fn_jointOf ml_lw_140 ii_fn_jointOf ⟨by decide, rfl⟩ pa_fn_jointOf (by omega) (by omega) (by omega) rfl (Nat.le_of_ble_eq_true rfl) (Nat.le_of_ble_eq_true rfl) hT (fun v h9 hv => ?_)
        clear hT
        obtain ⟨y138, rfl, hv⟩ := hv
        obtain ⟨h137, eh⟩ : ∃ z, z = h9 := ⟨_, rfl⟩
        subst eh
        obtain ⟨hskh137, hv⟩ := hv
        rw [show mc + 2 - 0 = mc + 2 by omega, show ms + 100 - 0 = ms + 100 by omega]
        show mT g me_lw_law (d + 10) (mc + 2) (ms + 100) 1052 [some (vr 14 0), some (vr 0 0), some (vr 10 0), some (vi x3)] [vi y138] h137 _
        refine tr_aload_n (pc := 1052) 2 k_lw_law_1052 rfl rfl ?_
        refine tr_aload_n (pc := 1053) 0 k_lw_law_1053 rfl rfl ?_
        refine tr_iload_n (pc := 1054) 3 k_lw_law_1054 rfl rfl ?_
        refine tr_iconst (pc := 1055) (v := 1) k_lw_law_1055 (by decide) ?_
        refine tr_iadd (pc := 1056) k_lw_law_1056 ?_
        refine tr_sald (pc := 1057) k_lw_law_1057 hv.1 ?_
        replace hv := hv.2
        refine tr_aload_n (pc := 1058) 0 k_lw_law_1058 rfl rfl ?_
        refine tr_iload_n (pc := 1059) 3 k_lw_law_1059 rfl rfl ?_
        refine tr_iconst (pc := 1060) (v := 2) k_lw_law_1060 (by decide) ?_
        refine tr_iadd (pc := 1061) k_lw_law_1061 ?_
        refine tr_sald (pc := 1062) k_lw_law_1062 hv.1 ?_
        replace hv := hv.2
        have hT := hv
        clear hv
        refine tr_callV (pc := 1063) (d' := d + 9) (mc' := 0) (ms' := 0) [vi (hI h137 14 0 (x3 + (1 : Int32)).toNatClampNeg), vi (hI h137 14 0 (x3 + (2 : Int32)).toNatClampNeg)] k_lw_law_1063 ca_fm_jointOf ml_lw_143 ii_fm_jointOf ⟨by decide, rfl⟩ pa_fm_jointOf (by omega) (by omega) (by omega) rfl (Nat.le_of_ble_eq_true rfl) (Nat.le_of_ble_eq_true rfl) hT (fun v h9 hv => ?_)
        clear hT
        obtain ⟨y140, rfl, hv⟩ := hv
        obtain ⟨h139, eh⟩ : ∃ z, z = h9 := ⟨_, rfl⟩
        subst eh
        obtain ⟨hskh139, hv⟩ := hv
        rw [show mc + 2 - 0 = mc + 2 by omega, show ms + 100 - 0 = ms + 100 by omega]
        show mT g me_lw_law (d + 10) (mc + 2) (ms + 100) 1066 [some (vr 14 0), some (vr 0 0), some (vr 10 0), some (vi x3)] [vi y140, vi y138] h139 _
        refine tr_icmp_eq (pc := 1066) 1094 k_lw_law_1066 (by decide) (fun q => ?_) (fun q => ?_)
        · replace hv := hv.1 q
          refine tr_iinc (pc := 1094) (v := (x3 + 6)) k_lw_law_1094 rfl rfl (by decide) rfl ?_
          show mT g me_lw_law (d + 10) (mc + 2) (ms + 100) 1097 [some (vr 14 0), some (vr 0 0), some (vr 10 0), some (vi (x3 + 6))] [] h139 _
          refine tr_goto (pc := 1097) 18 k_lw_law_1097 (by decide) ?_
          exact mT.weaken hv (by omega) (by omega)
        · replace hv := hv.2 q
          refine tr_iconst (pc := 1069) (v := 0) k_lw_law_1069 (by decide) ?_
          refine tr_ireturn (pc := 1070) k_lw_law_1070 rfl rfl ?_
          exact hv
      · cases hi
        replace hv := hv.2.2.2.2.2.2.2.2.2.2.2.2.2.2.2.2.2.2.2.2.2.2.2.2.2.2.2.2.2.2.2.1 (mtoI (hx.trans (by decide)))
        refine tr_aload_n (pc := 1071) 1 k_lw_law_1071 rfl rfl ?_
        refine tr_aload_n (pc := 1072) 0 k_lw_law_1072 rfl rfl ?_
        refine tr_iload_n (pc := 1073) 3 k_lw_law_1073 rfl rfl ?_
        refine tr_iconst (pc := 1074) (v := 1) k_lw_law_1074 (by decide) ?_
        refine tr_iadd (pc := 1075) k_lw_law_1075 ?_
        refine tr_sald (pc := 1076) k_lw_law_1076 hv.1 ?_
        replace hv := hv.2
        have hT := hv
        clear hv
        refine tr_callV (pc := 1077) (d' := d + 9) (mc' := 0) (ms' := 0) [vi (hI h 14 0 (x3 + (1 : Int32)).toNatClampNeg)] k_lw_law_1077 ca_fn_count ml_lw_144 ii_fn_count ⟨by decide, rfl⟩ pa_fn_count (by omega) (by omega) (by omega) rfl (Nat.le_of_ble_eq_true rfl) (Nat.le_of_ble_eq_true rfl) hT (fun v h9 hv => ?_)
        clear hT
        obtain ⟨y142, rfl, hv⟩ := hv
        obtain ⟨h141, eh⟩ : ∃ z, z = h9 := ⟨_, rfl⟩
        subst eh
        obtain ⟨hskh141, hv⟩ := hv
        rw [show mc + 2 - 0 = mc + 2 by omega, show ms + 100 - 0 = ms + 100 by omega]
        show mT g me_lw_law (d + 10) (mc + 2) (ms + 100) 1080 [some (vr 14 0), some (vr 0 0), some (vr 10 0), some (vi x3)] [vi y142] h141 _
        refine tr_aload_n (pc := 1080) 2 k_lw_law_1080 rfl rfl ?_
        refine tr_aload_n (pc := 1081) 0 k_lw_law_1081 rfl rfl ?_
        refine tr_iload_n (pc := 1082) 3 k_lw_law_1082 rfl rfl ?_
        refine tr_iconst (pc := 1083) (v := 1) k_lw_law_1083 (by decide) ?_
        refine tr_iadd (pc := 1084) k_lw_law_1084 ?_
        refine tr_sald (pc := 1085) k_lw_law_1085 hv.1 ?_
        replace hv := hv.2
        have hT := hv
        clear hv
        refine tr_callV (pc := 1086) (d' := d + 9) (mc' := 0) (ms' := 0) [vi (hI h141 14 0 (x3 + (1 : Int32)).toNatClampNeg)] k_lw_law_1086 ca_fm_count ml_lw_147 ii_fm_count ⟨by decide, rfl⟩ pa_fm_count (by omega) (by omega) (by omega) rfl (Nat.le_of_ble_eq_true rfl) (Nat.le_of_ble_eq_true rfl) hT (fun v h9 hv => ?_)
        clear hT
        obtain ⟨y144, rfl, hv⟩ := hv
        obtain ⟨h143, eh⟩ : ∃ z, z = h9 := ⟨_, rfl⟩
        subst eh
        obtain ⟨hskh143, hv⟩ := hv
        rw [show mc + 2 - 0 = mc + 2 by omega, show ms + 100 - 0 = ms + 100 by omega]
        show mT g me_lw_law (d + 10) (mc + 2) (ms + 100) 1089 [some (vr 14 0), some (vr 0 0), some (vr 10 0), some (vi x3)] [vi y144, vi y142] h143 _
        refine tr_icmp_eq (pc := 1089) 1094 k_lw_law_1089 (by decide) (fun q => ?_) (fun q => ?_)
        · replace hv := hv.1 q
          refine tr_iinc (pc := 1094) (v := (x3 + 6)) k_lw_law_1094 rfl rfl (by decide) rfl ?_
          show mT g me_lw_law (d + 10) (mc + 2) (ms + 100) 1097 [some (vr 14 0), some (vr 0 0), some (vr 10 0), some (vi (x3 + 6))] [] h143 _
          refine tr_goto (pc := 1097) 18 k_lw_law_1097 (by decide) ?_
          exact mT.weaken hv (by omega) (by omega)
        · replace hv := hv.2 q
          refine tr_iconst (pc := 1092) (v := 0) k_lw_law_1092 (by decide) ?_
          refine tr_ireturn (pc := 1093) k_lw_law_1093 rfl rfl ?_
          exact hv
      · exact absurd hi (by simp)
    · replace hv := hv.2.2.2.2.2.2.2.2.2.2.2.2.2.2.2.2.2.2.2.2.2.2.2.2.2.2.2.2.2.2.2.2 (fun e => hx 0 (by decide) (by rw [e]; decide)) (fun e => hx 1 (by decide) (by rw [e]; decide)) (fun e => hx 2 (by decide) (by rw [e]; decide)) (fun e => hx 3 (by decide) (by rw [e]; decide)) (fun e => hx 4 (by decide) (by rw [e]; decide)) (fun e => hx 5 (by decide) (by rw [e]; decide)) (fun e => hx 6 (by decide) (by rw [e]; decide)) (fun e => hx 7 (by decide) (by rw [e]; decide)) (fun e => hx 8 (by decide) (by rw [e]; decide)) (fun e => hx 9 (by decide) (by rw [e]; decide)) (fun e => hx 10 (by decide) (by rw [e]; decide)) (fun e => hx 11 (by decide) (by rw [e]; decide)) (fun e => hx 12 (by decide) (by rw [e]; decide)) (fun e => hx 13 (by decide) (by rw [e]; decide)) (fun e => hx 14 (by decide) (by rw [e]; decide)) (fun e => hx 15 (by decide) (by rw [e]; decide)) (fun e => hx 16 (by decide) (by rw [e]; decide)) (fun e => hx 17 (by decide) (by rw [e]; decide)) (fun e => hx 18 (by decide) (by rw [e]; decide)) (fun e => hx 19 (by decide) (by rw [e]; decide)) (fun e => hx 20 (by decide) (by rw [e]; decide)) (fun e => hx 21 (by decide) (by rw [e]; decide)) (fun e => hx 22 (by decide) (by rw [e]; decide)) (fun e => hx 23 (by decide) (by rw [e]; decide)) (fun e => hx 24 (by decide) (by rw [e]; decide)) (fun e => hx 25 (by decide) (by rw [e]; decide)) (fun e => hx 26 (by decide) (by rw [e]; decide)) (fun e => hx 27 (by decide) (by rw [e]; decide)) (fun e => hx 28 (by decide) (by rw [e]; decide)) (fun e => hx 29 (by decide) (by rw [e]; decide)) (fun e => hx 30 (by decide) (by rw [e]; decide)) (fun e => hx 31 (by decide) (by rw [e]; decide))
      refine tr_iinc (pc := 1094) (v := (x3 + 6)) k_lw_law_1094 rfl rfl (by decide) rfl ?_
      show mT g me_lw_law (d + 10) (mc + 2) (ms + 100) 1097 [some (vr 14 0), some (vr 0 0), some (vr 10 0), some (vi (x3 + 6))] [] h _
      refine tr_goto (pc := 1097) 18 k_lw_law_1097 (by decide) ?_
      exact mT.weaken hv (by omega) (by omega)
