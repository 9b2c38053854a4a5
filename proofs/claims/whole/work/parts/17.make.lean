/-! printed by my own program: the constructors, from the start's heap on; all numbers of cells are known -/
section TR
variable {g : mG} {m : mMe} {d mc ms pc : Nat} {L : List (Option mV)} {st : List mV} {h : mH} {Q : Option mV → mH → Prop}
theorem tr_newx {k w n idx : Nat} (hc : decode m.2.1 pc = .ok (.new idx, 3)) (hk : k < 11) (hw : (mkd k).2.2 = w) (hl : Cond.classLink m.1.cls idx (mkd k).1 ∈ mTb) (hi : Cond.instantiable (mkd k).1 (mkd k).2.2 ∈ mTb) (hz : Cond.initialized (mkd k).1 ∈ mTb) (hn : hC h k = n)
    (kk : mT g m d mc ms (pc + 3) L (vr k n :: st) (newC h k 0) Q) : mT g m d (mc + 1) (ms + w) pc L st h Q := tr_new hc hk hw hl hi hz (by rw [hn]; exact kk)
theorem tr_newIx {n : Int32} {w n0 : Nat} (hc : decode m.2.1 pc = .ok (.newarray .int, 2)) (h0 : ¬ n < 0) (hw : n.toNatClampNeg = w) (hb : w ≤ 1000000) (hl : Cond.arrayClass .int ∈ mTb) (hn : hC h 11 = n0) (kk : mT g m d mc ms (pc + 2) L (vr 11 n0 :: st) (newC h 11 w) Q) : mT g m d (mc + 1) (ms + w) pc L (vi n :: st) h Q := tr_newI hc h0 hw hb hl (by rw [hn]; exact kk)
theorem tr_newZx {n : Int32} {w n0 : Nat} (hc : decode m.2.1 pc = .ok (.newarray .boolean, 2)) (h0 : ¬ n < 0) (hw : n.toNatClampNeg = w) (hb : w ≤ 1000000) (hl : Cond.arrayClass .boolean ∈ mTb) (hn : hC h 12 = n0) (kk : mT g m d mc ms (pc + 2) L (vr 12 n0 :: st) (newC h 12 w) Q) : mT g m d (mc + 1) (ms + w) pc L (vi n :: st) h Q := tr_newZ hc h0 hw hb hl (by rw [hn]; exact kk)
end TR
def mzAS (g : mG) : mH := newC (mh0 g) 0 0
def mzA0 (g : mG) : mH := (setP (setI (newC (newC (mzAS g) 1 0) 2 0) 2 0 2 (0 : Int32)) 2 0 0 (some (15, 0)))
def mzA1 (g : mG) : mH := (setP (setI (newC (setP (mzA0 g) 1 0 0 (some (2, 0))) 2 0) 2 1 2 (0 : Int32)) 2 1 0 (some (15, 0)))
def mzA2 (g : mG) : mH := (setP (setI (newC (setP (mzA1 g) 1 0 1 (some (2, 1))) 2 0) 2 2 2 (0 : Int32)) 2 2 0 (some (15, 0)))
def mzA3 (g : mG) : mH := (setI (newC (setP (setP (mzA2 g) 1 0 2 (some (2, 2))) 0 0 0 (some (1, 0))) 2 0) 2 3 2 (0 : Int32))
def mzA4 (g : mG) : mH := (setP (newC (setP (setP (mzA3 g) 2 3 0 (some (15, 0))) 0 0 1 (some (2, 3))) 3 0) 3 0 0 (some (1, 0)))
def mzA5 (g : mG) : mH := (setP (newC (setP (setP (mzA4 g) 3 0 1 (some (2, 3))) 0 0 2 (some (3, 0))) 4 0) 4 0 0 (some (1, 0)))
def mzA6 (g : mG) : mH := (newC (setP (newC (setP (mzA5 g) 4 0 1 (some (2, 3))) 11 576) 4 0 2 (some (11, 0))) 11 576)
def mzA7 (g : mG) : mH := (newC (setP (newC (setP (mzA6 g) 4 0 3 (some (11, 1))) 11 576) 4 0 4 (some (11, 2))) 11 576)
def mzA8 (g : mG) : mH := (setP (setP (newC (setP (mzA7 g) 4 0 5 (some (11, 3))) 11 576) 4 0 6 (some (11, 4))) 0 0 3 (some (4, 0)))
def mzA9 (g : mG) : mH := (newC (setP (setP (newC (mzA8 g) 5 0) 5 0 0 (some (1, 0))) 0 0 4 (some (5, 0))) 11 7)
def mzA (g : mG) : mH := (setI (setP (mzA9 g) 0 0 5 (some (11, 5))) 0 0 6 (1 : Int32))
def mzBS (g : mG) : mH := newC (mzA g) 10 0
def mzB0 (g : mG) : mH := (newC (setI (setP (newC (mzBS g) 11 7) 10 0 0 (some (11, 6))) 10 0 6 (1 : Int32)) 11 4)
def mzB1 (g : mG) : mH := (newC (setP (newC (setP (mzB0 g) 10 0 8 (some (11, 7))) 11 4) 10 0 9 (some (11, 8))) 11 4)
def mzB2 (g : mG) : mH := (newC (setP (newC (setP (mzB1 g) 10 0 10 (some (11, 9))) 11 4) 10 0 11 (some (11, 10))) 11 4)
def mzB3 (g : mG) : mH := (newC (setP (newC (setP (mzB2 g) 10 0 12 (some (11, 11))) 11 4) 10 0 13 (some (11, 12))) 11 4)
def mzB4 (g : mG) : mH := (newC (setP (newC (setP (mzB3 g) 10 0 14 (some (11, 13))) 11 30) 10 0 15 (some (11, 14))) 11 30)
def mzB5 (g : mG) : mH := (newC (setP (newC (setP (mzB4 g) 10 0 16 (some (11, 15))) 11 30) 10 0 17 (some (11, 16))) 11 30)
def mzB6 (g : mG) : mH := (newC (setP (newC (setP (mzB5 g) 10 0 18 (some (11, 17))) 11 30) 10 0 19 (some (11, 18))) 11 30)
def mzB7 (g : mG) : mH := (newC (setP (newC (setP (mzB6 g) 10 0 20 (some (11, 19))) 11 30) 10 0 21 (some (11, 20))) 12 30)
def mzB8 (g : mG) : mH := (newC (setP (newC (setP (mzB7 g) 10 0 22 (some (12, 0))) 11 24) 10 0 23 (some (11, 21))) 11 24)
def mzB9 (g : mG) : mH := (newC (setP (newC (setP (mzB8 g) 10 0 24 (some (11, 22))) 11 24) 10 0 25 (some (11, 23))) 12 24)
def mzB10 (g : mG) : mH := (newC (setP (newC (setP (mzB9 g) 10 0 26 (some (12, 1))) 11 12) 10 0 27 (some (11, 24))) 11 12)
def mzB11 (g : mG) : mH := (newC (setP (newC (setP (mzB10 g) 10 0 28 (some (11, 25))) 11 12) 10 0 29 (some (11, 26))) 11 12)
def mzB12 (g : mG) : mH := (newC (setP (newC (setP (mzB11 g) 10 0 30 (some (11, 27))) 11 30) 10 0 31 (some (11, 28))) 11 30)
def mzB13 (g : mG) : mH := (newC (setP (newC (setP (mzB12 g) 10 0 32 (some (11, 29))) 11 30) 10 0 33 (some (11, 30))) 11 30)
def mzB14 (g : mG) : mH := (newC (setP (newC (setP (mzB13 g) 10 0 34 (some (11, 31))) 11 4) 10 0 35 (some (11, 32))) 11 4)
def mzB15 (g : mG) : mH := (newC (setP (newC (setP (mzB14 g) 10 0 36 (some (11, 33))) 11 4) 10 0 37 (some (11, 34))) 12 24)
def mzB16 (g : mG) : mH := (newC (setP (newC (setP (mzB15 g) 10 0 38 (some (12, 2))) 11 30) 10 0 39 (some (11, 35))) 11 576)
def mzB17 (g : mG) : mH := (newC (setP (newC (setP (mzB16 g) 10 0 49 (some (11, 36))) 11 576) 10 0 50 (some (11, 37))) 11 576)
def mzB18 (g : mG) : mH := (newC (setP (newC (setP (mzB17 g) 10 0 51 (some (11, 38))) 11 60) 10 0 53 (some (11, 39))) 12 60)
def mzB (g : mG) : mH := (setP (newC (setP (mzB18 g) 10 0 54 (some (12, 3))) 12 30) 10 0 62 (some (12, 4)))
theorem v_fn_init_0 {g : mG} {d : Nat}  {Q : Option mV → mH → Prop} (hv : Q none (setI (setP (mzA9 g) 0 0 5 (some (11, 5))) 0 0 6 (1 : Int32))) : mT g me_fn_init (d + 5) 14 3050 0 [some (vr 0 0)] [] (mzAS g) Q := by
  refine tr_aload_n (pc := 0) 0 k_fn_init_0 rfl rfl ?_
  refine tr_obj (pc := 1) k_fn_init_1 ml_fn_3 (by omega) (Nat.le_of_ble_eq_true rfl) ?_
  refine tr_aload_n (pc := 4) 0 k_fn_init_4 rfl rfl ?_
  refine tr_newx (pc := 5) (k := 1) (w := 5) (n := 0) (mc := 13) (ms := 3045) k_fn_init_5 (by decide) rfl cl_fn_9 in_1 iz_1 rfl ?_
  show mT g me_fn_init (d + 5) 13 3045 8 [some (vr 0 0)] [vr 1 0, vr 0 0] (newC (mzAS g) 1 0) _
  refine tr_dup (pc := 8) k_fn_init_8 rfl ?_
  refine tr_callI (pc := 9) (d' := d + 4) (mc' := 3) (ms' := 9) [] k_fn_init_9 ca_ga_init ml_fn_11 ii_ga_init pa_ga_init (by omega) (by omega) (by omega) rfl (Nat.le_of_ble_eq_true rfl) (Nat.le_of_ble_eq_true rfl) (Qk := fun v h9 => mT g me_fn_init (d + 5) 10 3036 12 [some (vr 0 0)] (v.toList ++ [vr 1 0, vr 0 0]) h9 _) ?_ (fun _ _ z => z)
  show mT g me_ga_init (d + 4) 3 9 0 [some (vr 1 0)] [] (newC (mzAS g) 1 0) _
  refine tr_aload_n (pc := 0) 0 k_ga_init_0 rfl rfl ?_
  refine tr_obj (pc := 1) k_ga_init_1 ml_ga_3 (by omega) (Nat.le_of_ble_eq_true rfl) ?_
  refine tr_aload_n (pc := 4) 0 k_ga_init_4 rfl rfl ?_
  refine tr_newx (pc := 5) (k := 2) (w := 3) (n := 0) (mc := 2) (ms := 6) k_ga_init_5 (by decide) rfl cl_ga_9 in_2 iz_2 rfl ?_
  show mT g me_ga_init (d + 4) 2 6 8 [some (vr 1 0)] [vr 2 0, vr 1 0] (newC (newC (mzAS g) 1 0) 2 0) _
  refine tr_dup (pc := 8) k_ga_init_8 rfl ?_
  refine tr_callI (pc := 9) (d' := d + 3) (mc' := 0) (ms' := 0) [] k_ga_init_9 ca_al_init ml_ga_11 ii_al_init pa_al_init (by omega) (by omega) (by omega) rfl (Nat.le_of_ble_eq_true rfl) (Nat.le_of_ble_eq_true rfl) (Qk := fun v h9 => mT g me_ga_init (d + 4) 2 6 12 [some (vr 1 0)] (v.toList ++ [vr 2 0, vr 1 0]) h9 _) ?_ (fun _ _ z => z)
  show mT g me_al_init (d + 3) 0 0 0 [some (vr 2 0)] [] (newC (newC (mzAS g) 1 0) 2 0) _
  refine tr_aload_n (pc := 0) 0 k_al_init_0 rfl rfl ?_
  refine tr_callI (pc := 1) (d' := d + 2) (mc' := 0) (ms' := 0) [] k_al_init_1 ca_ab_init ml_al_1 ii_ab_init pa_ab_init (by omega) (by omega) (by omega) rfl (Nat.le_of_ble_eq_true rfl) (Nat.le_of_ble_eq_true rfl) (Qk := fun v h9 => mT g me_al_init (d + 3) 0 0 4 [some (vr 2 0)] (v.toList ++ []) h9 _) ?_ (fun _ _ z => z)
  show mT g me_ab_init (d + 2) 0 0 0 [some (vr 2 0)] [] (newC (newC (mzAS g) 1 0) 2 0) _
  refine tr_aload_n (pc := 0) 0 k_ab_init_0 rfl rfl ?_
  refine tr_callI (pc := 1) (d' := d + 1) (mc' := 0) (ms' := 0) [] k_ab_init_1 ca_ac_init ml_ab_1 ii_ac_init pa_ac_init (by omega) (by omega) (by omega) rfl (Nat.le_of_ble_eq_true rfl) (Nat.le_of_ble_eq_true rfl) (Qk := fun v h9 => mT g me_ab_init (d + 2) 0 0 4 [some (vr 2 0)] (v.toList ++ []) h9 _) ?_ (fun _ _ z => z)
  show mT g me_ac_init (d + 1) 0 0 0 [some (vr 2 0)] [] (newC (newC (mzAS g) 1 0) 2 0) _
  refine tr_aload_n (pc := 0) 0 k_ac_init_0 rfl rfl ?_
  refine tr_obj (pc := 1) k_ac_init_1 ml_ac_1 (by omega) (Nat.le_of_ble_eq_true rfl) ?_
  refine tr_return (pc := 4) k_ac_init_4 rfl ?_
  show mT g me_ab_init (d + 2) 0 0 4 [some (vr 2 0)] [] (newC (newC (mzAS g) 1 0) 2 0) _
  refine tr_aload_n (pc := 4) 0 k_ab_init_4 rfl rfl ?_
  refine tr_iconst (pc := 5) (v := 0) k_ab_init_5 (by decide) ?_
  refine tr_putI (pc := 6) k_ab_init_6 fl_ab_7 (Or.inl rfl) rfl ⟨rfl, rfl⟩ ?_
  refine tr_return (pc := 9) k_ab_init_9 rfl ?_
  show mT g me_al_init (d + 3) 0 0 4 [some (vr 2 0)] [] (setI (newC (newC (mzAS g) 1 0) 2 0) 2 0 2 (0 : Int32)) _
  refine tr_aload_n (pc := 4) 0 k_al_init_4 rfl rfl ?_
  refine tr_gets (pc := 5) k_al_init_5 fs_al_39 ?_
  refine tr_putP (pc := 8) k_al_init_8 fl_al_9 (Or.inl rfl) rfl ?_
  show mT g me_al_init (d + 3) 0 0 11 [some (vr 2 0)] [] (mzA0 g) _
  refine tr_return (pc := 11) k_al_init_11 rfl ?_
  show mT g me_ga_init (d + 4) 2 6 12 [some (vr 1 0)] [vr 2 0, vr 1 0] (mzA0 g) _
  refine tr_putP (pc := 12) k_ga_init_12 fl_ga_12 (Or.inr ⟨rfl, rfl, rfl⟩) rfl ?_
  refine tr_aload_n (pc := 15) 0 k_ga_init_15 rfl rfl ?_
  refine tr_newx (pc := 16) (k := 2) (w := 3) (n := 1) (mc := 1) (ms := 3) k_ga_init_16 (by decide) rfl cl_ga_9 in_2 iz_2 rfl ?_
  show mT g me_ga_init (d + 4) 1 3 19 [some (vr 1 0)] [vr 2 1, vr 1 0] (newC (setP (mzA0 g) 1 0 0 (some (2, 0))) 2 0) _
  refine tr_dup (pc := 19) k_ga_init_19 rfl ?_
  refine tr_callI (pc := 20) (d' := d + 3) (mc' := 0) (ms' := 0) [] k_ga_init_20 ca_al_init ml_ga_11 ii_al_init pa_al_init (by omega) (by omega) (by omega) rfl (Nat.le_of_ble_eq_true rfl) (Nat.le_of_ble_eq_true rfl) (Qk := fun v h9 => mT g me_ga_init (d + 4) 1 3 23 [some (vr 1 0)] (v.toList ++ [vr 2 1, vr 1 0]) h9 _) ?_ (fun _ _ z => z)
  show mT g me_al_init (d + 3) 0 0 0 [some (vr 2 1)] [] (newC (setP (mzA0 g) 1 0 0 (some (2, 0))) 2 0) _
  refine tr_aload_n (pc := 0) 0 k_al_init_0 rfl rfl ?_
  refine tr_callI (pc := 1) (d' := d + 2) (mc' := 0) (ms' := 0) [] k_al_init_1 ca_ab_init ml_al_1 ii_ab_init pa_ab_init (by omega) (by omega) (by omega) rfl (Nat.le_of_ble_eq_true rfl) (Nat.le_of_ble_eq_true rfl) (Qk := fun v h9 => mT g me_al_init (d + 3) 0 0 4 [some (vr 2 1)] (v.toList ++ []) h9 _) ?_ (fun _ _ z => z)
  show mT g me_ab_init (d + 2) 0 0 0 [some (vr 2 1)] [] (newC (setP (mzA0 g) 1 0 0 (some (2, 0))) 2 0) _
  refine tr_aload_n (pc := 0) 0 k_ab_init_0 rfl rfl ?_
  refine tr_callI (pc := 1) (d' := d + 1) (mc' := 0) (ms' := 0) [] k_ab_init_1 ca_ac_init ml_ab_1 ii_ac_init pa_ac_init (by omega) (by omega) (by omega) rfl (Nat.le_of_ble_eq_true rfl) (Nat.le_of_ble_eq_true rfl) (Qk := fun v h9 => mT g me_ab_init (d + 2) 0 0 4 [some (vr 2 1)] (v.toList ++ []) h9 _) ?_ (fun _ _ z => z)
  show mT g me_ac_init (d + 1) 0 0 0 [some (vr 2 1)] [] (newC (setP (mzA0 g) 1 0 0 (some (2, 0))) 2 0) _
  refine tr_aload_n (pc := 0) 0 k_ac_init_0 rfl rfl ?_
  refine tr_obj (pc := 1) k_ac_init_1 ml_ac_1 (by omega) (Nat.le_of_ble_eq_true rfl) ?_
  refine tr_return (pc := 4) k_ac_init_4 rfl ?_
  show mT g me_ab_init (d + 2) 0 0 4 [some (vr 2 1)] [] (newC (setP (mzA0 g) 1 0 0 (some (2, 0))) 2 0) _
  refine tr_aload_n (pc := 4) 0 k_ab_init_4 rfl rfl ?_
  refine tr_iconst (pc := 5) (v := 0) k_ab_init_5 (by decide) ?_
  refine tr_putI (pc := 6) k_ab_init_6 fl_ab_7 (Or.inl rfl) rfl ⟨rfl, rfl⟩ ?_
  refine tr_return (pc := 9) k_ab_init_9 rfl ?_
  show mT g me_al_init (d + 3) 0 0 4 [some (vr 2 1)] [] (setI (newC (setP (mzA0 g) 1 0 0 (some (2, 0))) 2 0) 2 1 2 (0 : Int32)) _
  refine tr_aload_n (pc := 4) 0 k_al_init_4 rfl rfl ?_
  refine tr_gets (pc := 5) k_al_init_5 fs_al_39 ?_
  refine tr_putP (pc := 8) k_al_init_8 fl_al_9 (Or.inl rfl) rfl ?_
  show mT g me_al_init (d + 3) 0 0 11 [some (vr 2 1)] [] (mzA1 g) _
  refine tr_return (pc := 11) k_al_init_11 rfl ?_
  show mT g me_ga_init (d + 4) 1 3 23 [some (vr 1 0)] [vr 2 1, vr 1 0] (mzA1 g) _
  refine tr_putP (pc := 23) k_ga_init_23 fl_ga_18 (Or.inr ⟨rfl, rfl, rfl⟩) rfl ?_
  refine tr_aload_n (pc := 26) 0 k_ga_init_26 rfl rfl ?_
  refine tr_newx (pc := 27) (k := 2) (w := 3) (n := 2) (mc := 0) (ms := 0) k_ga_init_27 (by decide) rfl cl_ga_9 in_2 iz_2 rfl ?_
  show mT g me_ga_init (d + 4) 0 0 30 [some (vr 1 0)] [vr 2 2, vr 1 0] (newC (setP (mzA1 g) 1 0 1 (some (2, 1))) 2 0) _
  refine tr_dup (pc := 30) k_ga_init_30 rfl ?_
  refine tr_callI (pc := 31) (d' := d + 3) (mc' := 0) (ms' := 0) [] k_ga_init_31 ca_al_init ml_ga_11 ii_al_init pa_al_init (by omega) (by omega) (by omega) rfl (Nat.le_of_ble_eq_true rfl) (Nat.le_of_ble_eq_true rfl) (Qk := fun v h9 => mT g me_ga_init (d + 4) 0 0 34 [some (vr 1 0)] (v.toList ++ [vr 2 2, vr 1 0]) h9 _) ?_ (fun _ _ z => z)
  show mT g me_al_init (d + 3) 0 0 0 [some (vr 2 2)] [] (newC (setP (mzA1 g) 1 0 1 (some (2, 1))) 2 0) _
  refine tr_aload_n (pc := 0) 0 k_al_init_0 rfl rfl ?_
  refine tr_callI (pc := 1) (d' := d + 2) (mc' := 0) (ms' := 0) [] k_al_init_1 ca_ab_init ml_al_1 ii_ab_init pa_ab_init (by omega) (by omega) (by omega) rfl (Nat.le_of_ble_eq_true rfl) (Nat.le_of_ble_eq_true rfl) (Qk := fun v h9 => mT g me_al_init (d + 3) 0 0 4 [some (vr 2 2)] (v.toList ++ []) h9 _) ?_ (fun _ _ z => z)
  show mT g me_ab_init (d + 2) 0 0 0 [some (vr 2 2)] [] (newC (setP (mzA1 g) 1 0 1 (some (2, 1))) 2 0) _
  refine tr_aload_n (pc := 0) 0 k_ab_init_0 rfl rfl ?_
  refine tr_callI (pc := 1) (d' := d + 1) (mc' := 0) (ms' := 0) [] k_ab_init_1 ca_ac_init ml_ab_1 ii_ac_init pa_ac_init (by omega) (by omega) (by omega) rfl (Nat.le_of_ble_eq_true rfl) (Nat.le_of_ble_eq_true rfl) (Qk := fun v h9 => mT g me_ab_init (d + 2) 0 0 4 [some (vr 2 2)] (v.toList ++ []) h9 _) ?_ (fun _ _ z => z)
  show mT g me_ac_init (d + 1) 0 0 0 [some (vr 2 2)] [] (newC (setP (mzA1 g) 1 0 1 (some (2, 1))) 2 0) _
  refine tr_aload_n (pc := 0) 0 k_ac_init_0 rfl rfl ?_
  refine tr_obj (pc := 1) k_ac_init_1 ml_ac_1 (by omega) (Nat.le_of_ble_eq_true rfl) ?_
  refine tr_return (pc := 4) k_ac_init_4 rfl ?_
  show mT g me_ab_init (d + 2) 0 0 4 [some (vr 2 2)] [] (newC (setP (mzA1 g) 1 0 1 (some (2, 1))) 2 0) _
  refine tr_aload_n (pc := 4) 0 k_ab_init_4 rfl rfl ?_
  refine tr_iconst (pc := 5) (v := 0) k_ab_init_5 (by decide) ?_
  refine tr_putI (pc := 6) k_ab_init_6 fl_ab_7 (Or.inl rfl) rfl ⟨rfl, rfl⟩ ?_
  refine tr_return (pc := 9) k_ab_init_9 rfl ?_
  show mT g me_al_init (d + 3) 0 0 4 [some (vr 2 2)] [] (setI (newC (setP (mzA1 g) 1 0 1 (some (2, 1))) 2 0) 2 2 2 (0 : Int32)) _
  refine tr_aload_n (pc := 4) 0 k_al_init_4 rfl rfl ?_
  refine tr_gets (pc := 5) k_al_init_5 fs_al_39 ?_
  refine tr_putP (pc := 8) k_al_init_8 fl_al_9 (Or.inl rfl) rfl ?_
  show mT g me_al_init (d + 3) 0 0 11 [some (vr 2 2)] [] (mzA2 g) _
  refine tr_return (pc := 11) k_al_init_11 rfl ?_
  show mT g me_ga_init (d + 4) 0 0 34 [some (vr 1 0)] [vr 2 2, vr 1 0] (mzA2 g) _
  refine tr_putP (pc := 34) k_ga_init_34 fl_ga_21 (Or.inr ⟨rfl, rfl, rfl⟩) rfl ?_
  refine tr_return (pc := 37) k_ga_init_37 rfl ?_
  show mT g me_fn_init (d + 5) 10 3036 12 [some (vr 0 0)] [vr 1 0, vr 0 0] (setP (mzA2 g) 1 0 2 (some (2, 2))) _
  refine tr_putP (pc := 12) k_fn_init_12 fl_fn_12 (Or.inr ⟨rfl, rfl, rfl⟩) rfl ?_
  refine tr_aload_n (pc := 15) 0 k_fn_init_15 rfl rfl ?_
  refine tr_newx (pc := 16) (k := 2) (w := 3) (n := 3) (mc := 9) (ms := 3033) k_fn_init_16 (by decide) rfl cl_fn_16 in_2 iz_2 rfl ?_
  show mT g me_fn_init (d + 5) 9 3033 19 [some (vr 0 0)] [vr 2 3, vr 0 0] (newC (setP (setP (mzA2 g) 1 0 2 (some (2, 2))) 0 0 0 (some (1, 0))) 2 0) _
  refine tr_dup (pc := 19) k_fn_init_19 rfl ?_
  refine tr_callI (pc := 20) (d' := d + 4) (mc' := 0) (ms' := 0) [] k_fn_init_20 ca_al_init ml_fn_18 ii_al_init pa_al_init (by omega) (by omega) (by omega) rfl (Nat.le_of_ble_eq_true rfl) (Nat.le_of_ble_eq_true rfl) (Qk := fun v h9 => mT g me_fn_init (d + 5) 9 3033 23 [some (vr 0 0)] (v.toList ++ [vr 2 3, vr 0 0]) h9 _) ?_ (fun _ _ z => z)
  show mT g me_al_init (d + 4) 0 0 0 [some (vr 2 3)] [] (newC (setP (setP (mzA2 g) 1 0 2 (some (2, 2))) 0 0 0 (some (1, 0))) 2 0) _
  refine tr_aload_n (pc := 0) 0 k_al_init_0 rfl rfl ?_
  refine tr_callI (pc := 1) (d' := d + 3) (mc' := 0) (ms' := 0) [] k_al_init_1 ca_ab_init ml_al_1 ii_ab_init pa_ab_init (by omega) (by omega) (by omega) rfl (Nat.le_of_ble_eq_true rfl) (Nat.le_of_ble_eq_true rfl) (Qk := fun v h9 => mT g me_al_init (d + 4) 0 0 4 [some (vr 2 3)] (v.toList ++ []) h9 _) ?_ (fun _ _ z => z)
  show mT g me_ab_init (d + 3) 0 0 0 [some (vr 2 3)] [] (newC (setP (setP (mzA2 g) 1 0 2 (some (2, 2))) 0 0 0 (some (1, 0))) 2 0) _
  refine tr_aload_n (pc := 0) 0 k_ab_init_0 rfl rfl ?_
  refine tr_callI (pc := 1) (d' := d + 2) (mc' := 0) (ms' := 0) [] k_ab_init_1 ca_ac_init ml_ab_1 ii_ac_init pa_ac_init (by omega) (by omega) (by omega) rfl (Nat.le_of_ble_eq_true rfl) (Nat.le_of_ble_eq_true rfl) (Qk := fun v h9 => mT g me_ab_init (d + 3) 0 0 4 [some (vr 2 3)] (v.toList ++ []) h9 _) ?_ (fun _ _ z => z)
  show mT g me_ac_init (d + 2) 0 0 0 [some (vr 2 3)] [] (newC (setP (setP (mzA2 g) 1 0 2 (some (2, 2))) 0 0 0 (some (1, 0))) 2 0) _
  refine tr_aload_n (pc := 0) 0 k_ac_init_0 rfl rfl ?_
  refine tr_obj (pc := 1) k_ac_init_1 ml_ac_1 (by omega) (Nat.le_of_ble_eq_true rfl) ?_
  refine tr_return (pc := 4) k_ac_init_4 rfl ?_
  show mT g me_ab_init (d + 3) 0 0 4 [some (vr 2 3)] [] (newC (setP (setP (mzA2 g) 1 0 2 (some (2, 2))) 0 0 0 (some (1, 0))) 2 0) _
  refine tr_aload_n (pc := 4) 0 k_ab_init_4 rfl rfl ?_
  refine tr_iconst (pc := 5) (v := 0) k_ab_init_5 (by decide) ?_
  refine tr_putI (pc := 6) k_ab_init_6 fl_ab_7 (Or.inl rfl) rfl ⟨rfl, rfl⟩ ?_
  show mT g me_ab_init (d + 3) 0 0 9 [some (vr 2 3)] [] (mzA3 g) _
  refine tr_return (pc := 9) k_ab_init_9 rfl ?_
  show mT g me_al_init (d + 4) 0 0 4 [some (vr 2 3)] [] (mzA3 g) _
  refine tr_aload_n (pc := 4) 0 k_al_init_4 rfl rfl ?_
  refine tr_gets (pc := 5) k_al_init_5 fs_al_39 ?_
  refine tr_putP (pc := 8) k_al_init_8 fl_al_9 (Or.inl rfl) rfl ?_
  refine tr_return (pc := 11) k_al_init_11 rfl ?_
  show mT g me_fn_init (d + 5) 9 3033 23 [some (vr 0 0)] [vr 2 3, vr 0 0] (setP (mzA3 g) 2 3 0 (some (15, 0))) _
  refine tr_putP (pc := 23) k_fn_init_23 fl_fn_19 (Or.inr ⟨rfl, rfl, rfl⟩) rfl ?_
  refine tr_aload_n (pc := 26) 0 k_fn_init_26 rfl rfl ?_
  refine tr_newx (pc := 27) (k := 3) (w := 8) (n := 0) (mc := 8) (ms := 3025) k_fn_init_27 (by decide) rfl cl_fn_23 in_3 iz_3 rfl ?_
  show mT g me_fn_init (d + 5) 8 3025 30 [some (vr 0 0)] [vr 3 0, vr 0 0] (newC (setP (setP (mzA3 g) 2 3 0 (some (15, 0))) 0 0 1 (some (2, 3))) 3 0) _
  refine tr_dup (pc := 30) k_fn_init_30 rfl ?_
  refine tr_aload_n (pc := 31) 0 k_fn_init_31 rfl rfl ?_
  refine tr_getP (pc := 32) (r := some (1, 0)) k_fn_init_32 fl_fn_12 rfl rfl ?_
  refine tr_aload_n (pc := 35) 0 k_fn_init_35 rfl rfl ?_
  refine tr_getP (pc := 36) k_fn_init_36 fl_fn_19 rfl (Eq.trans (hP_newk (by decide)) (hP_eq)) ?_
  refine tr_callI (pc := 39) (d' := d + 4) (mc' := 0) (ms' := 0) [vr 1 0, vr 2 3] k_fn_init_39 ca_sr_init ml_fn_25 ii_sr_init pa_sr_init (by omega) (by omega) (by omega) rfl (Nat.le_of_ble_eq_true rfl) (Nat.le_of_ble_eq_true rfl) (Qk := fun v h9 => mT g me_fn_init (d + 5) 8 3025 42 [some (vr 0 0)] (v.toList ++ [vr 3 0, vr 0 0]) h9 _) ?_ (fun _ _ z => z)
  show mT g me_sr_init (d + 4) 0 0 0 [some (vr 3 0), some (vr 1 0), some (vr 2 3)] [] (newC (setP (setP (mzA3 g) 2 3 0 (some (15, 0))) 0 0 1 (some (2, 3))) 3 0) _
  refine tr_aload_n (pc := 0) 0 k_sr_init_0 rfl rfl ?_
  refine tr_obj (pc := 1) k_sr_init_1 ml_sr_3 (by omega) (Nat.le_of_ble_eq_true rfl) ?_
  refine tr_aload_n (pc := 4) 0 k_sr_init_4 rfl rfl ?_
  refine tr_aload_n (pc := 5) 1 k_sr_init_5 rfl rfl ?_
  refine tr_putP (pc := 6) k_sr_init_6 fl_sr_9 (Or.inr ⟨rfl, rfl, rfl⟩) rfl ?_
  show mT g me_sr_init (d + 4) 0 0 9 [some (vr 3 0), some (vr 1 0), some (vr 2 3)] [] (mzA4 g) _
  refine tr_aload_n (pc := 9) 0 k_sr_init_9 rfl rfl ?_
  refine tr_aload_n (pc := 10) 2 k_sr_init_10 rfl rfl ?_
  refine tr_putP (pc := 11) k_sr_init_11 fl_sr_15 (Or.inr ⟨rfl, rfl, rfl⟩) rfl ?_
  refine tr_return (pc := 14) k_sr_init_14 rfl ?_
  show mT g me_fn_init (d + 5) 8 3025 42 [some (vr 0 0)] [vr 3 0, vr 0 0] (setP (mzA4 g) 3 0 1 (some (2, 3))) _
  refine tr_putP (pc := 42) k_fn_init_42 fl_fn_28 (Or.inr ⟨rfl, rfl, rfl⟩) rfl ?_
  refine tr_aload_n (pc := 45) 0 k_fn_init_45 rfl rfl ?_
  refine tr_newx (pc := 46) (k := 4) (w := 8) (n := 0) (mc := 7) (ms := 3017) k_fn_init_46 (by decide) rfl cl_fn_32 in_4 iz_4 rfl ?_
  show mT g me_fn_init (d + 5) 7 3017 49 [some (vr 0 0)] [vr 4 0, vr 0 0] (newC (setP (setP (mzA4 g) 3 0 1 (some (2, 3))) 0 0 2 (some (3, 0))) 4 0) _
  refine tr_dup (pc := 49) k_fn_init_49 rfl ?_
  refine tr_aload_n (pc := 50) 0 k_fn_init_50 rfl rfl ?_
  refine tr_getP (pc := 51) (r := some (1, 0)) k_fn_init_51 fl_fn_12 rfl rfl ?_
  refine tr_aload_n (pc := 54) 0 k_fn_init_54 rfl rfl ?_
  refine tr_getP (pc := 55) (r := some (2, 3)) k_fn_init_55 fl_fn_19 rfl rfl ?_
  refine tr_callI (pc := 58) (d' := d + 4) (mc' := 5) (ms' := 2880) [vr 1 0, vr 2 3] k_fn_init_58 ca_tl_init ml_fn_34 ii_tl_init pa_tl_init (by omega) (by omega) (by omega) rfl (Nat.le_of_ble_eq_true rfl) (Nat.le_of_ble_eq_true rfl) (Qk := fun v h9 => mT g me_fn_init (d + 5) 2 137 61 [some (vr 0 0)] (v.toList ++ [vr 4 0, vr 0 0]) h9 _) ?_ (fun _ _ z => z)
  show mT g me_tl_init (d + 4) 5 2880 0 [some (vr 4 0), some (vr 1 0), some (vr 2 3)] [] (newC (setP (setP (mzA4 g) 3 0 1 (some (2, 3))) 0 0 2 (some (3, 0))) 4 0) _
  refine tr_aload_n (pc := 0) 0 k_tl_init_0 rfl rfl ?_
  refine tr_obj (pc := 1) k_tl_init_1 ml_tl_3 (by omega) (Nat.le_of_ble_eq_true rfl) ?_
  refine tr_aload_n (pc := 4) 0 k_tl_init_4 rfl rfl ?_
  refine tr_aload_n (pc := 5) 1 k_tl_init_5 rfl rfl ?_
  refine tr_putP (pc := 6) k_tl_init_6 fl_tl_9 (Or.inr ⟨rfl, rfl, rfl⟩) rfl ?_
  show mT g me_tl_init (d + 4) 5 2880 9 [some (vr 4 0), some (vr 1 0), some (vr 2 3)] [] (mzA5 g) _
  refine tr_aload_n (pc := 9) 0 k_tl_init_9 rfl rfl ?_
  refine tr_aload_n (pc := 10) 2 k_tl_init_10 rfl rfl ?_
  refine tr_putP (pc := 11) k_tl_init_11 fl_tl_15 (Or.inr ⟨rfl, rfl, rfl⟩) rfl ?_
  refine tr_aload_n (pc := 14) 0 k_tl_init_14 rfl rfl ?_
  refine tr_sipush (pc := 15) (v := 576) k_tl_init_15 (by decide) ?_
  refine tr_newIx (pc := 18) (w := 576) (n0 := 0) (mc := 4) (ms := 2304) k_tl_init_18 (by decide) (by decide) (by decide) ac_int rfl ?_
  show mT g me_tl_init (d + 4) 4 2304 20 [some (vr 4 0), some (vr 1 0), some (vr 2 3)] [vr 11 0, vr 4 0] (newC (setP (mzA5 g) 4 0 1 (some (2, 3))) 11 576) _
  refine tr_putP (pc := 20) k_tl_init_20 fl_tl_19 (Or.inr ⟨rfl, rfl, rfl⟩) rfl ?_
  refine tr_aload_n (pc := 23) 0 k_tl_init_23 rfl rfl ?_
  refine tr_sipush (pc := 24) (v := 576) k_tl_init_24 (by decide) ?_
  refine tr_newIx (pc := 27) (w := 576) (n0 := 1) (mc := 3) (ms := 1728) k_tl_init_27 (by decide) (by decide) (by decide) ac_int rfl ?_
  show mT g me_tl_init (d + 4) 3 1728 29 [some (vr 4 0), some (vr 1 0), some (vr 2 3)] [vr 11 1, vr 4 0] (newC (setP (newC (setP (mzA5 g) 4 0 1 (some (2, 3))) 11 576) 4 0 2 (some (11, 0))) 11 576) _
  show mT g me_tl_init (d + 4) 3 1728 29 [some (vr 4 0), some (vr 1 0), some (vr 2 3)] [vr 11 1, vr 4 0] (mzA6 g) _
  refine tr_putP (pc := 29) k_tl_init_29 fl_tl_23 (Or.inr ⟨rfl, rfl, rfl⟩) rfl ?_
  refine tr_aload_n (pc := 32) 0 k_tl_init_32 rfl rfl ?_
  refine tr_sipush (pc := 33) (v := 576) k_tl_init_33 (by decide) ?_
  refine tr_newIx (pc := 36) (w := 576) (n0 := 2) (mc := 2) (ms := 1152) k_tl_init_36 (by decide) (by decide) (by decide) ac_int rfl ?_
  show mT g me_tl_init (d + 4) 2 1152 38 [some (vr 4 0), some (vr 1 0), some (vr 2 3)] [vr 11 2, vr 4 0] (newC (setP (mzA6 g) 4 0 3 (some (11, 1))) 11 576) _
  refine tr_putP (pc := 38) k_tl_init_38 fl_tl_26 (Or.inr ⟨rfl, rfl, rfl⟩) rfl ?_
  refine tr_aload_n (pc := 41) 0 k_tl_init_41 rfl rfl ?_
  refine tr_sipush (pc := 42) (v := 576) k_tl_init_42 (by decide) ?_
  refine tr_newIx (pc := 45) (w := 576) (n0 := 3) (mc := 1) (ms := 576) k_tl_init_45 (by decide) (by decide) (by decide) ac_int rfl ?_
  show mT g me_tl_init (d + 4) 1 576 47 [some (vr 4 0), some (vr 1 0), some (vr 2 3)] [vr 11 3, vr 4 0] (newC (setP (newC (setP (mzA6 g) 4 0 3 (some (11, 1))) 11 576) 4 0 4 (some (11, 2))) 11 576) _
  show mT g me_tl_init (d + 4) 1 576 47 [some (vr 4 0), some (vr 1 0), some (vr 2 3)] [vr 11 3, vr 4 0] (mzA7 g) _
  refine tr_putP (pc := 47) k_tl_init_47 fl_tl_29 (Or.inr ⟨rfl, rfl, rfl⟩) rfl ?_
  refine tr_aload_n (pc := 50) 0 k_tl_init_50 rfl rfl ?_
  refine tr_sipush (pc := 51) (v := 576) k_tl_init_51 (by decide) ?_
  refine tr_newIx (pc := 54) (w := 576) (n0 := 4) (mc := 0) (ms := 0) k_tl_init_54 (by decide) (by decide) (by decide) ac_int rfl ?_
  show mT g me_tl_init (d + 4) 0 0 56 [some (vr 4 0), some (vr 1 0), some (vr 2 3)] [vr 11 4, vr 4 0] (newC (setP (mzA7 g) 4 0 5 (some (11, 3))) 11 576) _
  refine tr_putP (pc := 56) k_tl_init_56 fl_tl_32 (Or.inr ⟨rfl, rfl, rfl⟩) rfl ?_
  refine tr_return (pc := 59) k_tl_init_59 rfl ?_
  show mT g me_fn_init (d + 5) 2 137 61 [some (vr 0 0)] [vr 4 0, vr 0 0] (setP (newC (setP (mzA7 g) 4 0 5 (some (11, 3))) 11 576) 4 0 6 (some (11, 4))) _
  refine tr_putP (pc := 61) k_fn_init_61 fl_fn_35 (Or.inr ⟨rfl, rfl, rfl⟩) rfl ?_
  show mT g me_fn_init (d + 5) 2 137 64 [some (vr 0 0)] [] (mzA8 g) _
  refine tr_aload_n (pc := 64) 0 k_fn_init_64 rfl rfl ?_
  refine tr_newx (pc := 65) (k := 5) (w := 6) (n := 0) (mc := 1) (ms := 131) k_fn_init_65 (by decide) rfl cl_fn_39 in_5 iz_5 rfl ?_
  show mT g me_fn_init (d + 5) 1 131 68 [some (vr 0 0)] [vr 5 0, vr 0 0] (newC (mzA8 g) 5 0) _
  refine tr_dup (pc := 68) k_fn_init_68 rfl ?_
  refine tr_aload_n (pc := 69) 0 k_fn_init_69 rfl rfl ?_
  refine tr_getP (pc := 70) (r := some (1, 0)) k_fn_init_70 fl_fn_12 rfl rfl ?_
  refine tr_callI (pc := 73) (d' := d + 4) (mc' := 0) (ms' := 0) [vr 1 0] k_fn_init_73 ca_lk_init ml_fn_41 ii_lk_init pa_lk_init (by omega) (by omega) (by omega) rfl (Nat.le_of_ble_eq_true rfl) (Nat.le_of_ble_eq_true rfl) (Qk := fun v h9 => mT g me_fn_init (d + 5) 1 131 76 [some (vr 0 0)] (v.toList ++ [vr 5 0, vr 0 0]) h9 _) ?_ (fun _ _ z => z)
  show mT g me_lk_init (d + 4) 0 0 0 [some (vr 5 0), some (vr 1 0)] [] (newC (mzA8 g) 5 0) _
  refine tr_aload_n (pc := 0) 0 k_lk_init_0 rfl rfl ?_
  refine tr_obj (pc := 1) k_lk_init_1 ml_lk_3 (by omega) (Nat.le_of_ble_eq_true rfl) ?_
  refine tr_aload_n (pc := 4) 0 k_lk_init_4 rfl rfl ?_
  refine tr_aload_n (pc := 5) 1 k_lk_init_5 rfl rfl ?_
  refine tr_putP (pc := 6) k_lk_init_6 fl_lk_9 (Or.inr ⟨rfl, rfl, rfl⟩) rfl ?_
  refine tr_return (pc := 9) k_lk_init_9 rfl ?_
  show mT g me_fn_init (d + 5) 1 131 76 [some (vr 0 0)] [vr 5 0, vr 0 0] (setP (newC (mzA8 g) 5 0) 5 0 0 (some (1, 0))) _
  refine tr_putP (pc := 76) k_fn_init_76 fl_fn_44 (Or.inr ⟨rfl, rfl, rfl⟩) rfl ?_
  refine tr_aload_n (pc := 79) 0 k_fn_init_79 rfl rfl ?_
  refine tr_bipush (pc := 80) (v := 7) k_fn_init_80 (by decide) ?_
  refine tr_newIx (pc := 82) (w := 7) (n0 := 5) (mc := 0) (ms := 124) k_fn_init_82 (by decide) (by decide) (by decide) ac_int rfl ?_
  show mT g me_fn_init (d + 5) 0 124 84 [some (vr 0 0)] [vr 11 5, vr 0 0] (newC (setP (setP (newC (mzA8 g) 5 0) 5 0 0 (some (1, 0))) 0 0 4 (some (5, 0))) 11 7) _
  show mT g me_fn_init (d + 5) 0 124 84 [some (vr 0 0)] [vr 11 5, vr 0 0] (mzA9 g) _
  refine tr_putP (pc := 84) k_fn_init_84 fl_fn_48 (Or.inr ⟨rfl, rfl, rfl⟩) rfl ?_
  refine tr_aload_n (pc := 87) 0 k_fn_init_87 rfl rfl ?_
  refine tr_iconst (pc := 88) (v := 1) k_fn_init_88 (by decide) ?_
  refine tr_putI (pc := 89) k_fn_init_89 fl_fn_52 (Or.inl rfl) rfl ⟨rfl, rfl⟩ ?_
  refine tr_return (pc := 92) k_fn_init_92 rfl ?_
  exact hv
theorem v_fm_init_0 {g : mG} {d : Nat}  {Q : Option mV → mH → Prop} (hv : Q none (setP (newC (setP (mzB18 g) 10 0 54 (some (12, 3))) 12 30) 10 0 62 (some (12, 4)))) : mT g me_fm_init (d + 1) 45 6000 0 [some (vr 10 0)] [] (mzBS g) Q := by
  refine tr_aload_n (pc := 0) 0 k_fm_init_0 rfl rfl ?_
  refine tr_obj (pc := 1) k_fm_init_1 ml_fm_3 (by omega) (Nat.le_of_ble_eq_true rfl) ?_
  refine tr_aload_n (pc := 4) 0 k_fm_init_4 rfl rfl ?_
  refine tr_bipush (pc := 5) (v := 7) k_fm_init_5 (by decide) ?_
  refine tr_newIx (pc := 7) (w := 7) (n0 := 6) (mc := 44) (ms := 5993) k_fm_init_7 (by decide) (by decide) (by decide) ac_int rfl ?_
  show mT g me_fm_init (d + 1) 44 5993 9 [some (vr 10 0)] [vr 11 6, vr 10 0] (newC (mzBS g) 11 7) _
  refine tr_putP (pc := 9) k_fm_init_9 fl_fm_9 (Or.inr ⟨rfl, rfl, rfl⟩) rfl ?_
  refine tr_aload_n (pc := 12) 0 k_fm_init_12 rfl rfl ?_
  refine tr_iconst (pc := 13) (v := 1) k_fm_init_13 (by decide) ?_
  refine tr_putI (pc := 14) k_fm_init_14 fl_fm_13 (Or.inl rfl) rfl ⟨rfl, rfl⟩ ?_
  refine tr_aload_n (pc := 17) 0 k_fm_init_17 rfl rfl ?_
  refine tr_iconst (pc := 18) (v := 4) k_fm_init_18 (by decide) ?_
  refine tr_newIx (pc := 19) (w := 4) (n0 := 7) (mc := 43) (ms := 5989) k_fm_init_19 (by decide) (by decide) (by decide) ac_int rfl ?_
  show mT g me_fm_init (d + 1) 43 5989 21 [some (vr 10 0)] [vr 11 7, vr 10 0] (newC (setI (setP (newC (mzBS g) 11 7) 10 0 0 (some (11, 6))) 10 0 6 (1 : Int32)) 11 4) _
  show mT g me_fm_init (d + 1) 43 5989 21 [some (vr 10 0)] [vr 11 7, vr 10 0] (mzB0 g) _
  refine tr_putP (pc := 21) k_fm_init_21 fl_fm_17 (Or.inr ⟨rfl, rfl, rfl⟩) rfl ?_
  refine tr_aload_n (pc := 24) 0 k_fm_init_24 rfl rfl ?_
  refine tr_iconst (pc := 25) (v := 4) k_fm_init_25 (by decide) ?_
  refine tr_newIx (pc := 26) (w := 4) (n0 := 8) (mc := 42) (ms := 5985) k_fm_init_26 (by decide) (by decide) (by decide) ac_int rfl ?_
  show mT g me_fm_init (d + 1) 42 5985 28 [some (vr 10 0)] [vr 11 8, vr 10 0] (newC (setP (mzB0 g) 10 0 8 (some (11, 7))) 11 4) _
  refine tr_putP (pc := 28) k_fm_init_28 fl_fm_20 (Or.inr ⟨rfl, rfl, rfl⟩) rfl ?_
  refine tr_aload_n (pc := 31) 0 k_fm_init_31 rfl rfl ?_
  refine tr_iconst (pc := 32) (v := 4) k_fm_init_32 (by decide) ?_
  refine tr_newIx (pc := 33) (w := 4) (n0 := 9) (mc := 41) (ms := 5981) k_fm_init_33 (by decide) (by decide) (by decide) ac_int rfl ?_
  show mT g me_fm_init (d + 1) 41 5981 35 [some (vr 10 0)] [vr 11 9, vr 10 0] (newC (setP (newC (setP (mzB0 g) 10 0 8 (some (11, 7))) 11 4) 10 0 9 (some (11, 8))) 11 4) _
  show mT g me_fm_init (d + 1) 41 5981 35 [some (vr 10 0)] [vr 11 9, vr 10 0] (mzB1 g) _
  refine tr_putP (pc := 35) k_fm_init_35 fl_fm_23 (Or.inr ⟨rfl, rfl, rfl⟩) rfl ?_
  refine tr_aload_n (pc := 38) 0 k_fm_init_38 rfl rfl ?_
  refine tr_iconst (pc := 39) (v := 4) k_fm_init_39 (by decide) ?_
  refine tr_newIx (pc := 40) (w := 4) (n0 := 10) (mc := 40) (ms := 5977) k_fm_init_40 (by decide) (by decide) (by decide) ac_int rfl ?_
  show mT g me_fm_init (d + 1) 40 5977 42 [some (vr 10 0)] [vr 11 10, vr 10 0] (newC (setP (mzB1 g) 10 0 10 (some (11, 9))) 11 4) _
  refine tr_putP (pc := 42) k_fm_init_42 fl_fm_26 (Or.inr ⟨rfl, rfl, rfl⟩) rfl ?_
  refine tr_aload_n (pc := 45) 0 k_fm_init_45 rfl rfl ?_
  refine tr_iconst (pc := 46) (v := 4) k_fm_init_46 (by decide) ?_
  refine tr_newIx (pc := 47) (w := 4) (n0 := 11) (mc := 39) (ms := 5973) k_fm_init_47 (by decide) (by decide) (by decide) ac_int rfl ?_
  show mT g me_fm_init (d + 1) 39 5973 49 [some (vr 10 0)] [vr 11 11, vr 10 0] (newC (setP (newC (setP (mzB1 g) 10 0 10 (some (11, 9))) 11 4) 10 0 11 (some (11, 10))) 11 4) _
  show mT g me_fm_init (d + 1) 39 5973 49 [some (vr 10 0)] [vr 11 11, vr 10 0] (mzB2 g) _
  refine tr_putP (pc := 49) k_fm_init_49 fl_fm_29 (Or.inr ⟨rfl, rfl, rfl⟩) rfl ?_
  refine tr_aload_n (pc := 52) 0 k_fm_init_52 rfl rfl ?_
  refine tr_iconst (pc := 53) (v := 4) k_fm_init_53 (by decide) ?_
  refine tr_newIx (pc := 54) (w := 4) (n0 := 12) (mc := 38) (ms := 5969) k_fm_init_54 (by decide) (by decide) (by decide) ac_int rfl ?_
  show mT g me_fm_init (d + 1) 38 5969 56 [some (vr 10 0)] [vr 11 12, vr 10 0] (newC (setP (mzB2 g) 10 0 12 (some (11, 11))) 11 4) _
  refine tr_putP (pc := 56) k_fm_init_56 fl_fm_32 (Or.inr ⟨rfl, rfl, rfl⟩) rfl ?_
  refine tr_aload_n (pc := 59) 0 k_fm_init_59 rfl rfl ?_
  refine tr_iconst (pc := 60) (v := 4) k_fm_init_60 (by decide) ?_
  refine tr_newIx (pc := 61) (w := 4) (n0 := 13) (mc := 37) (ms := 5965) k_fm_init_61 (by decide) (by decide) (by decide) ac_int rfl ?_
  show mT g me_fm_init (d + 1) 37 5965 63 [some (vr 10 0)] [vr 11 13, vr 10 0] (newC (setP (newC (setP (mzB2 g) 10 0 12 (some (11, 11))) 11 4) 10 0 13 (some (11, 12))) 11 4) _
  show mT g me_fm_init (d + 1) 37 5965 63 [some (vr 10 0)] [vr 11 13, vr 10 0] (mzB3 g) _
  refine tr_putP (pc := 63) k_fm_init_63 fl_fm_35 (Or.inr ⟨rfl, rfl, rfl⟩) rfl ?_
  refine tr_aload_n (pc := 66) 0 k_fm_init_66 rfl rfl ?_
  refine tr_bipush (pc := 67) (v := 30) k_fm_init_67 (by decide) ?_
  refine tr_newIx (pc := 69) (w := 30) (n0 := 14) (mc := 36) (ms := 5935) k_fm_init_69 (by decide) (by decide) (by decide) ac_int rfl ?_
  show mT g me_fm_init (d + 1) 36 5935 71 [some (vr 10 0)] [vr 11 14, vr 10 0] (newC (setP (mzB3 g) 10 0 14 (some (11, 13))) 11 30) _
  refine tr_putP (pc := 71) k_fm_init_71 fl_fm_38 (Or.inr ⟨rfl, rfl, rfl⟩) rfl ?_
  refine tr_aload_n (pc := 74) 0 k_fm_init_74 rfl rfl ?_
  refine tr_bipush (pc := 75) (v := 30) k_fm_init_75 (by decide) ?_
  refine tr_newIx (pc := 77) (w := 30) (n0 := 15) (mc := 35) (ms := 5905) k_fm_init_77 (by decide) (by decide) (by decide) ac_int rfl ?_
  show mT g me_fm_init (d + 1) 35 5905 79 [some (vr 10 0)] [vr 11 15, vr 10 0] (newC (setP (newC (setP (mzB3 g) 10 0 14 (some (11, 13))) 11 30) 10 0 15 (some (11, 14))) 11 30) _
  show mT g me_fm_init (d + 1) 35 5905 79 [some (vr 10 0)] [vr 11 15, vr 10 0] (mzB4 g) _
  refine tr_putP (pc := 79) k_fm_init_79 fl_fm_41 (Or.inr ⟨rfl, rfl, rfl⟩) rfl ?_
  refine tr_aload_n (pc := 82) 0 k_fm_init_82 rfl rfl ?_
  refine tr_bipush (pc := 83) (v := 30) k_fm_init_83 (by decide) ?_
  refine tr_newIx (pc := 85) (w := 30) (n0 := 16) (mc := 34) (ms := 5875) k_fm_init_85 (by decide) (by decide) (by decide) ac_int rfl ?_
  show mT g me_fm_init (d + 1) 34 5875 87 [some (vr 10 0)] [vr 11 16, vr 10 0] (newC (setP (mzB4 g) 10 0 16 (some (11, 15))) 11 30) _
  refine tr_putP (pc := 87) k_fm_init_87 fl_fm_44 (Or.inr ⟨rfl, rfl, rfl⟩) rfl ?_
  refine tr_aload_n (pc := 90) 0 k_fm_init_90 rfl rfl ?_
  refine tr_bipush (pc := 91) (v := 30) k_fm_init_91 (by decide) ?_
  refine tr_newIx (pc := 93) (w := 30) (n0 := 17) (mc := 33) (ms := 5845) k_fm_init_93 (by decide) (by decide) (by decide) ac_int rfl ?_
  show mT g me_fm_init (d + 1) 33 5845 95 [some (vr 10 0)] [vr 11 17, vr 10 0] (newC (setP (newC (setP (mzB4 g) 10 0 16 (some (11, 15))) 11 30) 10 0 17 (some (11, 16))) 11 30) _
  show mT g me_fm_init (d + 1) 33 5845 95 [some (vr 10 0)] [vr 11 17, vr 10 0] (mzB5 g) _
  refine tr_putP (pc := 95) k_fm_init_95 fl_fm_47 (Or.inr ⟨rfl, rfl, rfl⟩) rfl ?_
  refine tr_aload_n (pc := 98) 0 k_fm_init_98 rfl rfl ?_
  refine tr_bipush (pc := 99) (v := 30) k_fm_init_99 (by decide) ?_
  refine tr_newIx (pc := 101) (w := 30) (n0 := 18) (mc := 32) (ms := 5815) k_fm_init_101 (by decide) (by decide) (by decide) ac_int rfl ?_
  show mT g me_fm_init (d + 1) 32 5815 103 [some (vr 10 0)] [vr 11 18, vr 10 0] (newC (setP (mzB5 g) 10 0 18 (some (11, 17))) 11 30) _
  refine tr_putP (pc := 103) k_fm_init_103 fl_fm_50 (Or.inr ⟨rfl, rfl, rfl⟩) rfl ?_
  refine tr_aload_n (pc := 106) 0 k_fm_init_106 rfl rfl ?_
  refine tr_bipush (pc := 107) (v := 30) k_fm_init_107 (by decide) ?_
  refine tr_newIx (pc := 109) (w := 30) (n0 := 19) (mc := 31) (ms := 5785) k_fm_init_109 (by decide) (by decide) (by decide) ac_int rfl ?_
  show mT g me_fm_init (d + 1) 31 5785 111 [some (vr 10 0)] [vr 11 19, vr 10 0] (newC (setP (newC (setP (mzB5 g) 10 0 18 (some (11, 17))) 11 30) 10 0 19 (some (11, 18))) 11 30) _
  show mT g me_fm_init (d + 1) 31 5785 111 [some (vr 10 0)] [vr 11 19, vr 10 0] (mzB6 g) _
  refine tr_putP (pc := 111) k_fm_init_111 fl_fm_53 (Or.inr ⟨rfl, rfl, rfl⟩) rfl ?_
  refine tr_aload_n (pc := 114) 0 k_fm_init_114 rfl rfl ?_
  refine tr_bipush (pc := 115) (v := 30) k_fm_init_115 (by decide) ?_
  refine tr_newIx (pc := 117) (w := 30) (n0 := 20) (mc := 30) (ms := 5755) k_fm_init_117 (by decide) (by decide) (by decide) ac_int rfl ?_
  show mT g me_fm_init (d + 1) 30 5755 119 [some (vr 10 0)] [vr 11 20, vr 10 0] (newC (setP (mzB6 g) 10 0 20 (some (11, 19))) 11 30) _
  refine tr_putP (pc := 119) k_fm_init_119 fl_fm_56 (Or.inr ⟨rfl, rfl, rfl⟩) rfl ?_
  refine tr_aload_n (pc := 122) 0 k_fm_init_122 rfl rfl ?_
  refine tr_bipush (pc := 123) (v := 30) k_fm_init_123 (by decide) ?_
  refine tr_newZx (pc := 125) (w := 30) (n0 := 0) (mc := 29) (ms := 5725) k_fm_init_125 (by decide) (by decide) (by decide) ac_boolean rfl ?_
  show mT g me_fm_init (d + 1) 29 5725 127 [some (vr 10 0)] [vr 12 0, vr 10 0] (newC (setP (newC (setP (mzB6 g) 10 0 20 (some (11, 19))) 11 30) 10 0 21 (some (11, 20))) 12 30) _
  show mT g me_fm_init (d + 1) 29 5725 127 [some (vr 10 0)] [vr 12 0, vr 10 0] (mzB7 g) _
  refine tr_putP (pc := 127) k_fm_init_127 fl_fm_59 (Or.inr ⟨rfl, rfl, rfl⟩) rfl ?_
  refine tr_aload_n (pc := 130) 0 k_fm_init_130 rfl rfl ?_
  refine tr_bipush (pc := 131) (v := 24) k_fm_init_131 (by decide) ?_
  refine tr_newIx (pc := 133) (w := 24) (n0 := 21) (mc := 28) (ms := 5701) k_fm_init_133 (by decide) (by decide) (by decide) ac_int rfl ?_
  show mT g me_fm_init (d + 1) 28 5701 135 [some (vr 10 0)] [vr 11 21, vr 10 0] (newC (setP (mzB7 g) 10 0 22 (some (12, 0))) 11 24) _
  refine tr_putP (pc := 135) k_fm_init_135 fl_fm_63 (Or.inr ⟨rfl, rfl, rfl⟩) rfl ?_
  refine tr_aload_n (pc := 138) 0 k_fm_init_138 rfl rfl ?_
  refine tr_bipush (pc := 139) (v := 24) k_fm_init_139 (by decide) ?_
  refine tr_newIx (pc := 141) (w := 24) (n0 := 22) (mc := 27) (ms := 5677) k_fm_init_141 (by decide) (by decide) (by decide) ac_int rfl ?_
  show mT g me_fm_init (d + 1) 27 5677 143 [some (vr 10 0)] [vr 11 22, vr 10 0] (newC (setP (newC (setP (mzB7 g) 10 0 22 (some (12, 0))) 11 24) 10 0 23 (some (11, 21))) 11 24) _
  show mT g me_fm_init (d + 1) 27 5677 143 [some (vr 10 0)] [vr 11 22, vr 10 0] (mzB8 g) _
  refine tr_putP (pc := 143) k_fm_init_143 fl_fm_66 (Or.inr ⟨rfl, rfl, rfl⟩) rfl ?_
  refine tr_aload_n (pc := 146) 0 k_fm_init_146 rfl rfl ?_
  refine tr_bipush (pc := 147) (v := 24) k_fm_init_147 (by decide) ?_
  refine tr_newIx (pc := 149) (w := 24) (n0 := 23) (mc := 26) (ms := 5653) k_fm_init_149 (by decide) (by decide) (by decide) ac_int rfl ?_
  show mT g me_fm_init (d + 1) 26 5653 151 [some (vr 10 0)] [vr 11 23, vr 10 0] (newC (setP (mzB8 g) 10 0 24 (some (11, 22))) 11 24) _
  refine tr_putP (pc := 151) k_fm_init_151 fl_fm_69 (Or.inr ⟨rfl, rfl, rfl⟩) rfl ?_
  refine tr_aload_n (pc := 154) 0 k_fm_init_154 rfl rfl ?_
  refine tr_bipush (pc := 155) (v := 24) k_fm_init_155 (by decide) ?_
  refine tr_newZx (pc := 157) (w := 24) (n0 := 1) (mc := 25) (ms := 5629) k_fm_init_157 (by decide) (by decide) (by decide) ac_boolean rfl ?_
  show mT g me_fm_init (d + 1) 25 5629 159 [some (vr 10 0)] [vr 12 1, vr 10 0] (newC (setP (newC (setP (mzB8 g) 10 0 24 (some (11, 22))) 11 24) 10 0 25 (some (11, 23))) 12 24) _
  show mT g me_fm_init (d + 1) 25 5629 159 [some (vr 10 0)] [vr 12 1, vr 10 0] (mzB9 g) _
  refine tr_putP (pc := 159) k_fm_init_159 fl_fm_72 (Or.inr ⟨rfl, rfl, rfl⟩) rfl ?_
  refine tr_aload_n (pc := 162) 0 k_fm_init_162 rfl rfl ?_
  refine tr_bipush (pc := 163) (v := 12) k_fm_init_163 (by decide) ?_
  refine tr_newIx (pc := 165) (w := 12) (n0 := 24) (mc := 24) (ms := 5617) k_fm_init_165 (by decide) (by decide) (by decide) ac_int rfl ?_
  show mT g me_fm_init (d + 1) 24 5617 167 [some (vr 10 0)] [vr 11 24, vr 10 0] (newC (setP (mzB9 g) 10 0 26 (some (12, 1))) 11 12) _
  refine tr_putP (pc := 167) k_fm_init_167 fl_fm_75 (Or.inr ⟨rfl, rfl, rfl⟩) rfl ?_
  refine tr_aload_n (pc := 170) 0 k_fm_init_170 rfl rfl ?_
  refine tr_bipush (pc := 171) (v := 12) k_fm_init_171 (by decide) ?_
  refine tr_newIx (pc := 173) (w := 12) (n0 := 25) (mc := 23) (ms := 5605) k_fm_init_173 (by decide) (by decide) (by decide) ac_int rfl ?_
  show mT g me_fm_init (d + 1) 23 5605 175 [some (vr 10 0)] [vr 11 25, vr 10 0] (newC (setP (newC (setP (mzB9 g) 10 0 26 (some (12, 1))) 11 12) 10 0 27 (some (11, 24))) 11 12) _
  show mT g me_fm_init (d + 1) 23 5605 175 [some (vr 10 0)] [vr 11 25, vr 10 0] (mzB10 g) _
  refine tr_putP (pc := 175) k_fm_init_175 fl_fm_78 (Or.inr ⟨rfl, rfl, rfl⟩) rfl ?_
  refine tr_aload_n (pc := 178) 0 k_fm_init_178 rfl rfl ?_
  refine tr_bipush (pc := 179) (v := 12) k_fm_init_179 (by decide) ?_
  refine tr_newIx (pc := 181) (w := 12) (n0 := 26) (mc := 22) (ms := 5593) k_fm_init_181 (by decide) (by decide) (by decide) ac_int rfl ?_
  show mT g me_fm_init (d + 1) 22 5593 183 [some (vr 10 0)] [vr 11 26, vr 10 0] (newC (setP (mzB10 g) 10 0 28 (some (11, 25))) 11 12) _
  refine tr_putP (pc := 183) k_fm_init_183 fl_fm_81 (Or.inr ⟨rfl, rfl, rfl⟩) rfl ?_
  refine tr_aload_n (pc := 186) 0 k_fm_init_186 rfl rfl ?_
  refine tr_bipush (pc := 187) (v := 12) k_fm_init_187 (by decide) ?_
  refine tr_newIx (pc := 189) (w := 12) (n0 := 27) (mc := 21) (ms := 5581) k_fm_init_189 (by decide) (by decide) (by decide) ac_int rfl ?_
  show mT g me_fm_init (d + 1) 21 5581 191 [some (vr 10 0)] [vr 11 27, vr 10 0] (newC (setP (newC (setP (mzB10 g) 10 0 28 (some (11, 25))) 11 12) 10 0 29 (some (11, 26))) 11 12) _
  show mT g me_fm_init (d + 1) 21 5581 191 [some (vr 10 0)] [vr 11 27, vr 10 0] (mzB11 g) _
  refine tr_putP (pc := 191) k_fm_init_191 fl_fm_84 (Or.inr ⟨rfl, rfl, rfl⟩) rfl ?_
  refine tr_aload_n (pc := 194) 0 k_fm_init_194 rfl rfl ?_
  refine tr_bipush (pc := 195) (v := 30) k_fm_init_195 (by decide) ?_
  refine tr_newIx (pc := 197) (w := 30) (n0 := 28) (mc := 20) (ms := 5551) k_fm_init_197 (by decide) (by decide) (by decide) ac_int rfl ?_
  show mT g me_fm_init (d + 1) 20 5551 199 [some (vr 10 0)] [vr 11 28, vr 10 0] (newC (setP (mzB11 g) 10 0 30 (some (11, 27))) 11 30) _
  refine tr_putP (pc := 199) k_fm_init_199 fl_fm_87 (Or.inr ⟨rfl, rfl, rfl⟩) rfl ?_
  refine tr_aload_n (pc := 202) 0 k_fm_init_202 rfl rfl ?_
  refine tr_bipush (pc := 203) (v := 30) k_fm_init_203 (by decide) ?_
  refine tr_newIx (pc := 205) (w := 30) (n0 := 29) (mc := 19) (ms := 5521) k_fm_init_205 (by decide) (by decide) (by decide) ac_int rfl ?_
  show mT g me_fm_init (d + 1) 19 5521 207 [some (vr 10 0)] [vr 11 29, vr 10 0] (newC (setP (newC (setP (mzB11 g) 10 0 30 (some (11, 27))) 11 30) 10 0 31 (some (11, 28))) 11 30) _
  show mT g me_fm_init (d + 1) 19 5521 207 [some (vr 10 0)] [vr 11 29, vr 10 0] (mzB12 g) _
  refine tr_putP (pc := 207) k_fm_init_207 fl_fm_90 (Or.inr ⟨rfl, rfl, rfl⟩) rfl ?_
  refine tr_aload_n (pc := 210) 0 k_fm_init_210 rfl rfl ?_
  refine tr_bipush (pc := 211) (v := 30) k_fm_init_211 (by decide) ?_
  refine tr_newIx (pc := 213) (w := 30) (n0 := 30) (mc := 18) (ms := 5491) k_fm_init_213 (by decide) (by decide) (by decide) ac_int rfl ?_
  show mT g me_fm_init (d + 1) 18 5491 215 [some (vr 10 0)] [vr 11 30, vr 10 0] (newC (setP (mzB12 g) 10 0 32 (some (11, 29))) 11 30) _
  refine tr_putP (pc := 215) k_fm_init_215 fl_fm_93 (Or.inr ⟨rfl, rfl, rfl⟩) rfl ?_
  refine tr_aload_n (pc := 218) 0 k_fm_init_218 rfl rfl ?_
  refine tr_bipush (pc := 219) (v := 30) k_fm_init_219 (by decide) ?_
  refine tr_newIx (pc := 221) (w := 30) (n0 := 31) (mc := 17) (ms := 5461) k_fm_init_221 (by decide) (by decide) (by decide) ac_int rfl ?_
  show mT g me_fm_init (d + 1) 17 5461 223 [some (vr 10 0)] [vr 11 31, vr 10 0] (newC (setP (newC (setP (mzB12 g) 10 0 32 (some (11, 29))) 11 30) 10 0 33 (some (11, 30))) 11 30) _
  show mT g me_fm_init (d + 1) 17 5461 223 [some (vr 10 0)] [vr 11 31, vr 10 0] (mzB13 g) _
  refine tr_putP (pc := 223) k_fm_init_223 fl_fm_96 (Or.inr ⟨rfl, rfl, rfl⟩) rfl ?_
  refine tr_aload_n (pc := 226) 0 k_fm_init_226 rfl rfl ?_
  refine tr_iconst (pc := 227) (v := 4) k_fm_init_227 (by decide) ?_
  refine tr_newIx (pc := 228) (w := 4) (n0 := 32) (mc := 16) (ms := 5457) k_fm_init_228 (by decide) (by decide) (by decide) ac_int rfl ?_
  show mT g me_fm_init (d + 1) 16 5457 230 [some (vr 10 0)] [vr 11 32, vr 10 0] (newC (setP (mzB13 g) 10 0 34 (some (11, 31))) 11 4) _
  refine tr_putP (pc := 230) k_fm_init_230 fl_fm_99 (Or.inr ⟨rfl, rfl, rfl⟩) rfl ?_
  refine tr_aload_n (pc := 233) 0 k_fm_init_233 rfl rfl ?_
  refine tr_iconst (pc := 234) (v := 4) k_fm_init_234 (by decide) ?_
  refine tr_newIx (pc := 235) (w := 4) (n0 := 33) (mc := 15) (ms := 5453) k_fm_init_235 (by decide) (by decide) (by decide) ac_int rfl ?_
  show mT g me_fm_init (d + 1) 15 5453 237 [some (vr 10 0)] [vr 11 33, vr 10 0] (newC (setP (newC (setP (mzB13 g) 10 0 34 (some (11, 31))) 11 4) 10 0 35 (some (11, 32))) 11 4) _
  show mT g me_fm_init (d + 1) 15 5453 237 [some (vr 10 0)] [vr 11 33, vr 10 0] (mzB14 g) _
  refine tr_putP (pc := 237) k_fm_init_237 fl_fm_102 (Or.inr ⟨rfl, rfl, rfl⟩) rfl ?_
  refine tr_aload_n (pc := 240) 0 k_fm_init_240 rfl rfl ?_
  refine tr_iconst (pc := 241) (v := 4) k_fm_init_241 (by decide) ?_
  refine tr_newIx (pc := 242) (w := 4) (n0 := 34) (mc := 14) (ms := 5449) k_fm_init_242 (by decide) (by decide) (by decide) ac_int rfl ?_
  show mT g me_fm_init (d + 1) 14 5449 244 [some (vr 10 0)] [vr 11 34, vr 10 0] (newC (setP (mzB14 g) 10 0 36 (some (11, 33))) 11 4) _
  refine tr_putP (pc := 244) k_fm_init_244 fl_fm_105 (Or.inr ⟨rfl, rfl, rfl⟩) rfl ?_
  refine tr_aload_n (pc := 247) 0 k_fm_init_247 rfl rfl ?_
  refine tr_bipush (pc := 248) (v := 24) k_fm_init_248 (by decide) ?_
  refine tr_newZx (pc := 250) (w := 24) (n0 := 2) (mc := 13) (ms := 5425) k_fm_init_250 (by decide) (by decide) (by decide) ac_boolean rfl ?_
  show mT g me_fm_init (d + 1) 13 5425 252 [some (vr 10 0)] [vr 12 2, vr 10 0] (newC (setP (newC (setP (mzB14 g) 10 0 36 (some (11, 33))) 11 4) 10 0 37 (some (11, 34))) 12 24) _
  show mT g me_fm_init (d + 1) 13 5425 252 [some (vr 10 0)] [vr 12 2, vr 10 0] (mzB15 g) _
  refine tr_putP (pc := 252) k_fm_init_252 fl_fm_108 (Or.inr ⟨rfl, rfl, rfl⟩) rfl ?_
  refine tr_aload_n (pc := 255) 0 k_fm_init_255 rfl rfl ?_
  refine tr_bipush (pc := 256) (v := 30) k_fm_init_256 (by decide) ?_
  refine tr_newIx (pc := 258) (w := 30) (n0 := 35) (mc := 12) (ms := 5395) k_fm_init_258 (by decide) (by decide) (by decide) ac_int rfl ?_
  show mT g me_fm_init (d + 1) 12 5395 260 [some (vr 10 0)] [vr 11 35, vr 10 0] (newC (setP (mzB15 g) 10 0 38 (some (12, 2))) 11 30) _
  refine tr_putP (pc := 260) k_fm_init_260 fl_fm_111 (Or.inr ⟨rfl, rfl, rfl⟩) rfl ?_
  refine tr_aload_n (pc := 263) 0 k_fm_init_263 rfl rfl ?_
  refine tr_sipush (pc := 264) (v := 576) k_fm_init_264 (by decide) ?_
  refine tr_newIx (pc := 267) (w := 576) (n0 := 36) (mc := 11) (ms := 4819) k_fm_init_267 (by decide) (by decide) (by decide) ac_int rfl ?_
  show mT g me_fm_init (d + 1) 11 4819 269 [some (vr 10 0)] [vr 11 36, vr 10 0] (newC (setP (newC (setP (mzB15 g) 10 0 38 (some (12, 2))) 11 30) 10 0 39 (some (11, 35))) 11 576) _
  show mT g me_fm_init (d + 1) 11 4819 269 [some (vr 10 0)] [vr 11 36, vr 10 0] (mzB16 g) _
  refine tr_putP (pc := 269) k_fm_init_269 fl_fm_114 (Or.inr ⟨rfl, rfl, rfl⟩) rfl ?_
  refine tr_aload_n (pc := 272) 0 k_fm_init_272 rfl rfl ?_
  refine tr_sipush (pc := 273) (v := 576) k_fm_init_273 (by decide) ?_
  refine tr_newIx (pc := 276) (w := 576) (n0 := 37) (mc := 10) (ms := 4243) k_fm_init_276 (by decide) (by decide) (by decide) ac_int rfl ?_
  show mT g me_fm_init (d + 1) 10 4243 278 [some (vr 10 0)] [vr 11 37, vr 10 0] (newC (setP (mzB16 g) 10 0 49 (some (11, 36))) 11 576) _
  refine tr_putP (pc := 278) k_fm_init_278 fl_fm_117 (Or.inr ⟨rfl, rfl, rfl⟩) rfl ?_
  refine tr_aload_n (pc := 281) 0 k_fm_init_281 rfl rfl ?_
  refine tr_sipush (pc := 282) (v := 576) k_fm_init_282 (by decide) ?_
  refine tr_newIx (pc := 285) (w := 576) (n0 := 38) (mc := 9) (ms := 3667) k_fm_init_285 (by decide) (by decide) (by decide) ac_int rfl ?_
  show mT g me_fm_init (d + 1) 9 3667 287 [some (vr 10 0)] [vr 11 38, vr 10 0] (newC (setP (newC (setP (mzB16 g) 10 0 49 (some (11, 36))) 11 576) 10 0 50 (some (11, 37))) 11 576) _
  show mT g me_fm_init (d + 1) 9 3667 287 [some (vr 10 0)] [vr 11 38, vr 10 0] (mzB17 g) _
  refine tr_putP (pc := 287) k_fm_init_287 fl_fm_120 (Or.inr ⟨rfl, rfl, rfl⟩) rfl ?_
  refine tr_aload_n (pc := 290) 0 k_fm_init_290 rfl rfl ?_
  refine tr_bipush (pc := 291) (v := 60) k_fm_init_291 (by decide) ?_
  refine tr_newIx (pc := 293) (w := 60) (n0 := 39) (mc := 8) (ms := 3607) k_fm_init_293 (by decide) (by decide) (by decide) ac_int rfl ?_
  show mT g me_fm_init (d + 1) 8 3607 295 [some (vr 10 0)] [vr 11 39, vr 10 0] (newC (setP (mzB17 g) 10 0 51 (some (11, 38))) 11 60) _
  refine tr_putP (pc := 295) k_fm_init_295 fl_fm_123 (Or.inr ⟨rfl, rfl, rfl⟩) rfl ?_
  refine tr_aload_n (pc := 298) 0 k_fm_init_298 rfl rfl ?_
  refine tr_bipush (pc := 299) (v := 60) k_fm_init_299 (by decide) ?_
  refine tr_newZx (pc := 301) (w := 60) (n0 := 3) (mc := 7) (ms := 3547) k_fm_init_301 (by decide) (by decide) (by decide) ac_boolean rfl ?_
  show mT g me_fm_init (d + 1) 7 3547 303 [some (vr 10 0)] [vr 12 3, vr 10 0] (newC (setP (newC (setP (mzB17 g) 10 0 51 (some (11, 38))) 11 60) 10 0 53 (some (11, 39))) 12 60) _
  show mT g me_fm_init (d + 1) 7 3547 303 [some (vr 10 0)] [vr 12 3, vr 10 0] (mzB18 g) _
  refine tr_putP (pc := 303) k_fm_init_303 fl_fm_126 (Or.inr ⟨rfl, rfl, rfl⟩) rfl ?_
  refine tr_aload_n (pc := 306) 0 k_fm_init_306 rfl rfl ?_
  refine tr_bipush (pc := 307) (v := 30) k_fm_init_307 (by decide) ?_
  refine tr_newZx (pc := 309) (w := 30) (n0 := 4) (mc := 6) (ms := 3517) k_fm_init_309 (by decide) (by decide) (by decide) ac_boolean rfl ?_
  show mT g me_fm_init (d + 1) 6 3517 311 [some (vr 10 0)] [vr 12 4, vr 10 0] (newC (setP (mzB18 g) 10 0 54 (some (12, 3))) 12 30) _
  refine tr_putP (pc := 311) k_fm_init_311 fl_fm_129 (Or.inr ⟨rfl, rfl, rfl⟩) rfl ?_
  refine tr_return (pc := 314) k_fm_init_314 rfl ?_
  exact hv
