/-! tankOf, jointOf -/
theorem sw_6 (x : Int32) : x = 0 ∨ x = 1 ∨ x = 2 ∨ x = 3 ∨ x = 4 ∨ x = 5 ∨ (¬ x = 0 ∧ ¬ x = 1 ∧ ¬ x = 2 ∧ ¬ x = 3 ∧ ¬ x = 4 ∧ ¬ x = 5) := by
  by_cases n0 : x = 0
  · exact Or.inl n0
  by_cases n1 : x = 1
  · exact Or.inr (Or.inl n1)
  by_cases n2 : x = 2
  · exact Or.inr (Or.inr (Or.inl n2))
  by_cases n3 : x = 3
  · exact Or.inr (Or.inr (Or.inr (Or.inl n3)))
  by_cases n4 : x = 4
  · exact Or.inr (Or.inr (Or.inr (Or.inr (Or.inl n4))))
  by_cases n5 : x = 5
  · exact Or.inr (Or.inr (Or.inr (Or.inr (Or.inr (Or.inl n5)))))
  exact Or.inr (Or.inr (Or.inr (Or.inr (Or.inr (Or.inr (⟨n0, n1, n2, n3, n4, n5⟩))))))
theorem sw_9 (x : Int32) : x = 0 ∨ x = 1 ∨ x = 2 ∨ x = 3 ∨ x = 4 ∨ x = 5 ∨ x = 6 ∨ x = 7 ∨ x = 8 ∨ (¬ x = 0 ∧ ¬ x = 1 ∧ ¬ x = 2 ∧ ¬ x = 3 ∧ ¬ x = 4 ∧ ¬ x = 5 ∧ ¬ x = 6 ∧ ¬ x = 7 ∧ ¬ x = 8) := by
  by_cases n0 : x = 0
  · exact Or.inl n0
  by_cases n1 : x = 1
  · exact Or.inr (Or.inl n1)
  by_cases n2 : x = 2
  · exact Or.inr (Or.inr (Or.inl n2))
  by_cases n3 : x = 3
  · exact Or.inr (Or.inr (Or.inr (Or.inl n3)))
  by_cases n4 : x = 4
  · exact Or.inr (Or.inr (Or.inr (Or.inr (Or.inl n4))))
  by_cases n5 : x = 5
  · exact Or.inr (Or.inr (Or.inr (Or.inr (Or.inr (Or.inl n5)))))
  by_cases n6 : x = 6
  · exact Or.inr (Or.inr (Or.inr (Or.inr (Or.inr (Or.inr (Or.inl n6))))))
  by_cases n7 : x = 7
  · exact Or.inr (Or.inr (Or.inr (Or.inr (Or.inr (Or.inr (Or.inr (Or.inl n7)))))))
  by_cases n8 : x = 8
  · exact Or.inr (Or.inr (Or.inr (Or.inr (Or.inr (Or.inr (Or.inr (Or.inr (Or.inl n8))))))))
  exact Or.inr (Or.inr (Or.inr (Or.inr (Or.inr (Or.inr (Or.inr (Or.inr (Or.inr (⟨n0, n1, n2, n3, n4, n5, n6, n7, n8⟩)))))))))
section CORE
variable {h hm : mH} {nT nJ nK nV : Nat} {vs : Nat → Nat}
theorem mCore.area (C : mCore h nT nJ nK nV vs) {t : Nat} (ht : t < nT) : (1 : Int32) ≤ hI h 6 t 2 ∧ ¬ hI h 6 t 2 = 0 ∧ ¬ hI h 11 8 t = 0 := by
  obtain ⟨_, ⟨_, e2, _⟩, _, a, _, _, _, _, _, e3, a1, a2, _⟩ := C.2.2.2.2.2.1 t ht
  rw [e2, e3]
  exact ⟨by rw [show (1 : Int32) = nI 1 from rfl]; exact nle a1 (by omega), nI_ne0 (by omega) (by omega), nI_ne0 (by omega) (by omega)⟩
theorem op_tankOf {g : mG} {d : Nat} (I : mI h nT nJ nK nV vs) (x x2 : Int32) : mB g me_fn_tankOf me_fm_tankOf (d + 9) 0 0 [some (vr 0 0), some (vi x), some (vi x2), none] [some (vr 10 0), some (vi x), some (vi x2)] h := by
  have C := I.1
  have bT := C.2.1.1
  rcases ix_cases x (n := nT) (by omega) with hx | ⟨t, ht, rfl⟩
  · refine mB.ref I rf1 (-1) (fun Q K => v_fn_tankOf_0 (d := d + 2) x x2 C.1 (sp_tankNo C hx ⟨none, rfl, C.1, fun _ => sp_refC (Q := fun y h => Q (some (vi y)) h) C.1 rf1 K, ns0⟩)) (fun Q s K => ?_)
    exact v_fm_tankOf_0 (d := d + 6) x x2 s ⟨fun _ => sp_refM (Q := fun y h => Q (some (vi y)) h) s rf1 K, fun q => ⟨fun _ => sp_refM (Q := fun y h => Q (some (vi y)) h) s rf1 K, fun q2 => (hx.no C.k2 q q2).elim⟩⟩
  have n0 : ¬ nI t < 0 := nnneg (by omega)
  have ix : ∀ {a : Int32}, a = nI nT → ¬ a ≤ nI t := fun e => ix_le e ht (by omega)
  have hin : vp_in (nI t) 4 := nin (by omega) (by omega)
  have ct : (nI t).toNatClampNeg = t := nc (by omega)
  obtain ⟨e0, ⟨e1, e2, e3, e4, e5, e6, e7⟩, _⟩ := C.2.2.2.2.2.1 t ht
  obtain ⟨ar1, ar2, ar3⟩ := C.area ht
  rcases sw_6 x2 with rfl | rfl | rfl | rfl | rfl | rfl | ⟨n0', n1, n2, n3, n4, n5⟩
  · refine mB.q I (hI h 6 t 1 + hI h 6 t 5 / hI h 6 t 2) sameA.rf sameA.rf (fun Q K => ?_) (fun Q C' K => ?_)
    · exact v_fn_tankOf_0 (d := d + 2) _ _ C.1 (sp_tank C ht ⟨_, rfl, C.1, sn0, ss0 ⟨fun _ => ⟨fun _ => ⟨ar2, K⟩, fun q => absurd ar1 q⟩, fun q => absurd q (by decide), fun q => absurd q (by decide), fun q => absurd q (by decide), fun q => absurd q (by decide), fun q => absurd q (by decide), fun z0 => absurd rfl z0⟩⟩)
    · refine v_fm_tankOf_0 (d := d + 6) _ _ C.1 ⟨fun q => absurd q n0, fun _ => ⟨fun q => absurd q (ix C.k2), fun _ => ⟨fun _ => ⟨hin, hin, hin, by rw [ct]; exact ar3, ?_⟩, fun q => absurd q (by decide), fun q => absurd q (by decide), fun q => absurd q (by decide), fun q => absurd q (by decide), fun q => absurd q (by decide), fun z0 => absurd rfl z0⟩⟩⟩
      rw [ct, ← e1, ← e5, ← e2]
      exact K
  · refine mB.q I (hI h 6 t 5) sameA.rf sameA.rf (fun Q K => ?_) (fun Q C' K => ?_)
    · exact v_fn_tankOf_0 (d := d + 2) _ _ C.1 (sp_tank C ht ⟨_, rfl, C.1, sn0, ss0 ⟨fun q => absurd q (by decide), fun _ => K, fun q => absurd q (by decide), fun q => absurd q (by decide), fun q => absurd q (by decide), fun q => absurd q (by decide), fun z0 z1 => absurd rfl z1⟩⟩)
    · refine v_fm_tankOf_0 (d := d + 6) _ _ C.1 ⟨fun q => absurd q n0, fun _ => ⟨fun q => absurd q (ix C.k2), fun _ => ⟨fun q => absurd q (by decide), fun _ => ⟨hin, ?_⟩, fun q => absurd q (by decide), fun q => absurd q (by decide), fun q => absurd q (by decide), fun q => absurd q (by decide), fun z0 z1 => absurd rfl z1⟩⟩⟩
      rw [ct, ← e5]
      exact K
  · refine mB.q I (hI h 6 t 4) sameA.rf sameA.rf (fun Q K => ?_) (fun Q C' K => ?_)
    · exact v_fn_tankOf_0 (d := d + 2) _ _ C.1 (sp_tank C ht ⟨_, rfl, C.1, sn0, ss0 ⟨fun q => absurd q (by decide), fun q => absurd q (by decide), fun _ => K, fun q => absurd q (by decide), fun q => absurd q (by decide), fun q => absurd q (by decide), fun z0 z1 z2 => absurd rfl z2⟩⟩)
    · refine v_fm_tankOf_0 (d := d + 6) _ _ C.1 ⟨fun q => absurd q n0, fun _ => ⟨fun q => absurd q (ix C.k2), fun _ => ⟨fun q => absurd q (by decide), fun q => absurd q (by decide), fun _ => ⟨hin, ?_⟩, fun q => absurd q (by decide), fun q => absurd q (by decide), fun q => absurd q (by decide), fun z0 z1 z2 => absurd rfl z2⟩⟩⟩
      rw [ct, ← e4]
      exact K
  · refine mB.q I (hI h 6 t 6) sameA.rf sameA.rf (fun Q K => ?_) (fun Q C' K => ?_)
    · exact v_fn_tankOf_0 (d := d + 2) _ _ C.1 (sp_tank C ht ⟨_, rfl, C.1, sn0, ss0 ⟨fun q => absurd q (by decide), fun q => absurd q (by decide), fun q => absurd q (by decide), fun _ => K, fun q => absurd q (by decide), fun q => absurd q (by decide), fun z0 z1 z2 z3 => absurd rfl z3⟩⟩)
    · refine v_fm_tankOf_0 (d := d + 6) _ _ C.1 ⟨fun q => absurd q n0, fun _ => ⟨fun q => absurd q (ix C.k2), fun _ => ⟨fun q => absurd q (by decide), fun q => absurd q (by decide), fun q => absurd q (by decide), fun _ => ⟨hin, ?_⟩, fun q => absurd q (by decide), fun q => absurd q (by decide), fun z0 z1 z2 z3 => absurd rfl z3⟩⟩⟩
      rw [ct, ← e6]
      exact K
  · refine mB.q I (hI h 6 t 7) sameA.rf sameA.rf (fun Q K => ?_) (fun Q C' K => ?_)
    · exact v_fn_tankOf_0 (d := d + 2) _ _ C.1 (sp_tank C ht ⟨_, rfl, C.1, sn0, ss0 ⟨fun q => absurd q (by decide), fun q => absurd q (by decide), fun q => absurd q (by decide), fun q => absurd q (by decide), fun _ => K, fun q => absurd q (by decide), fun z0 z1 z2 z3 z4 => absurd rfl z4⟩⟩)
    · refine v_fm_tankOf_0 (d := d + 6) _ _ C.1 ⟨fun q => absurd q n0, fun _ => ⟨fun q => absurd q (ix C.k2), fun _ => ⟨fun q => absurd q (by decide), fun q => absurd q (by decide), fun q => absurd q (by decide), fun q => absurd q (by decide), fun _ => ⟨hin, ?_⟩, fun q => absurd q (by decide), fun z0 z1 z2 z3 z4 => absurd rfl z4⟩⟩⟩
      rw [ct, ← e7]
      exact K
  · have eR := sameA.rk h nT nJ (hI h 1 0 3) 0
    refine mB.q I (hI (asC h nT nJ) 6 t 8) eR (sameA.se _ nT nJ nK) (fun Q K => ?_) (fun Q C' K => ?_)
    · exact v_fn_tankOf_0 (d := d + 2) _ _ C.1 (sp_tank C ht ⟨_, rfl, C.1, sn0, ss0 ⟨fun q => absurd q (by decide), fun q => absurd q (by decide), fun q => absurd q (by decide), fun q => absurd q (by decide), fun q => absurd q (by decide), fun _ => sp_asC C ⟨rfl, C.1.of eR.1, K⟩, fun z0 z1 z2 z3 z4 z5 => absurd rfl z5⟩⟩)
    · refine v_fm_tankOf_0 (d := d + 6) _ _ C'.1 ⟨fun q => absurd q n0, fun _ => ⟨fun q => absurd q (ix C'.k2), fun _ => ⟨fun q => absurd q (by decide), fun q => absurd q (by decide), fun q => absurd q (by decide), fun q => absurd q (by decide), fun q => absurd q (by decide), fun _ => sp_sees C' ⟨rfl, C'.1.of (sameA.se _ nT nJ nK).1, hin, ?_⟩, fun z0 z1 z2 z3 z4 z5 => absurd rfl z5⟩⟩⟩
      rw [ct]
      rw [C.se8 ht] at K
      exact K
  · exact mB.ref I rf2 (-2) (fun Q K => v_fn_tankOf_0 (d := d + 2) _ x2 C.1 (sp_tank C ht ⟨_, rfl, C.1, sn0, ss0 ⟨fun q => absurd q n0', fun q => absurd q n1, fun q => absurd q n2, fun q => absurd q n3, fun q => absurd q n4, fun q => absurd q n5, fun _ _ _ _ _ _ => sp_refC (Q := fun y h => Q (some (vi y)) h) C.1 rf2 K⟩⟩)) (fun Q s K => v_fm_tankOf_0 (d := d + 6) _ x2 s ⟨fun q => absurd q n0, fun _ => ⟨fun q => absurd q (ix C.k2), fun _ => ⟨fun q => absurd q n0', fun q => absurd q n1, fun q => absurd q n2, fun q => absurd q n3, fun q => absurd q n4, fun q => absurd q n5, fun _ _ _ _ _ _ => sp_refM (Q := fun y h => Q (some (vi y)) h) s rf2 K⟩⟩⟩)
theorem mCore.seLs (C : mCore h nT nJ nK nV vs) {j : Nat} (hj : j < nJ) : lossO (hI (asC h nT nJ) 7 j 10) (hI h 7 j 4) (hI h 7 j 5) = hI (seH (asC h nT nJ) nT nJ nK) 11 30 j := by
  have e := C.se10 hj
  obtain ⟨_, _, _, _, ⟨l, _, _, l3, l4⟩, ⟨s, _, _, s3, s4⟩, _⟩ := C.2.2.2.2.2.2.1 j hj
  unfold seH rnC at e ⊢
  rw [e, rnH_30 hj, rnH_29 hj]
  unfold nLs
  rw [l3, s3, show hI (asIs (asC h nT nJ) nT nJ nK) 11 18 j = nI l from l4, show hI (asIs (asC h nT nJ) nT nJ nK) 11 17 j = nI s from s4]
theorem op_jointOf {g : mG} {d : Nat} (I : mI h nT nJ nK nV vs) (x x2 : Int32) : mB g me_fn_jointOf me_fm_jointOf (d + 9) 0 0 [some (vr 0 0), some (vi x), some (vi x2), none] [some (vr 10 0), some (vi x), some (vi x2)] h := by
  have C := I.1
  have bJ := C.2.1.2.1
  rcases ix_cases x (n := nJ) (by omega) with hx | ⟨j, hj, rfl⟩
  · refine mB.ref I rf1 (-1) (fun Q K => v_fn_jointOf_0 (d := d + 2) x x2 C.1 (sp_jointNo C hx ⟨none, rfl, C.1, fun _ => sp_refC (Q := fun y h => Q (some (vi y)) h) C.1 rf1 K, ns0⟩)) (fun Q s K => ?_)
    exact v_fm_jointOf_0 (d := d + 6) x x2 s ⟨fun _ => sp_refM (Q := fun y h => Q (some (vi y)) h) s rf1 K, fun q => ⟨fun _ => sp_refM (Q := fun y h => Q (some (vi y)) h) s rf1 K, fun q2 => (hx.no C.k3 q q2).elim⟩⟩
  have n0 : ¬ nI j < 0 := nnneg (by omega)
  have ix : ∀ {a : Int32}, a = nI nJ → ¬ a ≤ nI j := fun e => ix_le e hj (by omega)
  have hin : vp_in (nI j) 30 := nin (by omega) (by omega)
  have ct : (nI j).toNatClampNeg = j := nc (by omega)
  obtain ⟨e0, ⟨t, ht, tp, tf⟩, ea, ⟨_, _, _, hh1, hh2⟩, ⟨_, _, _, ll1, ll2⟩, ⟨sz, sz1, sz9, ss1, ss2⟩, ⟨_, _, _, kk1, kk2⟩, _, ⟨em, _⟩, ej⟩ := C.2.2.2.2.2.2.1 j hj
  rcases sw_9 x2 with rfl | rfl | rfl | rfl | rfl | rfl | rfl | rfl | rfl | ⟨n0', n1, n2, n3, n4, n5, n6, n7, n8⟩
  · refine mB.q I (hI h 7 j 3) sameA.rf sameA.rf (fun Q K => ?_) (fun Q C' K => ?_)
    · exact v_fn_jointOf_0 (d := d + 2) _ _ C.1 (sp_joint C hj ⟨_, rfl, C.1, sn0, ss0 ⟨fun _ => K, fun q => absurd q (by decide), fun q => absurd q (by decide), fun q => absurd q (by decide), fun q => absurd q (by decide), fun q => absurd q (by decide), fun q => absurd q (by decide), fun q => absurd q (by decide), fun q => absurd q (by decide), fun z0 => absurd rfl z0⟩⟩)
    · refine v_fm_jointOf_0 (d := d + 6) _ _ C.1 ⟨fun q => absurd q n0, fun _ => ⟨fun q => absurd q (ix C.k3), fun _ => ⟨fun _ => ⟨hin, ?_⟩, fun q => absurd q (by decide), fun q => absurd q (by decide), fun q => absurd q (by decide), fun q => absurd q (by decide), fun q => absurd q (by decide), fun q => absurd q (by decide), fun q => absurd q (by decide), fun q => absurd q (by decide), fun z0 => absurd rfl z0⟩⟩⟩
      rw [ct, hh2, ← hh1]
      exact K
  · refine mB.q I (hI h 7 j 5) sameA.rf sameA.rf (fun Q K => ?_) (fun Q C' K => ?_)
    · exact v_fn_jointOf_0 (d := d + 2) _ _ C.1 (sp_joint C hj ⟨_, rfl, C.1, sn0, ss0 ⟨fun q => absurd q (by decide), fun _ => K, fun q => absurd q (by decide), fun q => absurd q (by decide), fun q => absurd q (by decide), fun q => absurd q (by decide), fun q => absurd q (by decide), fun q => absurd q (by decide), fun q => absurd q (by decide), fun z0 z1 => absurd rfl z1⟩⟩)
    · refine v_fm_jointOf_0 (d := d + 6) _ _ C.1 ⟨fun q => absurd q n0, fun _ => ⟨fun q => absurd q (ix C.k3), fun _ => ⟨fun q => absurd q (by decide), fun _ => ⟨hin, ?_⟩, fun q => absurd q (by decide), fun q => absurd q (by decide), fun q => absurd q (by decide), fun q => absurd q (by decide), fun q => absurd q (by decide), fun q => absurd q (by decide), fun q => absurd q (by decide), fun z0 z1 => absurd rfl z1⟩⟩⟩
      rw [ct, ss2, ← ss1]
      exact K
  · refine mB.q I (hI h 7 j 4) sameA.rf sameA.rf (fun Q K => ?_) (fun Q C' K => ?_)
    · exact v_fn_jointOf_0 (d := d + 2) _ _ C.1 (sp_joint C hj ⟨_, rfl, C.1, sn0, ss0 ⟨fun q => absurd q (by decide), fun q => absurd q (by decide), fun _ => K, fun q => absurd q (by decide), fun q => absurd q (by decide), fun q => absurd q (by decide), fun q => absurd q (by decide), fun q => absurd q (by decide), fun q => absurd q (by decide), fun z0 z1 z2 => absurd rfl z2⟩⟩)
    · refine v_fm_jointOf_0 (d := d + 6) _ _ C.1 ⟨fun q => absurd q n0, fun _ => ⟨fun q => absurd q (ix C.k3), fun _ => ⟨fun q => absurd q (by decide), fun q => absurd q (by decide), fun _ => ⟨hin, ?_⟩, fun q => absurd q (by decide), fun q => absurd q (by decide), fun q => absurd q (by decide), fun q => absurd q (by decide), fun q => absurd q (by decide), fun q => absurd q (by decide), fun z0 z1 z2 => absurd rfl z2⟩⟩⟩
      rw [ct, ll2, ← ll1]
      exact K
  · refine mB.q I (nI t) sameA.rf sameA.rf (fun Q K => ?_) (fun Q C' K => ?_)
    · rw [← (C.2.2.2.2.2.1 t ht).1] at K
      exact v_fn_jointOf_0 (d := d + 2) _ _ C.1 (sp_joint C hj ⟨_, rfl, C.1, sn0, ss0 ⟨fun q => absurd q (by decide), fun q => absurd q (by decide), fun q => absurd q (by decide), fun _ => ⟨t, tp, K⟩, fun q => absurd q (by decide), fun q => absurd q (by decide), fun q => absurd q (by decide), fun q => absurd q (by decide), fun q => absurd q (by decide), fun z0 z1 z2 z3 => absurd rfl z3⟩⟩)
    · refine v_fm_jointOf_0 (d := d + 6) _ _ C.1 ⟨fun q => absurd q n0, fun _ => ⟨fun q => absurd q (ix C.k3), fun _ => ⟨fun q => absurd q (by decide), fun q => absurd q (by decide), fun q => absurd q (by decide), fun _ => ⟨hin, ?_⟩, fun q => absurd q (by decide), fun q => absurd q (by decide), fun q => absurd q (by decide), fun q => absurd q (by decide), fun q => absurd q (by decide), fun z0 z1 z2 z3 => absurd rfl z3⟩⟩⟩
      rw [ct, tf]
      exact K
  · refine mB.q I (hI h 11 14 j) sameA.rf sameA.rf (fun Q K => ?_) (fun Q C' K => ?_)
    · refine v_fn_jointOf_0 (d := d + 2) _ _ C.1 (sp_joint C hj ⟨_, rfl, C.1, sn0, ss0 ⟨fun q => absurd q (by decide), fun q => absurd q (by decide), fun q => absurd q (by decide), fun q => absurd q (by decide), fun _ => ?_, fun q => absurd q (by decide), fun q => absurd q (by decide), fun q => absurd q (by decide), fun q => absurd q (by decide), fun z0 z1 z2 z3 z4 => absurd rfl z4⟩⟩)
      rcases ea with ⟨a1, a2⟩ | ⟨a, la, a1, a2, _⟩
      · rw [a2] at K
        refine ⟨fun _ => K, ?_⟩
        rw [a1]
        exact ns0
      · rw [a2, ← (C.2.2.2.2.2.2.1 a (by omega)).1] at K
        rw [a1]
        exact ⟨sn0, ss0 K⟩
    · refine v_fm_jointOf_0 (d := d + 6) _ _ C.1 ⟨fun q => absurd q n0, fun _ => ⟨fun q => absurd q (ix C.k3), fun _ => ⟨fun q => absurd q (by decide), fun q => absurd q (by decide), fun q => absurd q (by decide), fun q => absurd q (by decide), fun _ => ⟨hin, ?_⟩, fun q => absurd q (by decide), fun q => absurd q (by decide), fun q => absurd q (by decide), fun q => absurd q (by decide), fun z0 z1 z2 z3 z4 => absurd rfl z4⟩⟩⟩
      rw [ct]
      exact K
  · refine mB.q I (hI h 11 20 j) sameA.rf sameA.rf (fun Q K => ?_) (fun Q C' K => ?_)
    · refine v_fn_jointOf_0 (d := d + 2) _ _ C.1 (sp_joint C hj ⟨_, rfl, C.1, sn0, ss0 ⟨fun q => absurd q (by decide), fun q => absurd q (by decide), fun q => absurd q (by decide), fun q => absurd q (by decide), fun q => absurd q (by decide), fun _ => ?_, fun q => absurd q (by decide), fun q => absurd q (by decide), fun q => absurd q (by decide), fun z0 z1 z2 z3 z4 z5 => absurd rfl z5⟩⟩)
      rcases ej with ⟨a1, a2⟩ | ⟨k, lk, a1, a2, _⟩
      · rw [a2] at K
        refine ⟨fun _ => K, ?_⟩
        rw [a1]
        exact ns0
      · rw [a2, ← (C.2.2.2.2.2.2.2.1 k lk).1] at K
        rw [a1]
        exact ⟨sn0, ss0 K⟩
    · refine v_fm_jointOf_0 (d := d + 6) _ _ C.1 ⟨fun q => absurd q n0, fun _ => ⟨fun q => absurd q (ix C.k3), fun _ => ⟨fun q => absurd q (by decide), fun q => absurd q (by decide), fun q => absurd q (by decide), fun q => absurd q (by decide), fun q => absurd q (by decide), fun _ => ⟨hin, ?_⟩, fun q => absurd q (by decide), fun q => absurd q (by decide), fun q => absurd q (by decide), fun z0 z1 z2 z3 z4 z5 => absurd rfl z5⟩⟩⟩
      rw [ct]
      exact K
  · refine mB.q I (if hI h 7 j 8 = 0 then 0 else 1) sameA.rf sameA.rf (fun Q K => ?_) (fun Q C' K => ?_)
    · exact v_fn_jointOf_0 (d := d + 2) _ _ C.1 (sp_joint C hj ⟨_, rfl, C.1, sn0, ss0 ⟨fun q => absurd q (by decide), fun q => absurd q (by decide), fun q => absurd q (by decide), fun q => absurd q (by decide), fun q => absurd q (by decide), fun q => absurd q (by decide), fun _ => ⟨fun q => by rw [if_pos q] at K; exact K, fun q => by rw [if_neg q] at K; exact K⟩, fun q => absurd q (by decide), fun q => absurd q (by decide), fun z0 z1 z2 z3 z4 z5 z6 => absurd rfl z6⟩⟩)
    · refine v_fm_jointOf_0 (d := d + 6) _ _ C.1 ⟨fun q => absurd q n0, fun _ => ⟨fun q => absurd q (ix C.k3), fun _ => ⟨fun q => absurd q (by decide), fun q => absurd q (by decide), fun q => absurd q (by decide), fun q => absurd q (by decide), fun q => absurd q (by decide), fun q => absurd q (by decide), fun _ => ⟨hin, ?_⟩, fun q => absurd q (by decide), fun q => absurd q (by decide), fun z0 z1 z2 z3 z4 z5 z6 => absurd rfl z6⟩⟩⟩
      rw [ct, ← em]
      exact ⟨fun q => by rw [if_pos q] at K; exact K, fun q => by rw [if_neg q] at K; exact K⟩
  · refine mB.q I (hI h 7 j 6) sameA.rf sameA.rf (fun Q K => ?_) (fun Q C' K => ?_)
    · exact v_fn_jointOf_0 (d := d + 2) _ _ C.1 (sp_joint C hj ⟨_, rfl, C.1, sn0, ss0 ⟨fun q => absurd q (by decide), fun q => absurd q (by decide), fun q => absurd q (by decide), fun q => absurd q (by decide), fun q => absurd q (by decide), fun q => absurd q (by decide), fun q => absurd q (by decide), fun _ => K, fun q => absurd q (by decide), fun z0 z1 z2 z3 z4 z5 z6 z7 => absurd rfl z7⟩⟩)
    · refine v_fm_jointOf_0 (d := d + 6) _ _ C.1 ⟨fun q => absurd q n0, fun _ => ⟨fun q => absurd q (ix C.k3), fun _ => ⟨fun q => absurd q (by decide), fun q => absurd q (by decide), fun q => absurd q (by decide), fun q => absurd q (by decide), fun q => absurd q (by decide), fun q => absurd q (by decide), fun q => absurd q (by decide), fun _ => ⟨hin, ?_⟩, fun q => absurd q (by decide), fun z0 z1 z2 z3 z4 z5 z6 z7 => absurd rfl z7⟩⟩⟩
      rw [ct, kk2, ← kk1]
      exact K
  · have eR := sameA.rk h nT nJ (hI h 1 0 3) 0
    refine mB.q I (lossO (hI (asC h nT nJ) 7 j 10) (hI h 7 j 4) (hI h 7 j 5)) eR (sameA.se _ nT nJ nK) (fun Q K => ?_) (fun Q C' K => ?_)
    · exact v_fn_jointOf_0 (d := d + 2) _ _ C.1 (sp_joint C hj ⟨_, rfl, C.1, sn0, ss0 ⟨fun q => absurd q (by decide), fun q => absurd q (by decide), fun q => absurd q (by decide), fun q => absurd q (by decide), fun q => absurd q (by decide), fun q => absurd q (by decide), fun q => absurd q (by decide), fun q => absurd q (by decide), fun _ => sp_asC C ⟨rfl, C.1.of eR.1, sp_loss (s := sz) (C.1.of eR.1) ss1 sz1 sz9 ⟨_, rfl, C.1.of eR.1, K⟩⟩, fun z0 z1 z2 z3 z4 z5 z6 z7 z8 => absurd rfl z8⟩⟩)
    · refine v_fm_jointOf_0 (d := d + 6) _ _ C'.1 ⟨fun q => absurd q n0, fun _ => ⟨fun q => absurd q (ix C'.k3), fun _ => ⟨fun q => absurd q (by decide), fun q => absurd q (by decide), fun q => absurd q (by decide), fun q => absurd q (by decide), fun q => absurd q (by decide), fun q => absurd q (by decide), fun q => absurd q (by decide), fun q => absurd q (by decide), fun _ => sp_sees C' ⟨rfl, C'.1.of (sameA.se _ nT nJ nK).1, hin, ?_⟩, fun z0 z1 z2 z3 z4 z5 z6 z7 z8 => absurd rfl z8⟩⟩⟩
      rw [ct]
      rw [C.seLs hj] at K
      exact K
  · exact mB.ref I rf2 (-2) (fun Q K => v_fn_jointOf_0 (d := d + 2) _ x2 C.1 (sp_joint C hj ⟨_, rfl, C.1, sn0, ss0 ⟨fun q => absurd q n0', fun q => absurd q n1, fun q => absurd q n2, fun q => absurd q n3, fun q => absurd q n4, fun q => absurd q n5, fun q => absurd q n6, fun q => absurd q n7, fun q => absurd q n8, fun _ _ _ _ _ _ _ _ _ => sp_refC (Q := fun y h => Q (some (vi y)) h) C.1 rf2 K⟩⟩)) (fun Q s K => v_fm_jointOf_0 (d := d + 6) _ x2 s ⟨fun q => absurd q n0, fun _ => ⟨fun q => absurd q (ix C.k3), fun _ => ⟨fun q => absurd q n0', fun q => absurd q n1, fun q => absurd q n2, fun q => absurd q n3, fun q => absurd q n4, fun q => absurd q n5, fun q => absurd q n6, fun q => absurd q n7, fun q => absurd q n8, fun _ _ _ _ _ _ _ _ _ => sp_refM (Q := fun y h => Q (some (vi y)) h) s rf2 K⟩⟩⟩)
end CORE
