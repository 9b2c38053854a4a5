/-! flow, head, rise, share -/
theorem ixNo.no {x a : Int32} {n : Nat} (hx : ixNo x n) (e : a = nI n) (q : ¬ x < 0) (q2 : ¬ a ≤ x) : False := by
  rcases hx with z | ⟨z1, z2⟩
  · exact q z
  · exact q2 (by rw [e]; exact z2)
theorem ix_le {a : Int32} {n j : Nat} (e : a = nI n) (hj : j < n) (hn : n ≤ 1000) : ¬ a ≤ nI j := by rw [e]; exact nnle hj (by omega)
theorem sn0 {r : Nat × Nat} {P : Prop} (e : some r = none) : P := by cases e
theorem ss0 {k j : Nat} {P : Nat → Prop} (p : P j) : ∀ kq n, some (k, j) = some (kq, n) → kq = k ∧ P n := by
  intro kq n e
  cases e
  exact ⟨rfl, p⟩
theorem ns0 {P : Nat → Nat → Prop} : ∀ kq n, none = some (kq, n) → P kq n := by
  intro kq n e
  cases e
section CORE
variable {h hm : mH} {nT nJ nK nV : Nat} {vs : Nat → Nat}
theorem mCore.k2 (C : mCore h nT nJ nK nV vs) : hI h 10 0 2 = nI nT := C.2.2.2.2.1.1
theorem mCore.k3 (C : mCore h nT nJ nK nV vs) : hI h 10 0 3 = nI nJ := C.2.2.2.2.1.2.1
theorem mCore.k4 (C : mCore h nT nJ nK nV vs) : hI h 10 0 4 = nI nK := C.2.2.2.2.1.2.2.1
theorem mCore.k5 (C : mCore h nT nJ nK nV vs) : hI h 10 0 5 = nI nV := C.2.2.2.2.1.2.2.2
/-- class reckoned as it is, then the model sees: the same -/
theorem mCore.se10 (C : mCore h nT nJ nK nV vs) {j : Nat} (hj : j < nJ) : hI (asC h nT nJ) 7 j 10 = hI (seH (asC h nT nJ) nT nJ nK) 11 29 j := by
  have R := (sameR.rk h nT nJ (hI h 1 0 3) 0)
  unfold asC seH rnC
  rw [rkH_10 hj, rnH_29 hj, C.flE (R.tr (sameR.as _ nT nJ nK)) (C.agS R)]
theorem mCore.se8 (C : mCore h nT nJ nK nV vs) {t : Nat} (ht : t < nT) : hI (asC h nT nJ) 6 t 8 = hI (seH (asC h nT nJ) nT nJ nK) 11 34 t := by
  have R := (sameR.rk h nT nJ (hI h 1 0 3) 0)
  unfold asC seH rnC
  rw [rkH_8 ht, rnH_34 ht, C.flE (R.tr (sameR.as _ nT nJ nK)) (C.agS R)]
theorem mCore.wat (C : mCore h nT nJ nK nV vs) {t : Nat} (ht : t < nT) : hI h 6 t 5 = hI h 11 11 t := (C.2.2.2.2.2.1 t ht).2.1.2.2.2.2.1
theorem mCore.seHd (C : mCore h nT nJ nK nV vs) {j : Nat} (hj : j < nJ) : cHd (asC h nT nJ) j (hI h 6 (nF h j) 5) = hI (seH (asC h nT nJ) nT nJ nK) 11 31 j := by
  have R := (sameR.rk h nT nJ (hI h 1 0 3) 0)
  have f1 := (C.nF_lt hj).1
  exact C.hdE (R.tr (sameR.as _ nT nJ nK)) (C.agS R) hj ((asIs_33 f1).trans (C.wat f1).symm)
theorem mCore.seRs (C : mCore h nT nJ nK nV vs) {k : Nat} (hk : k < nK) : cRs (asC h nT nJ) (hI h 1 0 3) k (hI h 6 (nF h (nP h k)) 5) = nRs (seH (asC h nT nJ) nT nJ nK) k := by
  have R := (sameR.rk h nT nJ (hI h 1 0 3) 0)
  have f1 := (C.nF_lt (C.nP_lt hk).1).1
  exact C.rsE (R.tr (sameR.as _ nT nJ nK)) (C.agS R) hk ((asIs_33 f1).trans (C.wat f1).symm)
theorem op_flow {g : mG} {d : Nat} (I : mI h nT nJ nK nV vs) (x : Int32) : mB g me_fn_flow me_fm_flow (d + 9) 0 0 [some (vr 0 0), some (vi x), none] [some (vr 10 0), some (vi x)] h := by
  have C := I.1
  have bJ := C.2.1.2.1
  rcases ix_cases x (n := nJ) (by omega) with hx | ⟨j, hj, rfl⟩
  · refine mB.ref I rf1 (-1) (fun Q K => v_fn_flow_0 (d := d + 2) x C.1 (sp_jointNo C hx ⟨none, rfl, C.1, fun _ => sp_refC (Q := fun y h => Q (some (vi y)) h) C.1 rf1 K, ns0⟩)) (fun Q s K => ?_)
    exact v_fm_flow_0 (d := d + 6) x s ⟨fun _ => sp_refM (Q := fun y h => Q (some (vi y)) h) s rf1 K, fun q => ⟨fun _ => sp_refM (Q := fun y h => Q (some (vi y)) h) s rf1 K, fun q2 => (hx.no C.k3 q q2).elim⟩⟩
  · refine mB.q I (hI (asC h nT nJ) 7 j 10) (sameA.rk h nT nJ (hI h 1 0 3) 0) (sameA.se _ nT nJ nK) (fun Q K => ?_) (fun Q C' K => ?_)
    · exact v_fn_flow_0 (d := d + 2) _ C.1 (sp_joint C hj ⟨_, rfl, C.1, sn0, ss0 (sp_asC C ⟨rfl, C.1.of (sameA.rk h nT nJ (hI h 1 0 3) 0).1, K⟩)⟩)
    · refine v_fm_flow_0 (d := d + 6) _ C'.1 ⟨fun q => absurd q (nnneg (by omega)), fun q => ⟨fun q2 => absurd q2 (ix_le C'.k3 hj (by omega)), fun _ => sp_sees C' ⟨rfl, C'.1.of (sameA.se _ nT nJ nK).1, nin (by omega) (by omega), ?_⟩⟩⟩
      rw [nc (by omega : j ≤ 1000000)]
      rw [C.se10 hj] at K
      exact K
theorem op_head {g : mG} {d : Nat} (I : mI h nT nJ nK nV vs) (x : Int32) : mB g me_fn_head me_fm_head (d + 9) 0 0 [some (vr 0 0), some (vi x), none] [some (vr 10 0), some (vi x)] h := by
  have C := I.1
  have bJ := C.2.1.2.1
  rcases ix_cases x (n := nJ) (by omega) with hx | ⟨j, hj, rfl⟩
  · refine mB.ref I rf1 (1000000000 - (-1)) (fun Q K => v_fn_head_0 (d := d + 2) x C.1 (sp_jointNo C hx ⟨none, rfl, C.1, fun _ => sp_refC (Q := fun y h => Q (some (vi (1000000000 - y))) h) C.1 rf1 K, ns0⟩)) (fun Q s K => ?_)
    exact v_fm_head_0 (d := d + 6) x s ⟨fun _ => sp_refM (Q := fun y h => Q (some (vi (1000000000 - y))) h) s rf1 K, fun q => ⟨fun _ => sp_refM (Q := fun y h => Q (some (vi (1000000000 - y))) h) s rf1 K, fun q2 => (hx.no C.k3 q q2).elim⟩⟩
  · refine mB.q I (cHd (asC h nT nJ) j (hI h 6 (nF h j) 5)) (sameA.rk h nT nJ (hI h 1 0 3) 0) (sameA.se _ nT nJ nK) (fun Q K => ?_) (fun Q C' K => ?_)
    · have eR := sameA.rk h nT nJ (hI h 1 0 3) 0
      have C' : mCore (asC h nT nJ) nT nJ nK nV vs := C.of eR.R
      obtain ⟨f1, f2, f3, f4⟩ := C'.nF_lt hj
      have e0 : nF (asC h nT nJ) j = nF h j := rfl
      rw [e0] at f1 f2 f3 f4
      have har : (1 : Int32) ≤ hI (asC h nT nJ) 6 (nF h j) 2 ∧ ¬ hI (asC h nT nJ) 6 (nF h j) 2 = 0 := by
        obtain ⟨_, ⟨_, e2, _⟩, _, a, _, _, _, _, _, e3, a1, a2, _⟩ := C'.2.2.2.2.2.1 _ f1
        rw [e2, e3]
        exact ⟨by rw [show (1 : Int32) = nI 1 from rfl]; exact nle a1 (by omega), nI_ne0 (by omega) (by omega)⟩
      have ew : hI (asC h nT nJ) 6 (nF h j) 5 = hI h 6 (nF h j) 5 := eR.2 6 _ 5 rfl
      refine v_fn_head_0 (d := d + 2) _ C.1 (sp_joint C hj ⟨_, rfl, C.1, sn0, ss0 (sp_asC C ⟨rfl, C'.1, _, f4, fun q => ?_, fun q => ⟨fun q2 => ⟨fun _ => ⟨har.2, ?_⟩, fun q3 => absurd har.1 q3⟩, fun q2 => ?_⟩⟩)⟩)
      · rw [show cHd (asC h nT nJ) j (hI h 6 (nF h j) 5) = 0 from if_pos q] at K
        exact K
      · rw [ew] at q2 ⊢
        have e : cHd (asC h nT nJ) j (hI h 6 (nF h j) 5) = ((hI (asC h nT nJ) 6 (nF h j) 1 + hI h 6 (nF h j) 5 / hI (asC h nT nJ) 6 (nF h j) 2) - hI (asC h nT nJ) 7 j 11) - hI (asC h nT nJ) 7 j 3 := by
          unfold cHd
          rw [if_neg (not_not_intro q), if_neg q2, f2]
        rw [e] at K
        exact K
      · rw [ew] at q2
        rw [show cHd (asC h nT nJ) j (hI h 6 (nF h j) 5) = 0 by unfold cHd; rw [if_neg (not_not_intro q), if_pos q2]] at K
        exact K
    · refine v_fm_head_0 (d := d + 6) _ C'.1 ⟨fun q => absurd q (nnneg (by omega)), fun q => ⟨fun q2 => absurd q2 (ix_le C'.k3 hj (by omega)), fun _ => sp_sees C' ⟨rfl, C'.1.of (sameA.se _ nT nJ nK).1, nin (by omega) (by omega), ?_⟩⟩⟩
      rw [nc (by omega : j ≤ 1000000)]
      rw [C.seHd hj] at K
      exact K
theorem op_rise {g : mG} {d : Nat} (I : mI h nT nJ nK nV vs) (x : Int32) : mB g me_fn_rise me_fm_rise (d + 9) 0 0 [some (vr 0 0), some (vi x), none] [some (vr 10 0), some (vi x)] h := by
  have C := I.1
  have bK := C.2.1.2.2.1
  rcases ix_cases x (n := nK) (by omega) with hx | ⟨k, hk, rfl⟩
  · refine mB.ref I rf1 (-1) (fun Q K => v_fn_rise_0 (d := d + 2) x C.1 (sp_jetNo C hx ⟨none, rfl, C.1, fun _ => sp_refC (Q := fun y h => Q (some (vi y)) h) C.1 rf1 K, ns0⟩)) (fun Q s K => ?_)
    exact v_fm_rise_0 (d := d + 6) x s ⟨fun _ => sp_refM (Q := fun y h => Q (some (vi y)) h) s rf1 K, fun q => ⟨fun _ => sp_refM (Q := fun y h => Q (some (vi y)) h) s rf1 K, fun q2 => (hx.no C.k4 q q2).elim⟩⟩
  · refine mB.q I (cRs (asC h nT nJ) (hI h 1 0 3) k (hI h 6 (nF h (nP h k)) 5)) (sameA.rk h nT nJ (hI h 1 0 3) 0) (sameA.se _ nT nJ nK) (fun Q K => ?_) (fun Q C' K => ?_)
    · have eR := sameA.rk h nT nJ (hI h 1 0 3) 0
      have C' : mCore (asC h nT nJ) nT nJ nK nV vs := C.of eR.R
      obtain ⟨p1, p2, p3, p4⟩ := C'.nP_lt hk
      obtain ⟨f1, f2, f3, f4⟩ := C'.nF_lt p1
      refine v_fn_rise_0 (d := d + 2) _ C.1 (sp_jet C hk ⟨_, rfl, C.1, sn0, ss0 (sp_asC C ⟨rfl, C'.1, _, p4, _, f4, sp_rise C' hk ⟨_, rfl, C'.1, ?_⟩⟩)⟩)
      exact K
    · refine v_fm_rise_0 (d := d + 6) _ C'.1 ⟨fun q => absurd q (nnneg (by omega)), fun q => ⟨fun q2 => absurd q2 (ix_le C'.k4 hk (by omega)), fun _ => sp_sees C' ⟨rfl, C'.1.of (sameA.se _ nT nJ nK).1, sp_riseOf (C'.of (sameA.se _ nT nJ nK).R) hk ⟨_, rfl, C'.1.of (sameA.se _ nT nJ nK).1, ?_⟩⟩⟩⟩
      rw [C.seRs hk] at K
      exact K
end CORE
