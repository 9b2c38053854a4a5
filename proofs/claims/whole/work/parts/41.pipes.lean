/-! pipe, leak, gauge, set -/
section CORE
variable {h h' hm : mH} {nT nJ nK nV nT' nJ' nK' : Nat} {vs : Nat → Nat}
/-- a core of which one kind of part has changed -/
theorem mCore.chJ (C : mCore h nT nJ nK nV vs) (e : h'.1 = h.1) (l0 : hI h' 2 0 1 = hI h 2 0 1) (l1 : hI h' 2 1 1 = hI h 2 1 1) (l2 : hI h' 2 2 1 = hI h 2 2 1) (l3 : hI h' 2 3 1 = hI h 2 3 1)
    (m2 : hI h' 10 0 2 = hI h 10 0 2) (m3 : hI h' 10 0 3 = hI h 10 0 3) (m4 : hI h' 10 0 4 = hI h 10 0 4) (m5 : hI h' 10 0 5 = hI h 10 0 5)
    (ct : ∀ i, i < nT → mTk h' i) (cj : ∀ j, j < nJ → mJn h' nT nK j) (ck : ∀ k, k < nK → mJe h' nJ k) (cv : ∀ v, v < nV → mVw h' nK vs v) (cs : mSc h') (cp : mPl h' nK) : mCore h' nT nJ nK nV vs := by
  obtain ⟨w1, w2, ⟨a0, a1, a2, a3, dj⟩, ⟨n6, n7, n8⟩, ⟨b2, b3, b4, b5⟩, _, _, _, _, _, _⟩ := C
  refine ⟨w1.of e, w2, ⟨a0.of e l0, a1.of e l1, a2.of e l2, a3.of e l3, ?_⟩, ⟨by rw [hC_of e]; exact n6, by rw [hC_of e]; exact n7, by rw [hC_of e]; exact n8⟩, ⟨m2.trans b2, m3.trans b3, m4.trans b4, m5.trans b5⟩, ct, cj, ck, cv, cs, cp⟩
  intro l l' x x' a b hx hx'
  rw [hP_of e] at hx hx'
  exact dj l l' x x' a b hx hx'
theorem mCore.tk (C : mCore h nT nJ nK nV vs) {i : Nat} (hi : i < nT) : mTk h i := C.2.2.2.2.2.1 i hi
theorem mCore.jn (C : mCore h nT nJ nK nV vs) {j : Nat} (hj : j < nJ) : mJn h nT nK j := C.2.2.2.2.2.2.1 j hj
theorem mCore.je (C : mCore h nT nJ nK nV vs) {k : Nat} (hk : k < nK) : mJe h nJ k := C.2.2.2.2.2.2.2.1 k hk
theorem mCore.vw (C : mCore h nT nJ nK nV vs) {v : Nat} (hv : v < nV) : mVw h nK vs v := C.2.2.2.2.2.2.2.2.1 v hv
theorem mCore.sc (C : mCore h nT nJ nK nV vs) : mSc h := C.2.2.2.2.2.2.2.2.2.1
theorem mCore.pp (C : mCore h nT nJ nK nV vs) : mPl h nK := C.2.2.2.2.2.2.2.2.2.2
theorem mJn.b5 {j : Nat} (Z : mJn h nT nK j) : mNb (hI h 7 j 5) (hI h 11 17 j) 1 9 := Z.2.2.2.2.2.1
theorem mJn.b6 {j : Nat} (Z : mJn h nT nK j) : mNb (hI h 7 j 6) (hI h 11 19 j) 0 60 := Z.2.2.2.2.2.2.1
theorem mJn.b8 {j : Nat} (Z : mJn h nT nK j) : hI h 7 j 8 = hI h 12 0 j ∧ (hI h 12 0 j = 0 ∨ hI h 12 0 j = 1) := Z.2.2.2.2.2.2.2.2.1
theorem mJn.up {j : Nat} (Z : mJn h nT nK j) (bJ : j ≤ 1000) : ∀ a, a < j → hI h 11 14 j = nI a → hI h 12 0 a = 1 → hI h 12 0 j = 1 := by
  intro a la e
  rcases Z.2.2.1 with ⟨_, q⟩ | ⟨b, lb, _, q, _, q4⟩
  · rw [q] at e
    exact absurd e.symm (by intro z; have h0 := nnneg (n := a) (by omega); rw [z] at h0; exact h0 (by decide))
  · rw [q] at e
    have : b = a := (neq_iff (by omega) (by omega)).mp e
    subst this
    exact q4
theorem mNb.e {x y : Int32} {lo hi : Nat} (Z : mNb x y lo hi) : x = y := by
  obtain ⟨n, _, _, a, b⟩ := Z
  rw [a, b]
theorem mJe.b4 {k : Nat} (Z : mJe h nJ k) : hI h 8 k 4 = hI h 11 23 k ∧ (hI h 11 23 k = -1 ∨ ∃ r : Nat, r ≤ 500 ∧ hI h 11 23 k = nI r) := Z.2.2.2.2.1
theorem mJe.bp {k : Nat} (Z : mJe h nJ k) : hI h 12 1 k = 0 ∨ hI h 12 1 k = 1 := Z.2.2.2.2.2
theorem hI_n2 {k n f : Nat} {v : Int32} {n' : Nat} : hI (setI h k n f v) k n' f = if n' = n then v else hI h k n' f := by
  show (if k = k ∧ n' = n ∧ f = f then v else hI h k n' f) = _
  by_cases q : n' = n
  · rw [if_pos ⟨rfl, q, rfl⟩, if_pos q]
  · rw [if_neg (fun z => q z.2.1), if_neg q]
/-- an answer of both that is refused, at a joint that is none -/
theorem op_pipe {g : mG} {d : Nat} (I : mI h nT nJ nK nV vs) (x x2 : Int32) : mB g me_fn_pipe me_fm_pipe (d + 9) 0 0 [some (vr 0 0), some (vi x), some (vi x2), none, none] [some (vr 10 0), some (vi x), some (vi x2), none, none] h := by
  have C := I.1
  have bJ := C.2.1.2.1
  rcases ix_cases x (n := nJ) (by omega) with hx | ⟨j, hj, rfl⟩
  · refine mB.ref I rf1 (-1) (fun Q K => v_fn_pipe_0 (d := d + 4) x x2 C.1 (sp_jointNo C hx ⟨none, rfl, C.1, fun _ => sp_refC (Q := fun y h => Q (some (vi y)) h) C.1 rf1 K, ns0⟩)) (fun Q s K => ?_)
    exact v_fm_pipe_0 (d := d + 6) x x2 s ⟨fun _ => sp_refM (Q := fun y h => Q (some (vi y)) h) s rf1 K, fun q => ⟨fun _ => sp_refM (Q := fun y h => Q (some (vi y)) h) s rf1 K, fun q2 => (hx.no C.k3 q q2).elim⟩⟩
  have n0 : ¬ nI j < 0 := nnneg (by omega)
  have ix : ∀ {a : Int32}, a = nI nJ → ¬ a ≤ nI j := fun e => ix_le e hj (by omega)
  have hin : vp_in (nI j) 30 := nin (by omega) (by omega)
  have ct : (nI j).toNatClampNeg = j := nc (by omega)
  by_cases c1 : (1 : Int32) ≤ x2
  · by_cases c2 : x2 ≤ 9
    · obtain ⟨n, na, nb, rfl⟩ := rng (lo := 1) (hi := 9) c1 c2 (by omega) (by omega)
      have Z := C.jn hj
      refine mB.mk (hI h 7 j 5) (setI h 7 j 5 (nI n)) (setI (setI (setI h 7 j 5 (nI n)) 11 17 j (nI n)) 10 0 55 0) (fun Q K => v_fn_pipe_0 (d := d + 4) _ _ C.1 (sp_joint C hj ⟨_, rfl, C.1, sn0, ss0 ⟨fun _ => ⟨fun _ => K, fun q => absurd c2 q⟩, fun q => absurd c1 q⟩⟩)) (C.1.of rfl) ⟨rfl, fun _ => rfl⟩ (fun Q K => v_fm_pipe_0 (d := d + 6) _ _ (C.1.of rfl) ⟨fun q => absurd q n0, fun _ => ⟨fun q => absurd q (ix C.k3), fun _ => ⟨fun _ => ⟨fun _ => ⟨hin, hin, ?_⟩, fun q => absurd c2 q⟩, fun q => absurd c1 q⟩⟩⟩) (mI.ch (C.chJ rfl rfl rfl rfl rfl rfl rfl rfl rfl (fun i hi => (C.tk hi).of ((((sameOn.rf.sI rfl).sI rfl).sI rfl))) (fun i hi => (C.jn hi).mk (fun _ => rfl) ((((sameOn.rf.sI ?_).sI ?_).sI rfl)) (Nat.le_refl _) (Nat.le_refl _) ?_ ?_ ?_ ((C.jn hi).up (by omega))) (fun k hk => (C.je hk).mk rfl (fun _ _ => rfl) (((sameOn.rf.sI rfl).sI rfl).sI rfl) (Nat.le_refl _) (C.je hk).b4 (C.je hk).bp) (fun v hv => (C.vw hv).mk (((sameOn.rf.sI rfl).sI rfl).sI rfl) (Nat.le_refl _) (Nat.le_refl _)) (C.sc.of (((sameOn.rf.sI rfl).sI rfl).sI rfl)) (C.pp.of (((sameOn.rf.sI rfl).sI rfl).sI rfl))) (I.2.1.mk (fun _ _ => ⟨rfl, rfl⟩) (fun _ _ => ⟨rfl, rfl⟩) (fun _ _ => rfl) (fun _ _ => hI_nf (show (7 : Nat) ≠ 5 by decide))) rfl) ⟨rfl, fun _ => rfl⟩
      · have e : hI (setI h 7 j 5 (nI n)) 11 17 j = hI h 7 j 5 := Z.b5.e.symm
        rw [ct, e]
        exact K
      · unfold pJ; simp
      · unfold pJ; simp
      · show mNb (hI (setI h 7 j 5 (nI n)) 7 i 5) (hI (setI h 11 17 j (nI n)) 11 17 i) 1 9
        rw [hI_n2, hI_setI2]
        by_cases q : i = j
        · rw [if_pos q, if_pos q]; exact ⟨n, na, nb, rfl, rfl⟩
        · rw [if_neg q, if_neg q]; exact (C.jn hi).b5
      · show mNb (hI (setI h 7 j 5 (nI n)) 7 i 6) (hI h 11 19 i) 0 60
        rw [hI_nf (by decide)]
        exact (C.jn hi).b6
      · show hI (setI h 7 j 5 (nI n)) 7 i 8 = hI h 12 0 i ∧ _
        rw [hI_nf (by decide)]
        exact (C.jn hi).b8
    · exact mB.ref I rf6 (-6) (fun Q K => v_fn_pipe_0 (d := d + 4) _ _ C.1 (sp_joint C hj ⟨_, rfl, C.1, sn0, ss0 ⟨fun _ => ⟨fun q => absurd q c2, fun _ => sp_refC (Q := fun y h => Q (some (vi y)) h) C.1 rf6 K⟩, fun q => absurd c1 q⟩⟩)) (fun Q s K => v_fm_pipe_0 (d := d + 6) _ _ s ⟨fun q => absurd q n0, fun _ => ⟨fun q => absurd q (ix C.k3), fun _ => ⟨fun _ => ⟨fun q => absurd q c2, fun _ => sp_refM (Q := fun y h => Q (some (vi y)) h) s rf6 K⟩, fun q => absurd c1 q⟩⟩⟩)
  · exact mB.ref I rf4 (-4) (fun Q K => v_fn_pipe_0 (d := d + 4) _ _ C.1 (sp_joint C hj ⟨_, rfl, C.1, sn0, ss0 ⟨fun q => absurd q c1, fun _ => sp_refC (Q := fun y h => Q (some (vi y)) h) C.1 rf4 K⟩⟩)) (fun Q s K => v_fm_pipe_0 (d := d + 6) _ _ s ⟨fun q => absurd q n0, fun _ => ⟨fun q => absurd q (ix C.k3), fun _ => ⟨fun q => absurd q c1, fun _ => sp_refM (Q := fun y h => Q (some (vi y)) h) s rf4 K⟩⟩⟩)
theorem op_leak {g : mG} {d : Nat} (I : mI h nT nJ nK nV vs) (x x2 : Int32) : mB g me_fn_leak me_fm_leak (d + 9) 0 0 [some (vr 0 0), some (vi x), some (vi x2), none, none] [some (vr 10 0), some (vi x), some (vi x2), none, none] h := by
  have C := I.1
  have bJ := C.2.1.2.1
  rcases ix_cases x (n := nJ) (by omega) with hx | ⟨j, hj, rfl⟩
  · refine mB.ref I rf1 (-1) (fun Q K => v_fn_leak_0 (d := d + 4) x x2 C.1 (sp_jointNo C hx ⟨none, rfl, C.1, fun _ => sp_refC (Q := fun y h => Q (some (vi y)) h) C.1 rf1 K, ns0⟩)) (fun Q s K => ?_)
    exact v_fm_leak_0 (d := d + 6) x x2 s ⟨fun _ => sp_refM (Q := fun y h => Q (some (vi y)) h) s rf1 K, fun q => ⟨fun _ => sp_refM (Q := fun y h => Q (some (vi y)) h) s rf1 K, fun q2 => (hx.no C.k3 q q2).elim⟩⟩
  have n0 : ¬ nI j < 0 := nnneg (by omega)
  have ix : ∀ {a : Int32}, a = nI nJ → ¬ a ≤ nI j := fun e => ix_le e hj (by omega)
  have hin : vp_in (nI j) 30 := nin (by omega) (by omega)
  have ct : (nI j).toNatClampNeg = j := nc (by omega)
  by_cases c1 : (0 : Int32) ≤ x2
  · by_cases c2 : x2 ≤ 60
    · obtain ⟨n, na, nb, rfl⟩ := rng (lo := 0) (hi := 60) c1 c2 (by omega) (by omega)
      have Z := C.jn hj
      refine mB.mk (hI h 7 j 6) (setI h 7 j 6 (nI n)) (setI (setI h 7 j 6 (nI n)) 11 19 j (nI n)) (fun Q K => v_fn_leak_0 (d := d + 4) _ _ C.1 (sp_joint C hj ⟨_, rfl, C.1, sn0, ss0 ⟨fun _ => ⟨fun _ => K, fun q => absurd c2 q⟩, fun q => absurd c1 q⟩⟩)) (C.1.of rfl) ⟨rfl, fun _ => rfl⟩ (fun Q K => v_fm_leak_0 (d := d + 6) _ _ (C.1.of rfl) ⟨fun q => absurd q n0, fun _ => ⟨fun q => absurd q (ix C.k3), fun _ => ⟨fun _ => ⟨fun _ => ⟨hin, hin, ?_⟩, fun q => absurd c2 q⟩, fun q => absurd c1 q⟩⟩⟩) (⟨C.chJ rfl rfl rfl rfl rfl rfl rfl rfl rfl (fun i hi => (C.tk hi).of ((((sameOn.rf.sI rfl).sI rfl)))) (fun i hi => (C.jn hi).mk (fun _ => rfl) (((sameOn.rf.sI ?_).sI ?_)) (Nat.le_refl _) (Nat.le_refl _) ?_ ?_ ?_ ((C.jn hi).up (by omega))) (fun k hk => (C.je hk).mk rfl (fun _ _ => rfl) ((sameOn.rf.sI rfl).sI rfl) (Nat.le_refl _) (C.je hk).b4 (C.je hk).bp) (fun v hv => (C.vw hv).mk ((sameOn.rf.sI rfl).sI rfl) (Nat.le_refl _) (Nat.le_refl _)) (C.sc.of ((sameOn.rf.sI rfl).sI rfl)) (C.pp.of ((sameOn.rf.sI rfl).sI rfl)), I.2.1.mk (fun _ _ => ⟨rfl, rfl⟩) (fun i hi => ⟨rfl, ?_⟩) (fun _ _ => rfl) (fun _ _ => hI_nf (show (7 : Nat) ≠ 6 by decide)), I.2.2.of C ((sameOn.rf.sI rfl).sI rfl)⟩) ⟨rfl, fun _ => rfl⟩
      · have e : hI (setI h 7 j 6 (nI n)) 11 19 j = hI h 7 j 6 := Z.b6.e.symm
        rw [ct, e]
        exact K
      · unfold pJ; simp
      · unfold pJ; simp
      · show mNb (hI (setI h 7 j 6 (nI n)) 7 i 5) (hI h 11 17 i) 1 9
        rw [hI_nf (by decide)]
        exact (C.jn hi).b5
      · show mNb (hI (setI h 7 j 6 (nI n)) 7 i 6) (hI (setI h 11 19 j (nI n)) 11 19 i) 0 60
        rw [hI_n2, hI_setI2]
        by_cases q : i = j
        · rw [if_pos q, if_pos q]; exact ⟨n, na, nb, rfl, rfl⟩
        · rw [if_neg q, if_neg q]; exact (C.jn hi).b6
      · show hI (setI h 7 j 6 (nI n)) 7 i 8 = hI h 12 0 i ∧ _
        rw [hI_nf (by decide)]
        exact (C.jn hi).b8
      · show hI (setI h 11 19 j (nI n)) 11 19 i = hI h 11 19 i
        rw [hI_setI2, if_neg (by omega)]
    · exact mB.ref I rf6 (-6) (fun Q K => v_fn_leak_0 (d := d + 4) _ _ C.1 (sp_joint C hj ⟨_, rfl, C.1, sn0, ss0 ⟨fun _ => ⟨fun q => absurd q c2, fun _ => sp_refC (Q := fun y h => Q (some (vi y)) h) C.1 rf6 K⟩, fun q => absurd c1 q⟩⟩)) (fun Q s K => v_fm_leak_0 (d := d + 6) _ _ s ⟨fun q => absurd q n0, fun _ => ⟨fun q => absurd q (ix C.k3), fun _ => ⟨fun _ => ⟨fun q => absurd q c2, fun _ => sp_refM (Q := fun y h => Q (some (vi y)) h) s rf6 K⟩, fun q => absurd c1 q⟩⟩⟩)
  · exact mB.ref I rf4 (-4) (fun Q K => v_fn_leak_0 (d := d + 4) _ _ C.1 (sp_joint C hj ⟨_, rfl, C.1, sn0, ss0 ⟨fun q => absurd q c1, fun _ => sp_refC (Q := fun y h => Q (some (vi y)) h) C.1 rf4 K⟩⟩)) (fun Q s K => v_fm_leak_0 (d := d + 6) _ _ s ⟨fun q => absurd q n0, fun _ => ⟨fun q => absurd q (ix C.k3), fun _ => ⟨fun q => absurd q c1, fun _ => sp_refM (Q := fun y h => Q (some (vi y)) h) s rf4 K⟩⟩⟩)
theorem op_gauge {g : mG} {d : Nat} (I : mI h nT nJ nK nV vs) (x x2 : Int32) : mB g me_fn_gauge me_fm_gauge (d + 9) 0 0 [some (vr 0 0), some (vi x), some (vi x2), none, none] [some (vr 10 0), some (vi x), some (vi x2), none, none] h := by
  have C := I.1
  have bK := C.2.1.2.2.1
  rcases ix_cases x (n := nK) (by omega) with hx | ⟨k, hk, rfl⟩
  · refine mB.ref I rf1 (1000000000 - (-1)) (fun Q K => v_fn_gauge_0 (d := d + 4) x x2 C.1 (sp_jetNo C hx ⟨none, rfl, C.1, fun _ => sp_refC (Q := fun y h => Q (some (vi (1000000000 - y))) h) C.1 rf1 K, ns0⟩)) (fun Q s K => ?_)
    exact v_fm_gauge_0 (d := d + 6) x x2 s ⟨fun _ => sp_refM (Q := fun y h => Q (some (vi (1000000000 - y))) h) s rf1 K, fun q => ⟨fun _ => sp_refM (Q := fun y h => Q (some (vi (1000000000 - y))) h) s rf1 K, fun q2 => (hx.no C.k4 q q2).elim⟩⟩
  have n0 : ¬ nI k < 0 := nnneg (by omega)
  have ix : ∀ {a : Int32}, a = nI nK → ¬ a ≤ nI k := fun e => ix_le e hk (by omega)
  have hin : vp_in (nI k) 24 := nin (by omega) (by omega)
  have ct : (nI k).toNatClampNeg = k := nc (by omega)
  by_cases c1 : (-1 : Int32) ≤ x2
  · by_cases c2 : x2 ≤ 500
    · have hr : x2 = -1 ∨ ∃ r : Nat, r ≤ 500 ∧ x2 = nI r := by
        rcases i_or x2 with q | ⟨r, r1, r2⟩
        · refine Or.inl (Int32.toInt_inj.mp ?_)
          rw [ile] at c1
          rw [ilt] at q
          rw [show (-1 : Int32).toInt = -1 from rfl] at c1 ⊢
          rw [show (0 : Int32).toInt = 0 from rfl] at q
          omega
        · subst r2
          exact Or.inr ⟨r, (nI_leI r1 (by omega)).mp c2, rfl⟩
      have Z := C.je hk
      refine mB.mk (hI h 8 k 4) (setI h 8 k 4 x2) (setI (setI (setI h 8 k 4 x2) 11 23 k x2) 10 0 55 0) (fun Q K => v_fn_gauge_0 (d := d + 4) _ _ C.1 (sp_jet C hk ⟨_, rfl, C.1, sn0, ss0 ⟨fun _ => ⟨fun _ => K, fun q => absurd c2 q⟩, fun q => absurd c1 q⟩⟩)) (C.1.of rfl) ⟨rfl, fun _ => rfl⟩ (fun Q K => v_fm_gauge_0 (d := d + 6) _ _ (C.1.of rfl) ⟨fun q => absurd q n0, fun _ => ⟨fun q => absurd q (ix C.k4), fun _ => ⟨fun _ => ⟨fun _ => ⟨hin, hin, ?_⟩, fun q => absurd c2 q⟩, fun q => absurd c1 q⟩⟩⟩) (mI.ch (C.chJ rfl rfl rfl rfl rfl rfl rfl rfl rfl (fun i hi => (C.tk hi).of ((((sameOn.rf.sI rfl).sI rfl).sI rfl))) (fun i hi => (C.jn hi).mk (fun _ => rfl) (((sameOn.rf.sI rfl).sI rfl).sI rfl) (Nat.le_refl _) (Nat.le_refl _) (C.jn hi).b5 (C.jn hi).b6 (C.jn hi).b8 ((C.jn hi).up (by have := C.2.1.2.1; omega))) (fun k' hk' => (C.je hk').mk rfl (fun _ _ => rfl) (((sameOn.rf.sI ?_).sI rfl).sI rfl) (Nat.le_refl _) ?_ (C.je hk').bp) (fun v hv => (C.vw hv).mk (((sameOn.rf.sI rfl).sI rfl).sI rfl) (Nat.le_refl _) (Nat.le_refl _)) (C.sc.of (((sameOn.rf.sI rfl).sI rfl).sI rfl)) (C.pp.of (((sameOn.rf.sI rfl).sI rfl).sI rfl))) (I.2.1.mk (fun _ _ => ⟨rfl, rfl⟩) (fun _ _ => ⟨rfl, rfl⟩) (fun _ _ => rfl) (fun _ _ => rfl)) rfl) ⟨rfl, fun _ => rfl⟩
      · have e : hI (setI h 8 k 4 x2) 11 23 k = hI h 8 k 4 := Z.b4.1.symm
        rw [ct, e]
        exact K
      · exact Bool.and_false _
      · show hI (setI h 8 k 4 x2) 8 k' 4 = hI (setI h 11 23 k x2) 11 23 k' ∧ (hI (setI h 11 23 k x2) 11 23 k' = -1 ∨ ∃ r : Nat, r ≤ 500 ∧ hI (setI h 11 23 k x2) 11 23 k' = nI r)
        rw [hI_n2, hI_setI2]
        by_cases q : k' = k
        · rw [if_pos q, if_pos q]; exact ⟨rfl, hr⟩
        · rw [if_neg q, if_neg q]; exact (C.je hk').b4
    · exact mB.ref I rf6 (1000000000 - (-6)) (fun Q K => v_fn_gauge_0 (d := d + 4) _ _ C.1 (sp_jet C hk ⟨_, rfl, C.1, sn0, ss0 ⟨fun _ => ⟨fun q => absurd q c2, fun _ => sp_refC (Q := fun y h => Q (some (vi (1000000000 - y))) h) C.1 rf6 K⟩, fun q => absurd c1 q⟩⟩)) (fun Q s K => v_fm_gauge_0 (d := d + 6) _ _ s ⟨fun q => absurd q n0, fun _ => ⟨fun q => absurd q (ix C.k4), fun _ => ⟨fun _ => ⟨fun q => absurd q c2, fun _ => sp_refM (Q := fun y h => Q (some (vi (1000000000 - y))) h) s rf6 K⟩, fun q => absurd c1 q⟩⟩⟩)
  · exact mB.ref I rf4 (1000000000 - (-4)) (fun Q K => v_fn_gauge_0 (d := d + 4) _ _ C.1 (sp_jet C hk ⟨_, rfl, C.1, sn0, ss0 ⟨fun q => absurd q c1, fun _ => sp_refC (Q := fun y h => Q (some (vi (1000000000 - y))) h) C.1 rf4 K⟩⟩)) (fun Q s K => v_fm_gauge_0 (d := d + 6) _ _ s ⟨fun q => absurd q n0, fun _ => ⟨fun q => absurd q (ix C.k4), fun _ => ⟨fun q => absurd q c1, fun _ => sp_refM (Q := fun y h => Q (some (vi (1000000000 - y))) h) s rf4 K⟩⟩⟩)
theorem op_set {g : mG} {d : Nat} (I : mI h nT nJ nK nV vs) (x x2 x3 : Int32) : mB g me_fn_set me_fm_set (d + 9) 0 0 [some (vr 0 0), some (vi x), some (vi x2), some (vi x3), none] [some (vr 10 0), some (vi x), some (vi x2), some (vi x3), none, none] h := by
  have C := I.1
  have bT := C.2.1.1
  rcases ix_cases x (n := nT) (by omega) with hx | ⟨t, ht, rfl⟩
  · refine mB.ref I rf1 (-1) (fun Q K => v_fn_set_0 (d := d + 4) x x2 x3 C.1 (sp_tankNo C hx ⟨none, rfl, C.1, fun _ => sp_refC (Q := fun y h => Q (some (vi y)) h) C.1 rf1 K, ns0⟩)) (fun Q s K => ?_)
    exact v_fm_set_0 (d := d + 7) x x2 x3 s ⟨fun _ => sp_refM (Q := fun y h => Q (some (vi y)) h) s rf1 K, fun q => ⟨fun _ => sp_refM (Q := fun y h => Q (some (vi y)) h) s rf1 K, fun q2 => (hx.no C.k2 q q2).elim⟩⟩
  have n0 : ¬ nI t < 0 := nnneg (by omega)
  have ix : ∀ {a : Int32}, a = nI nT → ¬ a ≤ nI t := fun e => ix_le e ht (by omega)
  have hin : vp_in (nI t) 4 := nin (by omega) (by omega)
  have ct : (nI t).toNatClampNeg = t := nc (by omega)
  have Z := C.tk ht
  obtain ⟨e0, ⟨e1, e2, e3, e4, e5, e6, e7⟩, f, a, dp, sp, w, b1, b2, b3, b4, b5, b6, b7, b8, b9, b10, b11, b12⟩ := id Z
  have had : a * dp ≤ 60000 := Nat.mul_le_mul b5 b8
  have hcap : hI h 11 8 t * hI h 11 9 t = nI (a * dp) := by rw [b3, b6, pk_mul]
  have hcap6 : hI h 6 t 2 * hI h 6 t 3 = nI (a * dp) := by rw [e2, e3, hcap]
  by_cases c1 : x2 < 0
  · refine mB.ref I rf2 (-2) (fun Q K => v_fn_set_0 (d := d + 4) _ x2 x3 C.1 (sp_tank C ht ⟨_, rfl, C.1, sn0, ss0 ⟨fun _ => sp_refC (Q := fun y h => Q (some (vi y)) h) C.1 rf2 K, fun q => absurd c1 q⟩⟩)) (fun Q s K => ?_)
    exact v_fm_set_0 (d := d + 7) _ x2 x3 s ⟨fun q => absurd q n0, fun _ => ⟨fun q => absurd q (ix C.k2), fun _ => ⟨fun _ => sp_refM (Q := fun y h => Q (some (vi y)) h) s rf2 K, fun q => absurd c1 q⟩⟩⟩
  by_cases c2 : x2 ≤ 1
  case neg =>
    have c2' : (2 : Int32) ≤ x2 := by
      rw [ile] at c2 ⊢
      rw [show (1 : Int32).toInt = 1 from rfl] at c2
      rw [show (2 : Int32).toInt = 2 from rfl]
      omega
    refine mB.ref I rf2 (-2) (fun Q K => v_fn_set_0 (d := d + 4) _ x2 x3 C.1 (sp_tank C ht ⟨_, rfl, C.1, sn0, ss0 ⟨fun q => absurd q c1, fun _ => ⟨fun q => absurd q c2, fun _ => sp_refC (Q := fun y h => Q (some (vi y)) h) C.1 rf2 K⟩⟩⟩)) (fun Q s K => ?_)
    exact v_fm_set_0 (d := d + 7) _ x2 x3 s ⟨fun q => absurd q n0, fun _ => ⟨fun q => absurd q (ix C.k2), fun _ => ⟨fun q => absurd q c1, fun _ => ⟨fun _ => sp_refM (Q := fun y h => Q (some (vi y)) h) s rf2 K, fun q => absurd c2' q⟩⟩⟩⟩
  have c2' : ¬ (2 : Int32) ≤ x2 := by
    rw [ile] at c2 ⊢
    rw [show (1 : Int32).toInt = 1 from rfl] at c2
    rw [show (2 : Int32).toInt = 2 from rfl]
    omega
  by_cases c3 : 0 ≤ x3
  case neg =>
    by_cases c4 : x2 = 0
    · refine mB.ref I rf4 (-4) (fun Q K => v_fn_set_0 (d := d + 4) _ x2 x3 C.1 (sp_tank C ht ⟨_, rfl, C.1, sn0, ss0 ⟨fun q => absurd q c1, fun _ => ⟨fun _ => ⟨fun q => absurd q c3, fun _ => sp_refC (Q := fun y h => Q (some (vi y)) h) C.1 rf4 K⟩, fun q => absurd c2 q⟩⟩⟩)) (fun Q s K => ?_)
      exact v_fm_set_0 (d := d + 7) _ x2 x3 s ⟨fun q => absurd q n0, fun _ => ⟨fun q => absurd q (ix C.k2), fun _ => ⟨fun q => absurd q c1, fun _ => ⟨fun q => absurd q c2', fun _ => ⟨fun q => absurd c4 q, fun _ => ⟨fun q => absurd q c3, fun _ => sp_refM (Q := fun y h => Q (some (vi y)) h) s rf4 K⟩⟩⟩⟩⟩⟩
    · refine mB.ref I rf4 (-4) (fun Q K => v_fn_set_0 (d := d + 4) _ x2 x3 C.1 (sp_tank C ht ⟨_, rfl, C.1, sn0, ss0 ⟨fun q => absurd q c1, fun _ => ⟨fun _ => ⟨fun q => absurd q c3, fun _ => sp_refC (Q := fun y h => Q (some (vi y)) h) C.1 rf4 K⟩, fun q => absurd c2 q⟩⟩⟩)) (fun Q s K => ?_)
      exact v_fm_set_0 (d := d + 7) _ x2 x3 s ⟨fun q => absurd q n0, fun _ => ⟨fun q => absurd q (ix C.k2), fun _ => ⟨fun q => absurd q c1, fun _ => ⟨fun q => absurd q c2', fun _ => ⟨fun _ => ⟨hin, hin, fun q => absurd q c3, fun _ => sp_refM (Q := fun y h => Q (some (vi y)) h) s rf4 K⟩, fun q => absurd q c4⟩⟩⟩⟩⟩
  by_cases c4 : x2 = 0
  · by_cases c5 : x3 ≤ 500
    · obtain ⟨n, na, nb, rfl⟩ := rng (lo := 0) (hi := 500) c3 c5 (by omega) (by omega)
      refine mB.mk (hI h 6 t 4) (setI h 6 t 4 (nI n)) (setI (setI (setI h 6 t 4 (nI n)) 11 10 t (nI n)) 10 0 55 0) (fun Q K => v_fn_set_0 (d := d + 4) _ _ _ C.1 (sp_tank C ht ⟨_, rfl, C.1, sn0, ss0 ⟨fun q => absurd q c1, fun _ => ⟨fun _ => ⟨fun _ => ⟨fun q => absurd c4 q, fun _ => ⟨fun _ => ⟨fun q => absurd c4 q, fun _ => K⟩, fun q => absurd c5 q⟩⟩, fun q => absurd c3 q⟩, fun q => absurd c2 q⟩⟩⟩)) (C.1.of rfl) ⟨rfl, fun _ => rfl⟩ (fun Q K => v_fm_set_0 (d := d + 7) _ _ _ (C.1.of rfl) ⟨fun q => absurd q n0, fun _ => ⟨fun q => absurd q (ix C.k2), fun _ => ⟨fun q => absurd q c1, fun _ => ⟨fun q => absurd q c2', fun _ => ⟨fun q => absurd c4 q, fun _ => ⟨fun _ => ⟨fun _ => ⟨fun q => absurd c4 q, fun _ => ⟨hin, fun q => absurd c4 q, fun _ => ⟨hin, ?_⟩⟩⟩, fun q => absurd c5 q⟩, fun q => absurd c3 q⟩⟩⟩⟩⟩⟩) (mI.ch (C.chJ rfl rfl rfl rfl rfl rfl rfl rfl rfl (fun i hi => (C.tk hi).mk (((sameOn.rf.sI ?_).sI rfl).sI rfl) ?_ ?_ ?_ ?_ ?_ ?_) (fun i hi => (C.jn hi).mk (fun _ => rfl) (((sameOn.rf.sI rfl).sI rfl).sI rfl) (Nat.le_refl _) (Nat.le_refl _) (C.jn hi).b5 (C.jn hi).b6 (C.jn hi).b8 ((C.jn hi).up (by have := C.2.1.2.1; omega))) (fun k hk => (C.je hk).mk rfl (fun _ _ => rfl) (((sameOn.rf.sI rfl).sI rfl).sI rfl) (Nat.le_refl _) (C.je hk).b4 (C.je hk).bp) (fun v hv => (C.vw hv).mk (((sameOn.rf.sI rfl).sI rfl).sI rfl) (Nat.le_refl _) (Nat.le_refl _)) (C.sc.of (((sameOn.rf.sI rfl).sI rfl).sI rfl)) (C.pp.of (((sameOn.rf.sI rfl).sI rfl).sI rfl))) (I.2.1.mk (fun _ _ => ⟨rfl, rfl⟩) (fun _ _ => ⟨rfl, rfl⟩) (fun _ _ => rfl) (fun _ _ => rfl)) rfl) ⟨rfl, fun _ => rfl⟩
      · have e : hI (setI h 6 t 4 (nI n)) 11 10 t = hI h 6 t 4 := e4.symm
        rw [ct, e]
        exact K
      · exact Bool.and_false _
      · show hI (setI h 6 t 4 (nI n)) 6 i 4 = hI (setI h 11 10 t (nI n)) 11 10 i
        rw [hI_n2, hI_setI2]
        by_cases q : i = t
        · rw [if_pos q, if_pos q]
        · rw [if_neg q, if_neg q]; exact (C.tk hi).2.1.2.2.2.1
      · show hI (setI h 6 t 4 (nI n)) 6 i 5 = hI h 11 11 i
        rw [hI_nf (by decide)]; exact (C.tk hi).2.1.2.2.2.2.1
      · show hI (setI h 6 t 4 (nI n)) 6 i 6 = hI h 11 12 i
        rw [hI_nf (by decide)]; exact (C.tk hi).2.1.2.2.2.2.2.1
      · show hI (setI h 6 t 4 (nI n)) 6 i 7 = hI h 11 13 i
        rw [hI_nf (by decide)]; exact (C.tk hi).2.1.2.2.2.2.2.2
      · show ∃ s : Nat, s ≤ 500 ∧ hI (setI h 11 10 t (nI n)) 11 10 i = nI s
        rw [hI_setI2]
        by_cases q : i = t
        · rw [if_pos q]; exact ⟨n, nb, rfl⟩
        · rw [if_neg q]
          obtain ⟨_, _, _, _, _, s, _, _, _, _, _, _, _, _, _, s1, s2, _⟩ := C.tk hi
          exact ⟨s, s2, s1⟩
      · intro a' d' _ _ ha hd _ _
        obtain ⟨_, _, _, a, d, _, w, _, _, b3, _, b5, b6, _, b8, _, _, w1, w2⟩ := C.tk hi
        have h1 : a' ≤ 1000 := by assumption
        have h2 : d' ≤ 60 := by assumption
        have ea : a' = a := (neq_iff (by omega) (by omega)).mp (ha.symm.trans b3)
        have ed : d' = d := (neq_iff (by omega) (by omega)).mp (hd.symm.trans b6)
        subst ea
        subst ed
        exact ⟨w, w1, w2⟩
    · refine mB.ref I rf6 (-6) (fun Q K => v_fn_set_0 (d := d + 4) _ x2 x3 C.1 (sp_tank C ht ⟨_, rfl, C.1, sn0, ss0 ⟨fun q => absurd q c1, fun _ => ⟨fun _ => ⟨fun _ => ⟨fun q => absurd c4 q, fun _ => ⟨fun q => absurd q c5, fun _ => sp_refC (Q := fun y h => Q (some (vi y)) h) C.1 rf6 K⟩⟩, fun q => absurd c3 q⟩, fun q => absurd c2 q⟩⟩⟩)) (fun Q s K => ?_)
      exact v_fm_set_0 (d := d + 7) _ x2 x3 s ⟨fun q => absurd q n0, fun _ => ⟨fun q => absurd q (ix C.k2), fun _ => ⟨fun q => absurd q c1, fun _ => ⟨fun q => absurd q c2', fun _ => ⟨fun q => absurd c4 q, fun _ => ⟨fun _ => ⟨fun q => absurd q c5, fun _ => sp_refM (Q := fun y h => Q (some (vi y)) h) s rf6 K⟩, fun q => absurd c3 q⟩⟩⟩⟩⟩⟩
  · by_cases c5 : x3 ≤ nI (a * dp)
    · obtain ⟨n, na, nb, rfl⟩ := rng (lo := 0) (hi := a * dp) c3 c5 (by omega) (by omega)
      have c5a : nI n ≤ hI h 6 t 2 * hI h 6 t 3 := by rw [hcap6]; exact c5
      have c5b : nI n ≤ hI h 11 8 t * hI h 11 9 t := by rw [hcap]; exact c5
      refine mB.mk (hI h 6 t 5) (setI h 6 t 5 (nI n)) (setI (setI (setI h 6 t 5 (nI n)) 11 11 t (nI n)) 10 0 55 0) (fun Q K => v_fn_set_0 (d := d + 4) _ _ _ C.1 (sp_tank C ht ⟨_, rfl, C.1, sn0, ss0 ⟨fun q => absurd q c1, fun _ => ⟨fun _ => ⟨fun _ => ⟨fun _ => ⟨fun _ => ⟨fun _ => K, fun q => absurd q c4⟩, fun q => absurd c5a q⟩, fun q => absurd q c4⟩, fun q => absurd c3 q⟩, fun q => absurd c2 q⟩⟩⟩)) (C.1.of rfl) ⟨rfl, fun _ => rfl⟩ (fun Q K => v_fm_set_0 (d := d + 7) _ _ _ (C.1.of rfl) ⟨fun q => absurd q n0, fun _ => ⟨fun q => absurd q (ix C.k2), fun _ => ⟨fun q => absurd q c1, fun _ => ⟨fun q => absurd q c2', fun _ => ⟨fun _ => ⟨hin, hin, fun _ => ⟨fun _ => ⟨fun _ => ⟨hin, fun _ => ⟨hin, ?_⟩, fun q => absurd q c4⟩, fun q => absurd q c4⟩, fun q => absurd (by rw [ct]; exact c5b) q⟩, fun q => absurd c3 q⟩, fun q => absurd q c4⟩⟩⟩⟩⟩) (mI.ch (C.chJ rfl rfl rfl rfl rfl rfl rfl rfl rfl (fun i hi => (C.tk hi).mk (((sameOn.rf.sI ?_).sI rfl).sI rfl) ?_ ?_ ?_ ?_ ?_ ?_) (fun i hi => (C.jn hi).mk (fun _ => rfl) (((sameOn.rf.sI rfl).sI rfl).sI rfl) (Nat.le_refl _) (Nat.le_refl _) (C.jn hi).b5 (C.jn hi).b6 (C.jn hi).b8 ((C.jn hi).up (by have := C.2.1.2.1; omega))) (fun k hk => (C.je hk).mk rfl (fun _ _ => rfl) (((sameOn.rf.sI rfl).sI rfl).sI rfl) (Nat.le_refl _) (C.je hk).b4 (C.je hk).bp) (fun v hv => (C.vw hv).mk (((sameOn.rf.sI rfl).sI rfl).sI rfl) (Nat.le_refl _) (Nat.le_refl _)) (C.sc.of (((sameOn.rf.sI rfl).sI rfl).sI rfl)) (C.pp.of (((sameOn.rf.sI rfl).sI rfl).sI rfl))) (I.2.1.mk (fun _ _ => ⟨rfl, rfl⟩) (fun _ _ => ⟨rfl, rfl⟩) (fun _ _ => rfl) (fun _ _ => rfl)) rfl) ⟨rfl, fun _ => rfl⟩
      · have e : hI (setI h 6 t 5 (nI n)) 11 11 t = hI h 6 t 5 := e5.symm
        rw [ct, e]
        exact K
      · exact Bool.and_false _
      · show hI (setI h 6 t 5 (nI n)) 6 i 4 = hI h 11 10 i
        rw [hI_nf (by decide)]; exact (C.tk hi).2.1.2.2.2.1
      · show hI (setI h 6 t 5 (nI n)) 6 i 5 = hI (setI h 11 11 t (nI n)) 11 11 i
        rw [hI_n2, hI_setI2]
        by_cases q : i = t
        · rw [if_pos q, if_pos q]
        · rw [if_neg q, if_neg q]; exact (C.tk hi).2.1.2.2.2.2.1
      · show hI (setI h 6 t 5 (nI n)) 6 i 6 = hI h 11 12 i
        rw [hI_nf (by decide)]; exact (C.tk hi).2.1.2.2.2.2.2.1
      · show hI (setI h 6 t 5 (nI n)) 6 i 7 = hI h 11 13 i
        rw [hI_nf (by decide)]; exact (C.tk hi).2.1.2.2.2.2.2.2
      · obtain ⟨_, _, _, _, _, s, _, _, _, _, _, _, _, _, _, s1, s2, _⟩ := C.tk hi
        exact ⟨s, s2, s1⟩
      · intro a' d' _ _ ha hd _ _
        show ∃ w : Nat, hI (setI h 11 11 t (nI n)) 11 11 i = nI w ∧ w ≤ a' * d'
        obtain ⟨_, _, _, a2, d2, _, w, _, _, b3', _, b5', b6', _, b8', _, _, w1, w2⟩ := C.tk hi
        have h1 : a' ≤ 1000 := by assumption
        have h2 : d' ≤ 60 := by assumption
        have ea : a' = a2 := (neq_iff (by omega) (by omega)).mp (ha.symm.trans b3')
        have ed : d' = d2 := (neq_iff (by omega) (by omega)).mp (hd.symm.trans b6')
        rw [hI_setI2]
        by_cases q : i = t
        · subst q
          have ea2 : a' = a := (neq_iff (by omega) (by omega)).mp (ha.symm.trans b3)
          have ed2 : d' = dp := (neq_iff (by omega) (by omega)).mp (hd.symm.trans b6)
          rw [if_pos rfl, ea2, ed2]
          exact ⟨n, rfl, nb⟩
        · rw [if_neg q, ea, ed]
          exact ⟨w, w1, w2⟩
    · have c5a : ¬ x3 ≤ hI h 6 t 2 * hI h 6 t 3 := by rw [hcap6]; exact c5
      have c5b : ¬ x3 ≤ hI h 11 8 t * hI h 11 9 t := by rw [hcap]; exact c5
      refine mB.ref I rf6 (-6) (fun Q K => v_fn_set_0 (d := d + 4) _ x2 x3 C.1 (sp_tank C ht ⟨_, rfl, C.1, sn0, ss0 ⟨fun q => absurd q c1, fun _ => ⟨fun _ => ⟨fun _ => ⟨fun _ => ⟨fun q => absurd q c5a, fun _ => sp_refC (Q := fun y h => Q (some (vi y)) h) C.1 rf6 K⟩, fun q => absurd q c4⟩, fun q => absurd c3 q⟩, fun q => absurd c2 q⟩⟩⟩)) (fun Q s K => ?_)
      exact v_fm_set_0 (d := d + 7) _ x2 x3 s ⟨fun q => absurd q n0, fun _ => ⟨fun q => absurd q (ix C.k2), fun _ => ⟨fun q => absurd q c1, fun _ => ⟨fun q => absurd q c2', fun _ => ⟨fun _ => ⟨hin, hin, fun _ => ⟨fun q => absurd (show x3 ≤ hI h 11 8 (nI t).toNatClampNeg * hI h 11 9 (nI t).toNatClampNeg from q) (by rw [ct]; exact c5b), fun _ => sp_refM (Q := fun y h => Q (some (vi y)) h) s rf6 K⟩, fun q => absurd c3 q⟩, fun q => absurd q c4⟩⟩⟩⟩⟩
end CORE
