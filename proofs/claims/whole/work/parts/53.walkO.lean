/-! walk, most -/
section CORE
variable {h h' hm : mH} {nT nJ nK nV nT' nJ' nK' : Nat} {vs : Nat → Nat}
theorem sameA.sym {a b : mH} (R : sameA a b) : sameA b a := ⟨R.1.symm, fun k n f r => (R.2 k n f r).symm⟩
/-- where there is a view there is a tank -/
theorem mCore.tank1 (C : mCore h nT nJ nK nV vs) (hV : 0 < nV) : 0 < nT := by
  obtain ⟨_, _, _, _, _, _, _, p, b, b1, b2⟩ := C.vw hV
  have hK : 0 < nK := by
    by_cases z : nK = 0
    · exfalso
      have : b = 0 := by omega
      subst this
      rw [show mBit 0 = 1 from by decide] at b2
      rw [ilt] at p b2
      rw [show (0 : Int32).toInt = 0 from rfl] at p
      rw [show (1 : Int32).toInt = 1 from rfl] at b2
      omega
    · omega
  have := (C.nF_lt (C.nP_lt hK).1).1
  omega
theorem sp_walksM {g : mG} {d m last : Nat} {may : Int32} {Q : Option mV → mH → Prop} (C : mCore h nT nJ nK nV vs) (R0 : sameA h hm) (h0V : 0 < nV) (hM : hI hm 10 0 1 = nI m) (hlast : vT h (nV - 1) = last) (hml : m ≤ last) (K : ∀ h2, sameA h h2 → mWr h2 (wk h nT nJ nK nV (decide (¬ may = 0)) (last + 1 - m) m (s0 h nT)) → Q none h2) : mT g me_fm_walks (d + 3) 0 0 0 [some (vr 10 0), some (vi may), none, none, none, none] [] hm Q := by
  have bT := C.2.1.1
  have hT := C.tank1 h0V
  have bl : last ≤ 1440 := by rw [← hlast]; exact (C.vn (v := nV - 1) (by omega)).2.2.2.2.2.1
  have Cm := C.of R0.R
  have hSe := sameA.se hm nT nJ nK
  have R1 : sameA h (seH hm nT nJ nK) := R0.tr hSe
  have sk : mSK (seH hm nT nJ nK) := C.1.of R1.1
  have bw0 := (C.num hT).2.2.2.2.2.2.2.2
  have bc0 := (C.num hT).2.2.1
  refine v_fm_walks_0 _ Cm.1 (sp_sees (d := d) Cm ⟨rfl, sk, ?_⟩)
  have R2 : sameA h (setI (setI (setI (setI (setI (setI (seH hm nT nJ nK) 10 0 43 (-9)) 10 0 44 (-9)) 10 0 45 (-9)) 10 0 46 0) 10 0 47 (-1)) 10 0 48 500) := (((((R1.sI rfl).sI rfl).sI rfl).sI rfl).sI rfl).sI rfl
  have v33 : ∀ t, t < nT → hI (setI (setI (setI (setI (setI (setI (seH hm nT nJ nK) 10 0 43 (-9)) 10 0 44 (-9)) 10 0 45 (-9)) 10 0 46 0) 10 0 47 (-1)) 10 0 48 500) 11 33 t = nI (wt h t) := fun t ht => by
    show hI (seH hm nT nJ nK) 11 33 t = _
    rw [seH_33 ht, R0.2 11 11 t rfl]
    exact (C.num ht).2.2.2.2.2.2.1
  have v28 : ∀ j, j < nJ → hI (setI (setI (setI (setI (setI (setI (seH hm nT nJ nK) 10 0 43 (-9)) 10 0 44 (-9)) 10 0 45 (-9)) 10 0 46 0) 10 0 47 (-1)) 10 0 48 500) 11 28 j = hI h 11 19 j := fun j hj => by
    show hI (asIs hm nT nJ nK) 11 28 j = _
    rw [asIs_lk hj, R0.2 11 19 j rfl]
  have v46 : hI (setI (setI (setI (setI (setI (setI (seH hm nT nJ nK) 10 0 43 (-9)) 10 0 44 (-9)) 10 0 45 (-9)) 10 0 46 0) 10 0 47 (-1)) 10 0 48 500) 10 0 46 = 0 := rfl
  have v48 : hI (setI (setI (setI (setI (setI (setI (seH hm nT nJ nK) 10 0 43 (-9)) 10 0 44 (-9)) 10 0 45 (-9)) 10 0 46 0) 10 0 47 (-1)) 10 0 48 500) 10 0 48 = 500 := rfl
  have v43 : hI (setI (setI (setI (setI (setI (setI (seH hm nT nJ nK) 10 0 43 (-9)) 10 0 44 (-9)) 10 0 45 (-9)) 10 0 46 0) 10 0 47 (-1)) 10 0 48 500) 10 0 43 = -9 := rfl
  have v44 : hI (setI (setI (setI (setI (setI (setI (seH hm nT nJ nK) 10 0 43 (-9)) 10 0 44 (-9)) 10 0 45 (-9)) 10 0 46 0) 10 0 47 (-1)) 10 0 48 500) 10 0 44 = -9 := rfl
  have v45 : hI (setI (setI (setI (setI (setI (setI (seH hm nT nJ nK) 10 0 43 (-9)) 10 0 44 (-9)) 10 0 45 (-9)) 10 0 46 0) 10 0 47 (-1)) 10 0 48 500) 10 0 45 = -9 := rfl
  have v47 : hI (setI (setI (setI (setI (setI (setI (seH hm nT nJ nK) 10 0 43 (-9)) 10 0 44 (-9)) 10 0 45 (-9)) 10 0 46 0) 10 0 47 (-1)) 10 0 48 500) 10 0 47 = -1 := rfl
  generalize setI (setI (setI (setI (setI (setI (seH hm nT nJ nK) 10 0 43 (-9)) 10 0 44 (-9)) 10 0 45 (-9)) 10 0 46 0) 10 0 47 (-1)) 10 0 48 500 = hS at R2 v33 v28 v46 v48 v43 v44 v45 v47
  have skS := C.1.of R2.1
  have c2 : hI hS 10 0 2 = nI nT := (R2.2 10 0 2 rfl).trans C.k2
  refine v_fm_looksAt_0 (d := d + 1) skS ?_
  refine v_fm_looksAt_2 _ skS ⟨fun q => absurd q (by rw [c2]; exact nnle (b := 0) hT (by omega)), fun _ => ⟨fun q => absurd q (by rw [v47]; decide), fun _ => ⟨nin (n := 0) (by omega) (by omega), ?_⟩⟩⟩
  have e0 : (0 : Int32).toNatClampNeg = 0 := rfl
  rw [e0, v33 0 hT]
  have el : lowT (wt h) 60000 1 = nI (wt h 0) := by
    show (if nI (wt h 0) < 60000 then nI (wt h 0) else 60000) = _
    by_cases q : nI (wt h 0) < 60000
    · rw [if_pos q]
    · rw [if_neg q]
      have : wt h 0 = 60000 := by
        have : ¬ wt h 0 < 60000 := fun z => q (nlt (b := 60000) z (by omega))
        omega
      rw [this]
      rfl
  rw [← el]
  refine sp_looks (d := d + 1) (W := wt h) (l := 60000) skS bT c2 (by decide) (fun t ht => ?_) v33 ⟨rfl, skS.of rfl, ?_⟩ 1 (by omega)
  · have a := (C.num ht).2.2.2.2.2.2.2.2
    have b := (C.num ht).2.2.1
    omega
  · have em : hI (setI hS 10 0 47 (lowT (wt h) 60000 nT)) 10 0 1 = nI m := by
      refine (hI_nf (by decide)).trans ?_
      rw [R2.2 10 0 1 rfl, ← R0.2 10 0 1 rfl]
      exact hM
    rw [em]
    refine sp_walk48 C h0V hlast (last + 1 - m) m (Or.inl (by omega)) (by omega) _ (s0 h nT) none none none ⟨R2.sI rfl, fun t ht => v33 t ht, ⟨?_, hI_eq, ?_, ?_, ?_, ?_⟩, v28⟩ (fun t ht => (C.num ht).2.2.2.2.2.2.2.2) (lowT_pos nT (by decide) fun t ht => ?_) K
    · exact (hI_nf (by decide)).trans v46
    · exact (hI_nf (by decide)).trans v48
    · exact (hI_nf (by decide)).trans v43
    · exact (hI_nf (by decide)).trans v44
    · exact (hI_nf (by decide)).trans v45
    · have a := (C.num ht).2.2.2.2.2.2.2.2
      have b := (C.num ht).2.2.1
      omega
/-- is there a walk ahead -/
theorem mCore.ahead (C : mCore h nT nJ nK nV vs) {m : Nat} (m0 : m ≤ 1440) : lstM h nV < nI m ∨ (0 < nV ∧ ∃ last, vT h (nV - 1) = last ∧ lstM h nV = nI last ∧ last ≤ 1440 ∧ m ≤ last) := by
  by_cases z : nV = 0
  · refine Or.inl ?_
    unfold lstM
    rw [if_pos z, ilt, nI_toInt (by omega), show (-1 : Int32).toInt = -1 from rfl]
    omega
  · have hb := (C.vn (v := nV - 1) (by omega)).2.2.2.2.2.1
    by_cases q : vT h (nV - 1) < m
    · refine Or.inl ?_
      unfold lstM
      rw [if_neg z]
      exact nlt q (by omega)
    · refine Or.inr ⟨by omega, _, rfl, ?_, hb, by omega⟩
      unfold lstM
      rw [if_neg z]
theorem sp_aheadC {g : mG} {d m : Nat} {Q : Option mV → mH → Prop} (C : mCore h nT nJ nK nV vs) (m1 : hI h 1 0 4 = nI m) (K0 : lstM h nV < nI m → Q (some (vi 0)) h) (K1 : ¬ lstM h nV < nI m → Q (some (vi 1)) h) : mT g me_sr_isAhead (d + 5) 0 0 0 [some (vr 3 0)] [] h Q := by
  refine v_sr_isAhead_0 C.1 (sp_lastC (d := d) C sameA.rf ⟨_, rfl, C.1, ?_⟩)
  rw [m1]
  exact ⟨K0, K1⟩
theorem sp_hasM {g : mG} {d m : Nat} {Q : Option mV → mH → Prop} (C : mCore h nT nJ nK nV vs) (M : sameM h hm) (R : hI hm 11 26 = hI h 11 26) (m0 : m ≤ 1440) (m2 : hI h 10 0 1 = nI m) (K0 : lstM h nV < nI m → Q (some (vi 0)) hm) (K1 : ¬ lstM h nV < nI m → Q (some (vi 1)) hm) : mT g me_fm_hasWalk (d + 1) 0 0 0 [some (vr 10 0)] [] hm Q := by
  have bV := C.2.1.2.2.2
  refine v_fm_hasWalk_0 (C.1.of M.1) ?_
  rw [M.2 10 0 5 rfl, C.k5, M.2 10 0 1 rfl, m2, R]
  unfold lstM at K0 K1
  by_cases z : nV = 0
  · refine ⟨fun _ => K0 ?_, fun q => absurd (by rw [z]; exact Int32.le_refl _) q⟩
    rw [if_pos z, ilt, nI_toInt (by omega), show (-1 : Int32).toInt = -1 from rfl]
    omega
  · rw [if_neg z] at K0 K1
    refine ⟨fun q => absurd q (nI_nle (by omega) (by omega)), fun _ => ?_⟩
    rw [show (1 : Int32) = nI 1 from rfl, pk_sub (by omega), nc (by omega), (C.vn (v := nV - 1) (by omega)).2.2.2.1]
    exact ⟨nin (by omega) (by omega), K0, K1⟩
theorem sw_4 (x : Int32) (h1 : ¬ x < 0) (h2 : x ≤ 4) : x = 0 ∨ x = 1 ∨ x = 2 ∨ x = 3 ∨ x = 4 := by
  obtain ⟨n, _, n1, rfl⟩ := rng (lo := 0) (hi := 4) (x := x) (Int32.not_lt.mp h1) h2 (by omega) (by omega)
  rcases (show n = 0 ∨ n = 1 ∨ n = 2 ∨ n = 3 ∨ n = 4 by omega) with rfl | rfl | rfl | rfl | rfl
  · exact Or.inl rfl
  · exact Or.inr (Or.inl rfl)
  · exact Or.inr (Or.inr (Or.inl rfl))
  · exact Or.inr (Or.inr (Or.inr (Or.inl rfl)))
  · exact Or.inr (Or.inr (Or.inr (Or.inr rfl)))
def r6a (x : Int32) (r : R6) : Int32 := if x = 0 then r.1.1 else if x = 1 then r.1.2.1 else if x = 2 then r.1.2.2 else if x = 3 then r.2.1 else r.2.2.1
theorem op_walk {g : mG} {d : Nat} (I : mI h nT nJ nK nV vs) (x : Int32) : mB g me_fn_walk me_fm_walk (d + 9) 0 0 [some (vr 0 0), some (vi x)] [some (vr 10 0), some (vi x)] h := by
  have C := I.1
  obtain ⟨⟨m, m0, m1, m2⟩, _⟩ := C.sc
  by_cases c1 : x < 0
  · exact mB.ref I rf2 (-2) (fun Q K => v_fn_walk_0 (d := d + 2) _ C.1 ⟨fun _ => sp_refC (Q := fun y h => Q (some (vi y)) h) C.1 rf2 K, fun q => absurd c1 q⟩) (fun Q s K => v_fm_walk_0 (d := d + 5) _ s ⟨fun _ => sp_refM (Q := fun y h => Q (some (vi y)) h) s rf2 K, fun q => absurd c1 q⟩)
  by_cases c2 : x ≤ 4
  case neg =>
    have c2' : (5 : Int32) ≤ x := by
      rw [ile] at c2 ⊢
      rw [show (4 : Int32).toInt = 4 from rfl] at c2
      rw [show (5 : Int32).toInt = 5 from rfl]
      omega
    exact mB.ref I rf2 (-2) (fun Q K => v_fn_walk_0 (d := d + 2) _ C.1 ⟨fun q => absurd q c1, fun _ => ⟨fun q => absurd q c2, fun _ => sp_refC (Q := fun y h => Q (some (vi y)) h) C.1 rf2 K⟩⟩) (fun Q s K => v_fm_walk_0 (d := d + 5) _ s ⟨fun q => absurd q c1, fun _ => ⟨fun _ => sp_refM (Q := fun y h => Q (some (vi y)) h) s rf2 K, fun q => absurd c2' q⟩⟩)
  have c2' : ¬ (5 : Int32) ≤ x := by
    rw [ile] at c2 ⊢
    rw [show (4 : Int32).toInt = 4 from rfl] at c2
    rw [show (5 : Int32).toInt = 5 from rfl]
    omega
  rcases C.ahead m0 with ha | ⟨h0V, last, hlast, hl, bl, hml⟩
  · refine mB.ref I rf3 (-3) (fun Q K => v_fn_walk_0 (d := d + 2) _ C.1 ⟨fun q => absurd q c1, fun _ => ⟨fun _ => sp_aheadC (d := d + 3) C m1 (fun _ => ⟨_, rfl, C.1, fun q => absurd rfl q, fun _ => sp_refC (Q := fun y h => Q (some (vi y)) h) C.1 rf3 K⟩) (fun q => absurd ha q), fun q => absurd c2 q⟩⟩) (fun Q s K => v_fm_walk_0 (d := d + 5) _ s ⟨fun q => absurd q c1, fun _ => ⟨fun q => absurd q c2', fun _ => sp_hasM (d := d + 7) C sameM.rfC rfl m0 m2 (fun _ => ⟨_, rfl, s, fun q => absurd rfl q, fun _ => sp_refM (Q := fun y h => Q (some (vi y)) h) s rf3 K⟩) (fun q => absurd ha q)⟩⟩)
  · have hna : ¬ lstM h nV < nI m := by rw [hl]; exact nnlt hml (by omega)
    refine mB.qR I (r6a x (wk h nT nJ nK nV (decide (¬ (1 : Int32) = 0)) (last + 1 - m) m (s0 h nT))) (fun Q K => ?_) (fun hC R I' Q K => ?_)
    · refine v_fn_walk_0 (d := d + 2) _ C.1 ⟨fun q => absurd q c1, fun _ => ⟨fun _ => sp_aheadC (d := d + 3) C m1 (fun q => absurd q hna) (fun _ => ⟨_, rfl, C.1, fun _ => ?_, fun q => absurd q (by decide)⟩), fun q => absurd c2 q⟩⟩
      refine sp_goC (d := d + 2) C m1 hl bl hml fun h2 R2 rr => ⟨rfl, C.1.of R2.1, ?_⟩
      obtain ⟨r1, r2, r3, r4, r5, r6⟩ := rr
      have K2 := K h2 R2
      unfold r6a at K2
      rw [r1, r2, r3, r4, r5]
      rcases sw_4 x c1 c2 with rfl | rfl | rfl | rfl | rfl
      · exact ⟨fun _ => K2, fun q => absurd q (by decide), fun q => absurd q (by decide), fun q => absurd q (by decide), fun q => absurd rfl q⟩
      · exact ⟨fun q => absurd q (by decide), fun _ => K2, fun q => absurd q (by decide), fun q => absurd q (by decide), fun _ q => absurd rfl q⟩
      · exact ⟨fun q => absurd q (by decide), fun q => absurd q (by decide), fun _ => K2, fun q => absurd q (by decide), fun _ _ q => absurd rfl q⟩
      · exact ⟨fun q => absurd q (by decide), fun q => absurd q (by decide), fun q => absurd q (by decide), fun _ => K2, fun _ _ _ q => absurd rfl q⟩
      · exact ⟨fun q => absurd q (by decide), fun q => absurd q (by decide), fun q => absurd q (by decide), fun q => absurd q (by decide), fun _ _ _ _ => K2⟩
    · have m2' : hI hC 10 0 1 = nI m := (R.2 10 0 1 rfl).trans m2
      have hl' : lstM hC nV = nI last := by rw [← hl]; unfold lstM vT; rw [R.2 11 26 _ rfl]
      have hna' : ¬ lstM hC nV < nI m := by rw [hl']; exact nnlt hml (by omega)
      refine v_fm_walk_0 (d := d + 5) _ I'.1.1 ⟨fun q => absurd q c1, fun _ => ⟨fun q => absurd q c2', fun _ => sp_hasM (d := d + 7) I'.1 sameM.rf rfl m0 m2' (fun q => absurd q hna') (fun _ => ⟨_, rfl, I'.1.1, fun _ => ?_, fun q => absurd q (by decide)⟩)⟩⟩
      refine sp_walksM (d := d + 5) C R h0V m2' hlast hml fun h2 R2 rr => ⟨rfl, C.1.of R2.1, ?_⟩
      obtain ⟨r1, r2, r3, r4, r5, r6⟩ := rr
      have K2 := K h2 (R.sym.tr R2)
      unfold r6a at K2
      rw [r1, r2, r3, r4, r5]
      rcases sw_4 x c1 c2 with rfl | rfl | rfl | rfl | rfl
      · exact ⟨fun q => absurd rfl q, fun _ => K2⟩
      · exact ⟨fun _ => ⟨fun q => absurd rfl q, fun _ => K2⟩, fun q => absurd q (by decide)⟩
      · exact ⟨fun _ => ⟨fun _ => ⟨fun q => absurd rfl q, fun _ => K2⟩, fun q => absurd q (by decide)⟩, fun q => absurd q (by decide)⟩
      · exact ⟨fun _ => ⟨fun _ => ⟨fun _ => ⟨fun q => absurd rfl q, fun _ => K2⟩, fun q => absurd q (by decide)⟩, fun q => absurd q (by decide)⟩, fun q => absurd q (by decide)⟩
      · exact ⟨fun _ => ⟨fun _ => ⟨fun _ => ⟨fun _ => K2, fun q => absurd q (by decide)⟩, fun q => absurd q (by decide)⟩, fun q => absurd q (by decide)⟩, fun q => absurd q (by decide)⟩
theorem op_most {g : mG} {d : Nat} (I : mI h nT nJ nK nV vs) : mB g me_fn_most me_fm_most (d + 9) 0 0 [some (vr 0 0)] [some (vr 10 0)] h := by
  have C := I.1
  obtain ⟨⟨m, m0, m1, m2⟩, _⟩ := C.sc
  rcases C.ahead m0 with ha | ⟨h0V, last, hlast, hl, bl, hml⟩
  · refine mB.ref I rf3 (-3) (fun Q K => v_fn_most_0 (d := d + 2) C.1 (sp_aheadC (d := d + 3) C m1 (fun _ => ⟨_, rfl, C.1, fun q => absurd rfl q, fun _ => sp_refC (Q := fun y h => Q (some (vi y)) h) C.1 rf3 K⟩) (fun q => absurd ha q))) (fun Q s K => v_fm_most_0 (d := d + 5) s (sp_hasM (d := d + 7) C sameM.rfC rfl m0 m2 (fun _ => ⟨_, rfl, s, fun q => absurd rfl q, fun _ => sp_refM (Q := fun y h => Q (some (vi y)) h) s rf3 K⟩) (fun q => absurd ha q)))
  · have hna : ¬ lstM h nV < nI m := by rw [hl]; exact nnlt hml (by omega)
    refine mB.qR I (wk h nT nJ nK nV (decide (¬ (0 : Int32) = 0)) (last + 1 - m) m (s0 h nT)).2.2.2 (fun Q K => ?_) (fun hC R I' Q K => ?_)
    · refine v_fn_most_0 (d := d + 2) C.1 (sp_aheadC (d := d + 3) C m1 (fun q => absurd q hna) (fun _ => ⟨_, rfl, C.1, fun _ => ?_, fun q => absurd q (by decide)⟩))
      refine sp_goC (d := d + 2) C m1 hl bl hml fun h2 R2 rr => ⟨rfl, C.1.of R2.1, ?_⟩
      rw [rr.2.2.2.2.2]
      exact K h2 R2
    · have m2' : hI hC 10 0 1 = nI m := (R.2 10 0 1 rfl).trans m2
      have hl' : lstM hC nV = nI last := by rw [← hl]; unfold lstM vT; rw [R.2 11 26 _ rfl]
      have hna' : ¬ lstM hC nV < nI m := by rw [hl']; exact nnlt hml (by omega)
      refine v_fm_most_0 (d := d + 5) I'.1.1 (sp_hasM (d := d + 7) I'.1 sameM.rf rfl m0 m2' (fun q => absurd q hna') (fun _ => ⟨_, rfl, I'.1.1, fun _ => ?_, fun q => absurd q (by decide)⟩))
      refine sp_walksM (d := d + 5) C R h0V m2' hlast hml fun h2 R2 rr => ⟨rfl, C.1.of R2.1, ?_⟩
      rw [rr.2.2.2.2.2]
      exact K h2 (R.sym.tr R2)
end CORE
