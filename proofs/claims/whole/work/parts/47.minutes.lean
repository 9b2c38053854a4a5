/-! runs and sees of the model behind a change of the class's own cells; lasts, minutes -/
section CORE
variable {h h' hm : mH} {nT nJ nK nV nT' nJ' nK' : Nat} {vs : Nat → Nat}
theorem sameM.em (M : sameM h hm) : nEm hm = nEm h := by funext j; unfold nEm; rw [M.2 12 0 j rfl]
theorem sameM.ah (M : sameM h hm) : nA hm = nA h := by funext j; unfold nA; rw [M.2 11 14 j rfl]
theorem sameM.fd (M : sameM h hm) : nF hm = nF h := by funext j; unfold nF; rw [M.2 11 15 j rfl]
theorem sameM.ow (M : sameM h hm) : nOw hm = nOw h := by
  funext j
  unfold nOw
  rw [M.2 11 28 j rfl, M.2 11 20 j rfl, M.2 12 2 _ rfl, M.2 11 22 _ rfl]
theorem sameM.fl (M : sameM h hm) (n : Nat) : mFlw hm n = mFlw h n := by unfold mFlw; rw [M.em, M.ah, M.fd, M.ow]
theorem sameM.nl (M : sameM h hm) (fl : Nat → Int32) : nLs hm fl = nLs h fl := by
  funext j
  unfold nLs
  rw [M.2 11 18 j rfl, M.2 11 17 j rfl]
theorem sameM.lo (M : sameM h hm) (fl : Nat → Int32) : nLo hm fl = nLo h fl := by
  funext L j
  unfold nLo
  rw [M.em, M.ah, M.nl]
theorem sameM.ls (M : sameM h hm) (fl : Nat → Int32) (n : Nat) : mLs hm fl n = mLs h fl n := by
  unfold mLs
  rw [M.lo]
theorem sameM.as (M : sameM h hm) (nT nJ nK : Nat) : sameM (asIs h nT nJ nK) (asIs hm nT nJ nK) := by
  refine ⟨M.1, fun k n f r => ?_⟩
  have e1 : hI hm 11 19 = hI h 11 19 := by funext j; exact M.2 11 19 j rfl
  have e2 : hI hm 12 1 = hI h 12 1 := by funext j; exact M.2 12 1 j rfl
  have e3 : hI hm 11 11 = hI h 11 11 := by funext j; exact M.2 11 11 j rfl
  unfold asIs
  rw [hI_fillI, hI_fillI, hI_fillI, hI_fillI, hI_fillI, hI_fillI, e1, e2, e3, M.2 k n f r]
theorem sameM.rn (M : sameM h hm) (nT nJ : Nat) : sameM (rnC h nT nJ) (rnC hm nT nJ) := by
  refine ⟨M.1, fun k n f r => ?_⟩
  have e1 : nHd hm = nHd h := by
    funext L j
    unfold nHd
    rw [M.em, M.fd, M.2 11 33 _ rfl, M.2 11 7 _ rfl, M.2 11 8 _ rfl, M.2 11 16 _ rfl]
  unfold rnC rnH m2H mW
  rw [M.fl, M.ls, M.nl, e1, hI_fillI, hI_fillI, hI_fillI, hI_fillI, hI_fillI, hI_fillI, hI_fillI, hI_fillI, hI_fillI, hI_fillI, M.2 k n f r]
theorem sp_runsM {g : mG} {d : Nat} {Q : Option mV → mH → Prop} (C : mCore h nT nJ nK nV vs) (M : sameM h hm) (hon : ∀ k, k < nK → hI h 12 2 k = 0 ∨ hI h 12 2 k = 1) (hlk : ∀ j, j < nJ → ∃ l : Nat, l ≤ 60 ∧ hI h 11 28 j = nI l)
    (K : Q none (rnC hm nT nJ)) : mT g me_fm_runs (d + 1) 0 0 0 [some (vr 10 0), none, none, none] [] hm Q := by
  obtain ⟨f, o, e, hf, ho⟩ := C.flow hlk
  refine sp_runs (C.1.of M.1) ((M.2 10 0 2 rfl).trans C.k2) ((M.2 10 0 3 rfl).trans C.k3) C.2.1.1 C.2.1.2.1 C.2.1.2.2.1 (fun j hj => ?_) (fun k hk => ?_) (by rw [M.em, M.ah]; exact C.up) (fun j hj => ?_) (fun t ht => ?_) (mFlw hm nJ) rfl (L := mLs hm (mFlw hm nJ).1 nJ) ?_ ?_ K
  · rw [M.2 11 15 j rfl, M.2 11 14 j rfl, M.2 11 20 j rfl, M.2 12 0 j rfl]
    exact C.ms j hj
  · rw [M.2 12 2 k rfl]; exact hon k hk
  · rw [M.2 11 17 j rfl]; exact C.sz.2 j hj
  · rw [M.2 11 8 t rfl]; exact C.ar t ht
  · rw [M.fl, M.ls, M.lo]
    exact C.ls _
  · rw [M.fl, M.ls, M.em]
    refine C.lspos (f := f) fun j hj => ?_
    rw [e]
    exact ⟨rfl, hf j hj⟩
theorem sp_seesM {g : mG} {d : Nat} {Q : Option mV → mH → Prop} (C : mCore h nT nJ nK nV vs) (M : sameM h hm) (K : Q none (seH hm nT nJ nK)) : mT g me_fm_sees (d + 2) 0 0 0 [some (vr 10 0)] [] hm Q := by
  have R := sameR.as h nT nJ nK
  have C' := C.of R
  have hs := C.1.of M.1
  refine v_fm_sees_0 hs ?_
  refine sp_asItIs hs ((M.2 10 0 2 rfl).trans C.k2) ((M.2 10 0 3 rfl).trans C.k3) ((M.2 10 0 4 rfl).trans C.k4) C.2.1.1 C.2.1.2.1 C.2.1.2.2.1 (fun k hk => by rw [M.2 12 1 k rfl]; exact C.pl hk) ⟨rfl, hs.of (sameR.as _ nT nJ nK).1, ?_⟩
  refine sp_runsM C' (M.as nT nJ nK) (fun k hk => by rw [asIs_on hk]; exact C.pl hk) (fun j hj => ?_) ⟨rfl, (hs.of (sameR.as _ nT nJ nK).1).of (sameR.rn _ _ _ _ _).1, K⟩
  obtain ⟨l, l1, _, l2⟩ := C.lk hj
  exact ⟨l, l1, by rw [asIs_lk hj]; exact l2⟩
theorem mCore.seO (C : mCore h nT nJ nK nV vs) (M : sameM (asC h nT nJ) hm) {t : Nat} (ht : t < nT) : hI (seH hm nT nJ nK) 11 34 t = hI (asC h nT nJ) 6 t 8 := by
  rw [C.se8 ht]
  unfold seH rnC
  rw [rnH_34 ht, rnH_34 ht, (M.as nT nJ nK).fl]
theorem seH_33 {t : Nat} (ht : t < nT) : hI (seH hm nT nJ nK) 11 33 t = hI hm 11 11 t := asIs_33 ht
theorem op_lasts {g : mG} {d : Nat} (I : mI h nT nJ nK nV vs) (x : Int32) : mB g me_fn_lasts me_fm_lasts (d + 9) 0 0 [some (vr 0 0), some (vi x), none, none, none] [some (vr 10 0), some (vi x), none] h := by
  have C := I.1
  have bT := C.2.1.1
  rcases ix_cases x (n := nT) (by omega) with hx | ⟨t, ht, rfl⟩
  · refine mB.ref I rf1 (-1) (fun Q K => v_fn_lasts_0 (d := d + 2) x C.1 (sp_tankNo C hx ⟨none, rfl, C.1, fun _ => sp_refC (Q := fun y h => Q (some (vi y)) h) C.1 rf1 K, ns0⟩)) (fun Q s K => ?_)
    exact v_fm_lasts_0 (d := d + 6) x s ⟨fun _ => sp_refM (Q := fun y h => Q (some (vi y)) h) s rf1 K, fun q => ⟨fun _ => sp_refM (Q := fun y h => Q (some (vi y)) h) s rf1 K, fun q2 => (hx.no C.k2 q q2).elim⟩⟩
  have n0 : ¬ nI t < 0 := nnneg (by omega)
  have hin : vp_in (nI t) 4 := nin (by omega) (by omega)
  have ct : (nI t).toNatClampNeg = t := nc (by omega)
  obtain ⟨cap, s, w, hN⟩ := C.tks
  obtain ⟨o, hO⟩ := C.outN
  obtain ⟨a1, a2, a3, a4, a5, a6, a7, a8, a9⟩ := hN t ht
  obtain ⟨o1, o2⟩ := hO t ht
  have eR := sameA.rk h nT nJ (hI h 1 0 3) 0
  have R0 : sameA h (asC h nT nJ) := eR
  have C1 := C.of R0.R
  refine mB.mkR (lst (cap t) (s t) (o t) 1441 0 (w t)) (fun hC => hC = asC h nT nJ) (fun hC hM => sameA hC hM) (fun Q K => ?_) (fun hC p => by subst p; exact ⟨C1.1, R0.kp⟩) (fun hC p Q K => ?_) (fun hC hM p p2 => by subst p; exact ⟨⟨nT, nJ, nK, nV, vs, mI.of I (R0.tr p2)⟩, p2.kp⟩)
  · have lp : ∀ m k w', k + m = 1441 → w' ≤ cap t → Q (some (vi (lst (cap t) (s t) (o t) m k w'))) (asC h nT nJ) → mT g me_fn_lasts (d + 9) 0 0 34 [some (vr 0 0), some (vi (nI t)), some (vr 6 t), some (vi (nI w')), some (vi (nI k))] [] (asC h nT nJ) Q := by
      intro m
      induction m with
      | zero =>
        intro k w' hk hw K
        exact v_fn_lasts_34 (d := d + 2) _ _ _ _ C1.1 ⟨fun _ => K, fun q => absurd (nlt (a := 1440) (b := k) (by omega) (by omega)) q⟩
      | succ m ih =>
        intro k w' hk hw K
        have hl : lst (cap t) (s t) (o t) (m + 1) k w' = if w' = 0 then nI k else lst (cap t) (s t) (o t) m (k + 1) (fil (cap t) (s t) w' - o t) := rfl
        rw [hl] at K
        refine v_fn_lasts_34 (d := d + 2) _ _ _ _ C1.1 ⟨fun q => absurd q (nnlt (a := 1440) (b := k) (by omega) (by omega)), fun _ => ⟨fun q => ?_, fun q => ?_⟩⟩
        · have e1 : hI (asC h nT nJ) 6 t 2 * hI (asC h nT nJ) 6 t 3 = nI (cap t) := by
            rw [R0.2 6 t 2 rfl, R0.2 6 t 3 rfl]; exact a2
          rw [e1, R0.2 6 t 4 rfl, a5, o1, nI_add, nI_1, if_mn (by omega) (by omega)]
          have hf : min (w' + s t) (cap t) = fil (cap t) (s t) w' := rfl
          have hb : fil (cap t) (s t) w' ≤ cap t := by unfold fil; omega
          rw [hf, if_s2 (by omega) (by omega)]
          refine ih (k + 1) _ (by omega) (by omega) ?_
          rw [if_neg (fun z => q (by rw [z]; rfl))] at K
          exact K
        · rw [if_pos ((neq_iff (b := 0) (by omega) (by omega)).mp q)] at K
          exact K
    refine v_fn_lasts_0 (d := d + 2) _ C.1 (sp_tank C ht ⟨_, rfl, C.1, sn0, ss0 (sp_asC C ⟨rfl, C1.1, ?_⟩)⟩)
    rw [R0.2 6 t 5 rfl, a8]
    exact lp 1441 0 (w t) rfl a9 (K _ rfl)
  · subst p
    have hS := sameA.se (asC h nT nJ) nT nJ nK
    have lp : ∀ m k w' h2, k + m = 1441 → w' ≤ cap t → h2.1 = (seH (asC h nT nJ) nT nJ nK).1 → (∀ k n f, ¬ (k = 10 ∧ 40 ≤ f ∧ f ≤ 42) → ¬ (k = 11 ∧ n = 33 ∧ f = t) → hI h2 k n f = hI (seH (asC h nT nJ) nT nJ nK) k n f) → hI h2 11 33 t = nI w' → (∀ hM, sameA (asC h nT nJ) hM → Q (some (vi (lst (cap t) (s t) (o t) m k w'))) hM) → mT g me_fm_lasts (d + 9) 0 0 23 [some (vr 10 0), some (vi (nI t)), some (vi (nI k))] [] h2 Q := by
      intro m
      induction m with
      | zero =>
        intro k w' h2 hk hw e R v K
        have RA : sameA (asC h nT nJ) h2 := hS.tr ⟨e, fun k n f r => R k n f (fun z => by rw [z.1] at r; unfold relA rel at r; simp at r; omega) (fun z => by rw [z.1, z.2.1] at r; exact absurd (show false = true from r) (by decide))⟩
        exact v_fm_lasts_23 (d := d + 6) _ _ (C1.1.of RA.1) ⟨fun _ => K h2 RA, fun q => absurd (nlt (a := 1440) (b := k) (by omega) (by omega)) q⟩
      | succ m ih =>
        intro k w' h2 hk hw e R v K
        have RA : sameA (asC h nT nJ) h2 := hS.tr ⟨e, fun k n f r => R k n f (fun z => by rw [z.1] at r; unfold relA rel at r; simp at r; omega) (fun z => by rw [z.1, z.2.1] at r; exact absurd (show false = true from r) (by decide))⟩
        have hl : lst (cap t) (s t) (o t) (m + 1) k w' = if w' = 0 then nI k else lst (cap t) (s t) (o t) m (k + 1) (fil (cap t) (s t) w' - o t) := rfl
        rw [hl] at K
        refine v_fm_lasts_23 (d := d + 6) _ _ (C1.1.of RA.1) ⟨fun q => absurd q (nnlt (a := 1440) (b := k) (by omega) (by omega)), fun _ => ⟨hin, ?_⟩⟩
        rw [ct, v]
        refine ⟨fun q => ?_, fun q => ?_⟩
        · have e1 : hI h2 11 8 t * hI h2 11 9 t = nI (cap t) := by
            rw [R 11 8 t (by omega) (by omega), R 11 9 t (by omega) (by omega)]; exact a1
          have e2 : hI h2 11 10 t = nI (s t) := (R 11 10 t (by omega) (by omega)).trans a4
          have e3 : hI h2 11 34 t = nI (o t) := by
            rw [R 11 34 t (by omega) (by omega), C.seO sameM.rf ht]; exact o1
          refine sp_passes (d := d + 7) (C1.1.of RA.1) (by omega) v e2 e1 e3 (by omega) (by omega) (by omega) (by omega) fun h3 p => ⟨rfl, C1.1.of (p.1.trans RA.1), ?_⟩
          have hb : fil (cap t) (s t) w' ≤ cap t := by unfold fil; omega
          rw [nI_1]
          refine ih (k + 1) _ h3 (by omega) (by omega) (p.1.trans e) (fun k n f z1 z2 => (p.2.1 k n f z1 z2).trans (R k n f z1 z2)) p.2.2.2.2.2 ?_
          rw [if_neg (fun z => q (by rw [z]; rfl))] at K
          exact K
        · rw [if_pos ((neq_iff (b := 0) (by omega) (by omega)).mp q)] at K
          exact K h2 RA
    refine v_fm_lasts_0 (d := d + 6) _ C1.1 ⟨fun q => absurd q n0, fun _ => ⟨fun q => absurd q (ix_le C1.k2 ht (by omega)), fun _ => sp_sees C1 ⟨rfl, C1.1.of hS.1, ?_⟩⟩⟩
    refine lp 1441 0 (w t) _ rfl a9 rfl (fun _ _ _ _ _ => rfl) ?_ K
    rw [seH_33 ht, R0.2 11 11 t rfl]
    exact a7
end CORE
