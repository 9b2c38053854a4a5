/-! minutes -/
/-- all of the core that minutes leave as it was -/
def pX (k n f : Nat) : Bool := match k with
  | 0 => f == 6
  | 2 => f == 1
  | 5 => f == 1
  | 1 => f == 3
  | 6 => Nat.blt f 5
  | 7 => Nat.blt f 9
  | 8 => true
  | 9 => true
  | 10 => Nat.blt f 8 && !(f == 1)
  | 11 => Nat.ble 5 n && Nat.ble n 27 && !(Nat.ble 11 n && Nat.ble n 13)
  | 12 => Nat.ble n 1
  | 14 => true
  | _ => false
theorem pX_A {k n f : Nat} (r : pX k n f = true) : relA k n f = true := by
  unfold pX at r
  unfold relA rel
  split at r <;> simp only [Bool.or_eq_true, Bool.and_eq_true, beq_iff_eq, Nat.blt_eq, Nat.ble_eq, Bool.not_eq_true', beq_eq_false_iff_ne, Bool.and_eq_false_iff] at r ⊢
  all_goals first | omega | (cases r; done) | trivial | skip
section CORE
variable {h h' hm : mH} {nT nJ nK nV nT' nJ' nK' : Nat} {vs : Nat → Nat}
theorem sameOn.X {h h' : mH} (R : sameA h h') : sameOn pX h h' := fun k n f r => R.2 k n f (pX_A r)
theorem sameOn.sub {p q : Nat → Nat → Nat → Bool} {h h' : mH} (R : sameOn q h h') (s : ∀ k n f, p k n f = true → q k n f = true) : sameOn p h h' := fun k n f r => R k n f (s k n f r)
theorem pT_X {i k n f : Nat} (r : pT i k n f = true) : pX k n f = true := by
  unfold pT at r
  unfold pX
  split at r
  · simp only [Bool.and_eq_true, beq_iff_eq, Nat.blt_eq] at r ⊢
    omega
  · simp only [Bool.or_eq_true, Bool.and_eq_true, beq_iff_eq] at r
    rcases r with ⟨(rfl | rfl) | rfl, _⟩ <;> rfl
  · cases r
theorem pJ_X {nK j k n f : Nat} (r : pJ nK j k n f = true) : pX k n f = true := by
  unfold pJ at r
  unfold pX
  split at r
  · simp only [Bool.or_eq_true, Bool.and_eq_true, beq_iff_eq, Nat.blt_eq] at r ⊢
    omega
  · simp only [Bool.or_eq_true, Bool.and_eq_true, beq_iff_eq, Nat.ble_eq, Nat.blt_eq] at r
    rcases r with (⟨((rfl | rfl) | rfl) | rfl, _⟩ | ⟨rfl, _⟩) | ⟨rfl, _⟩ <;> rfl
  · cases r
theorem pK_X {nJ k0 k n f : Nat} (r : pK nJ k0 k n f = true) : pX k n f = true := by
  unfold pK at r
  unfold pX
  split at r
  · rfl
  · simp only [Bool.or_eq_true, Bool.and_eq_true, beq_iff_eq, Nat.blt_eq, Nat.ble_eq] at r
    rcases r with ⟨rfl, _⟩ | ⟨rfl | rfl, _⟩ <;> rfl
  · cases r
theorem pV_X {v k n f : Nat} (r : pV vs v k n f = true) : pX k n f = true := by
  unfold pV at r
  unfold pX
  split at r
  · rfl
  · simp only [Bool.or_eq_true, Bool.and_eq_true, beq_iff_eq, Nat.blt_eq, Nat.ble_eq] at r
    rcases r with ⟨((rfl | rfl) | rfl) | rfl, _⟩ <;> rfl
  · cases r
/-- the model's minutes -/
def mMi (hS h2 : mH) (nT m : Nat) (st : Nat → St3) : Prop := h2.1 = hS.1 ∧ (∀ k n f, ¬ (k = 10 ∧ (f = 1 ∨ 40 ≤ f ∧ f ≤ 42)) → ¬ (k = 11 ∧ (n = 33 ∨ n = 12 ∨ n = 13) ∧ f < nT) → hI h2 k n f = hI hS k n f) ∧ hI h2 10 0 1 = nI m ∧ ∀ t, t < nT → hI h2 11 33 t = nI (st t).1 ∧ hI h2 11 12 t = (st t).2.1 ∧ hI h2 11 13 t = (st t).2.2
theorem mMi.st {hS h2 : mH} {m : Nat} {st st' : Nat → St3} (M : mMi hS h2 nT m st) (e : ∀ t, t < nT → st t = st' t) : mMi hS h2 nT m st' := ⟨M.1, M.2.1, M.2.2.1, fun t ht => by rw [← e t ht]; exact M.2.2.2 t ht⟩
theorem sp_minM {g : mG} {d n m : Nat} {hS : mH} {st0 : Nat → St3} {cap s o : Nat → Nat} {Q : Option mV → mH → Prop} (hs : mSK hS) (bT : nT ≤ 4) (c2 : hI hS 10 0 2 = nI nT) (bn : n ≤ 1440) (bm : m ≤ 1440) (hN : ∀ t, t < nT → hI hS 11 8 t * hI hS 11 9 t = nI (cap t) ∧ hI hS 11 10 t = nI (s t) ∧ hI hS 11 34 t = nI (o t) ∧ (st0 t).1 ≤ cap t ∧ cap t ≤ 60000 ∧ s t ≤ 500 ∧ o t ≤ 3600) (x2 : Int32)
    (K : ∀ h2 o4, mMi hS h2 nT (m + n) (fun t => itr (cap t) (s t) (o t) (st0 t) n) → mT g me_fm_minutes (d + 3) 0 0 105 [some (vr 10 0), some (vi (nI n)), some (vi x2), some (vi 0), o4] [] h2 Q) : ∀ i, i ≤ n → ∀ h2 o4, mMi hS h2 nT (m + i) (fun t => itr (cap t) (s t) (o t) (st0 t) i) → mT g me_fm_minutes (d + 3) 0 0 30 [some (vr 10 0), some (vi (nI n)), some (vi x2), some (vi (nI i)), o4] [] h2 Q := by
  refine upTo ?_ fun i hi ih => ?_
  · intro h2 o4 M
    exact v_fm_minutes_30 _ _ _ _ (hs.of M.1) ⟨fun _ => K h2 o4 M, fun q => absurd (Int32.le_refl _) q⟩
  · intro h2 o4 M
    refine v_fm_minutes_30 _ _ _ _ (hs.of M.1) ⟨fun q => absurd q (nnle hi (by omega)), fun _ => ?_⟩
    have w : ∀ t, t ≤ nT → ∀ h3, mMi hS h3 nT (m + i) (fun t' => if t' < t then itr (cap t') (s t') (o t') (st0 t') (i + 1) else itr (cap t') (s t') (o t') (st0 t') i) → mT g me_fm_minutes (d + 3) 0 0 38 [some (vr 10 0), some (vi (nI n)), some (vi x2), some (vi (nI i)), some (vi (nI t))] [] h3 Q := by
      refine upTo ?_ fun t ht iht => ?_
      · intro h3 M3
        have c2' : hI h3 10 0 2 = nI nT := (M3.2.1 10 0 2 (by omega) (by omega)).trans c2
        refine v_fm_minutes_38 _ _ _ _ (hs.of M3.1) ⟨fun _ => ?_, fun q => absurd (by rw [c2']; exact Int32.le_refl _) q⟩
        rw [nI_1, M3.2.2.1, nI_1]
        refine ih _ _ ⟨M3.1, fun k n f z1 z2 => (hI_no (fun y => z1 ⟨y.1, Or.inl y.2.2⟩)).trans (M3.2.1 k n f z1 z2), hI_eq, fun t ht => ?_⟩
        have := M3.2.2.2 t ht
        dsimp only at this
        rw [if_pos ht] at this
        exact this
      · intro h3 M3
        have c2' : hI h3 10 0 2 = nI nT := (M3.2.1 10 0 2 (by omega) (by omega)).trans c2
        have hin : vp_in (nI t) 4 := nin (by omega) (by omega)
        have ct : (nI t).toNatClampNeg = t := nc (by omega)
        refine v_fm_minutes_38 _ _ _ _ (hs.of M3.1) ⟨fun q => absurd q (by rw [c2']; exact nnle ht (by omega)), fun _ => ?_⟩
        obtain ⟨n1, n2, n3, n4, n5, n6, n7⟩ := hN t ht
        obtain ⟨v1, v2, v3⟩ := M3.2.2.2 t ht
        dsimp only at v1 v2 v3
        rw [if_neg (by omega)] at v1 v2 v3
        have bw := itr_le (s := s t) (o := o t) n4 i
        have e1 : hI h3 11 8 t * hI h3 11 9 t = nI (cap t) := by
          rw [M3.2.1 11 8 t (by omega) (by omega), M3.2.1 11 9 t (by omega) (by omega)]; exact n1
        have e2 : hI h3 11 10 t = nI (s t) := (M3.2.1 11 10 t (by omega) (by omega)).trans n2
        have e3 : hI h3 11 34 t = nI (o t) := (M3.2.1 11 34 t (by omega) (by omega)).trans n3
        have ei : itr (cap t) (s t) (o t) (st0 t) (i + 1) = stp (cap t) (s t) (o t) (itr (cap t) (s t) (o t) (st0 t) i) := rfl
        refine sp_passes (d := d + 1) (hs.of M3.1) (by omega) v1 e2 e1 e3 (by omega) (by omega) (by omega) (by omega) fun h4 p => ⟨rfl, hs.of (p.1.trans M3.1), hin, hin, hin, hin, ?_⟩
        rw [ct, nI_1]
        refine iht _ ⟨p.1.trans M3.1, fun k n f z1 z2 => ?_, ?_, fun t' ht' => ?_⟩
        · refine (hI_no (fun y => z2 ⟨y.1, Or.inr (Or.inr y.2.1), by rw [y.2.2]; exact ht⟩)).trans ((hI_no (fun y => z2 ⟨y.1, Or.inr (Or.inl y.2.1), by rw [y.2.2]; exact ht⟩)).trans ((p.2.1 k n f (fun y => z1 ⟨y.1, Or.inr y.2⟩) (fun y => z2 ⟨y.1, Or.inl y.2.1, by rw [y.2.2]; exact ht⟩)).trans (M3.2.1 k n f z1 z2)))
        · exact (p.2.1 10 0 1 (by omega) (by omega)).trans M3.2.2.1
        · by_cases q : t' = t
          · subst q
            dsimp only
            rw [if_pos (by omega), ei]
            have r1 : hI h4 11 12 t' = hI h3 11 12 t' := p.2.1 11 12 t' (by omega) (by omega)
            have r2 : hI h4 11 13 t' = hI h3 11 13 t' := p.2.1 11 13 t' (by omega) (by omega)
            refine ⟨p.2.2.2.2.2, ?_, ?_⟩
            · refine (hI_nn (by decide)).trans (hI_eq.trans ?_)
              rw [r1, v2, p.2.2.1]
              rfl
            · refine hI_eq.trans ?_
              show hI h4 11 13 t' + hI h4 10 0 42 = _
              rw [r2, v3, p.2.2.2.2.1]
              rfl
          · have old := M3.2.2.2 t' ht'
            dsimp only at old
            have ec : (t' < t + 1) = (t' < t) := propext ⟨fun y => by omega, fun y => by omega⟩
            have r0 : hI h4 11 33 t' = hI h3 11 33 t' := p.2.1 11 33 t' (by omega) (by omega)
            have r1 : hI h4 11 12 t' = hI h3 11 12 t' := p.2.1 11 12 t' (by omega) (by omega)
            have r2 : hI h4 11 13 t' = hI h3 11 13 t' := p.2.1 11 13 t' (by omega) (by omega)
            simp only [ec]
            refine ⟨r0.trans old.1, ?_, ?_⟩
            · exact (hI_nn (by decide)).trans ((hI_no (fun y => q y.2.2)).trans (r1.trans old.2.1))
            · exact (hI_no (fun y => q y.2.2)).trans (r2.trans old.2.2)
    exact w 0 (Nat.zero_le _) h2 (M.st fun t _ => by rw [if_neg (by omega)])
theorem op_minutes {g : mG} {d : Nat} (I : mI h nT nJ nK nV vs) (x : Int32) : mB g me_fn_minutes me_fm_minutes (d + 9) 0 0 [some (vr 0 0), some (vi x), none] [some (vr 10 0), some (vi x), none, none, none] h := by
  have C := I.1
  have bT := C.2.1.1
  obtain ⟨⟨m, m0, m1, m2⟩, _⟩ := C.sc
  by_cases c1 : (1 : Int32) ≤ x
  case neg => exact mB.ref I rf4 (-4) (fun Q K => v_fn_minutes_0 (d := d + 2) _ C.1 ⟨fun q => absurd q c1, fun _ => sp_refC (Q := fun y h => Q (some (vi y)) h) C.1 rf4 K⟩) (fun Q s K => v_fm_minutes_0 (d := d + 6) _ s ⟨fun q => absurd q c1, fun _ => sp_refM (Q := fun y h => Q (some (vi y)) h) s rf4 K⟩)
  have es : (1440 : Int32) - nI m = nI (1440 - m) := by
    rw [show (1440 : Int32) = nI 1440 from rfl, pk_sub m0]
  by_cases c2 : x ≤ nI (1440 - m)
  case neg =>
    exact mB.ref I rf6 (-6) (fun Q K => v_fn_minutes_0 (d := d + 2) _ C.1 ⟨fun _ => ⟨fun q => absurd q (by rw [m1, es]; exact c2), fun _ => sp_refC (Q := fun y h => Q (some (vi y)) h) C.1 rf6 K⟩, fun q => absurd c1 q⟩) (fun Q s K => v_fm_minutes_0 (d := d + 6) _ s ⟨fun _ => ⟨fun q => absurd (show x ≤ 1440 - hI h 10 0 1 from q) (by rw [m2, es]; exact c2), fun _ => sp_refM (Q := fun y h => Q (some (vi y)) h) s rf6 K⟩, fun q => absurd c1 q⟩)
  have hn : ∃ n, 1 ≤ n ∧ n ≤ 1440 - m ∧ x = nI n := by
    by_cases z : 1 ≤ 1440 - m
    · exact rng (lo := 1) c1 c2 z (by omega)
    · rw [show 1440 - m = 0 by omega] at c2
      have h1 := ile.mp c1
      have h2 := ile.mp c2
      rw [show (1 : Int32).toInt = 1 from rfl] at h1
      rw [show (nI 0).toInt = 0 from rfl] at h2
      omega
  obtain ⟨n, n0, n1, rfl⟩ := hn
  obtain ⟨cap, s, w, hN⟩ := C.tks
  obtain ⟨o, hO⟩ := C.outN
  have R0 : sameA h (asC h nT nJ) := sameA.rk h nT nJ (hI h 1 0 3) 0
  have C1 := C.of R0.R
  have hst : ∃ st0 : Nat → St3, st0 = fun t => (w t, hI h 6 t 6, hI h 6 t 7) := ⟨_, rfl⟩
  obtain ⟨st0, hst0⟩ := hst
  have M0 : cM (asC h nT nJ) (asC h nT nJ) nT st0 := by
    refine ⟨rfl, fun _ _ _ _ => rfl, fun t ht => ?_⟩
    rw [hst0]
    exact ⟨(R0.2 6 t 5 rfl).trans (hN t ht).2.2.2.2.2.2.2.1, R0.2 6 t 6 rfl, R0.2 6 t 7 rfl⟩
  refine mB.mkR (nI (m + n)) (fun hC => ∃ h', cM (asC h nT nJ) h' nT (fun t => itr (cap t) (s t) (o t) (st0 t) n) ∧ hC = setI h' 1 0 4 (nI (m + n)))
    (fun hC hM => hM.1 = hC.1 ∧ sameOn pX hC hM ∧ (∀ k f, ¬ (k = 11 ∨ k = 10 ∨ k = 12) → ∀ n, relA k n f = true → hI hM k n f = hI hC k n f) ∧ (∀ n t, nT ≤ t → n ∈ [11, 12, 13] → hI hM 11 n t = hI hC 11 n t) ∧ hI hM 10 0 55 = 0 ∧ hI hM 10 0 1 = nI (m + n) ∧ ∀ t, t < nT → hI hM 11 11 t = nI (itr (cap t) (s t) (o t) (st0 t) n).1 ∧ hI hM 11 12 t = (itr (cap t) (s t) (o t) (st0 t) n).2.1 ∧ hI hM 11 13 t = (itr (cap t) (s t) (o t) (st0 t) n).2.2) (fun Q K => ?_) (fun hC p => ?_) (fun hC p Q K => ?_) (fun hC hM p p2 => ?_)
  · -- the class
    have lp : ∀ i, i ≤ nT → ∀ h', cM (asC h nT nJ) h' nT (fun t => if t < i then itr (cap t) (s t) (o t) (st0 t) n else st0 t) → mT g me_fn_minutes (d + 9) 0 0 43 [some (vr 0 0), some (vi (nI n)), some (vi (nI i))] [] h' Q := by
      refine upTo ?_ fun i hi ih => ?_
      · intro h' M
        have lst : mCl h' 0 6 nT id := C1.2.2.1.1.of M.1 (M.2.1 2 0 1 (by omega))
        refine v_fn_minutes_43 (d := d + 2) _ _ (C1.1.of M.1) ⟨fun _ => ?_, fun q => absurd (by rw [lst.1]; exact Int32.le_refl _) q⟩
        have e4 : hI h' 1 0 4 = nI m := (M.2.1 1 0 4 (by omega)).trans ((R0.2 1 0 4 rfl).trans m1)
        rw [e4, nI_add]
        exact K _ ⟨h', M.st fun t ht => by rw [if_pos ht], rfl⟩
      · intro h' M
        have lst : mCl h' 0 6 nT id := C1.2.2.1.1.of M.1 (M.2.1 2 0 1 (by omega))
        refine v_fn_minutes_43 (d := d + 2) _ _ (C1.1.of M.1) ⟨fun q => absurd q (by rw [lst.1]; exact nnle hi (by omega)), fun _ => ⟨i, lst.get hi, ?_⟩⟩
        obtain ⟨a1, a2, a3, a4, a5, a6, a7, a8, a9⟩ := hN i hi
        obtain ⟨o1, o2⟩ := hO i hi
        refine sp_passMinutes (d := d + 4) (cap := cap i) (s := s i) (o := o i) C1.1 M hi ((R0.2 6 i 4 rfl).trans a5) (by rw [R0.2 6 i 2 rfl, R0.2 6 i 3 rfl]; exact a2) o1 ?_ (by omega) (by omega) (by omega) (by omega) fun h2 M2 => ⟨rfl, C1.1.of M2.1, ?_⟩
        · rw [if_neg (by omega), hst0]; exact a9
        · rw [nI_1]
          refine ih h2 (M2.st fun t _ => ?_)
          unfold updS
          by_cases q : t = i
          · subst q
            rw [if_pos rfl, if_neg (Nat.lt_irrefl t), if_pos (Nat.lt_succ_self t)]
          · rw [if_neg q]
            have ec : (t < i + 1) = (t < i) := propext ⟨fun y => by omega, fun y => by omega⟩
            simp only [ec]
    refine v_fn_minutes_0 (d := d + 2) _ C.1 ⟨fun _ => ⟨fun _ => sp_asC (d := d + 2) C ⟨rfl, C1.1, lp 0 (Nat.zero_le _) _ (M0.st fun t _ => by rw [if_neg (by omega)])⟩, fun q => absurd (by rw [m1, es]; exact c2) q⟩, fun q => absurd c1 q⟩
  · obtain ⟨h', M, rfl⟩ := p
    exact ⟨C1.1.of M.1, R0.kp.tr ⟨by show hL h' 14 0 = _; unfold hL; rw [M.1], fun f => M.2.1 14 0 f (by omega)⟩⟩
  · -- the model
    obtain ⟨h', M, rfl⟩ := p
    have sM : sameM (asC h nT nJ) (setI h' 1 0 4 (nI (m + n))) := ⟨M.1, fun k n f r => (hI_no (fun z => by rw [z.1] at r; cases r)).trans (M.2.1 k n f (fun z => by rw [z.1] at r; cases r))⟩
    have sk := C1.1.of sM.1
    have em : hI (setI h' 1 0 4 (nI (m + n))) 10 0 1 = nI m := (sM.2 10 0 1 rfl).trans ((R0.2 10 0 1 rfl).trans m2)
    refine v_fm_minutes_0 (d := d + 6) _ sk ⟨fun _ => ⟨fun _ => sp_seesM (d := d + 6) C1 sM ⟨rfl, sk.of (sameA.se _ nT nJ nK).1, ?_⟩, fun q => absurd (by rw [em, es]; exact c2) q⟩, fun q => absurd c1 q⟩
    have hSe := sameA.se (setI h' 1 0 4 (nI (m + n))) nT nJ nK
    have rs : ∀ k a f, k = 11 ∨ k = 10 → pM k a f = true → relA k a f = true → hI (seH (setI h' 1 0 4 (nI (m + n))) nT nJ nK) k a f = hI h k a f := fun k a f z r1 r2 => (hSe.2 k a f r2).trans ((sM.2 k a f r1).trans (R0.2 k a f r2))
    generalize hhS : seH (setI h' 1 0 4 (nI (m + n))) nT nJ nK = hS at hSe rs
    have skS : mSK hS := sk.of hSe.1
    -- the end: the water is laid
    have fin : ∀ h2 o4, mMi hS h2 nT (m + n) (fun t => itr (cap t) (s t) (o t) (st0 t) n) → mT g me_fm_minutes (d + 9) 0 0 105 [some (vr 10 0), some (vi (nI n)), some (vi 0), some (vi 0), o4] [] h2 Q := by
      intro h2 o4 M2
      have lp : ∀ i, i ≤ nT → ∀ h3, h3.1 = h2.1 → (∀ k n f, ¬ (k = 11 ∧ n = 11 ∧ f < nT) → hI h3 k n f = hI h2 k n f) → (∀ t, t < i → hI h3 11 11 t = nI (itr (cap t) (s t) (o t) (st0 t) n).1) → mT g me_fm_minutes (d + 9) 0 0 105 [some (vr 10 0), some (vi (nI n)), some (vi 0), some (vi (nI i)), o4] [] h3 Q := by
        refine upTo ?_ fun i hi ih => ?_
        · intro h3 e R F
          have c2' : hI h3 10 0 2 = nI nT := (R 10 0 2 (by omega)).trans ((M2.2.1 10 0 2 (by omega) (by omega)).trans ((rs 10 0 2 (Or.inr rfl) rfl rfl).trans C.k2))
          refine v_fm_minutes_105 (d := d + 6) _ _ _ _ (skS.of (e.trans M2.1)) ⟨fun _ => ?_, fun q => absurd (by rw [c2']; exact Int32.le_refl _) q⟩
          rw [R 10 0 1 (by omega), M2.2.2.1]
          have e1 : h3.1 = (setI h' 1 0 4 (nI (m + n))).1 := e.trans (M2.1.trans hSe.1)
          refine K _ ⟨e1, fun k n f r => ?_, fun k f z n r => ?_, fun n t ht hn => ?_, hI_eq, ?_, fun t ht => ⟨?_, ?_, ?_⟩⟩
          · have r2 := pX_A r
            refine (hI_no (fun y => ?_)).trans ((R k n f (fun y => ?_)).trans ((M2.2.1 k n f (fun y => ?_) (fun y => ?_)).trans (hSe.2 k n f r2)))
            · rw [y.1, y.2.2] at r; exact absurd (show false = true from r) (by decide)
            · rw [y.1, y.2.1] at r; exact absurd (show false = true from r) (by decide)
            · obtain ⟨rfl, y | y⟩ := y
              · rw [y] at r; exact absurd (show false = true from r) (by decide)
              · unfold pX at r; simp at r; omega
            · obtain ⟨rfl, y, _⟩ := y
              rcases y with rfl | rfl | rfl <;> exact absurd (show false = true from r) (by decide)
          · exact (hI_no (fun y => z (Or.inr (Or.inl y.1)))).trans ((R k n f (fun y => z (Or.inl y.1))).trans ((M2.2.1 k n f (fun y => z (Or.inr (Or.inl y.1))) (fun y => z (Or.inl y.1))).trans (hSe.2 k n f r)))
          · refine (hI_no (fun y => absurd y.1 (by decide))).trans ((R 11 n t (fun y => by omega)).trans ((M2.2.1 11 n t (fun y => by omega) (fun y => by omega)).trans (hSe.2 11 n t ?_)))
            simp only [List.mem_cons, List.not_mem_nil, or_false] at hn
            rcases hn with rfl | rfl | rfl <;> rfl
          · exact (hI_no (fun y => by omega)).trans ((R 10 0 1 (by omega)).trans M2.2.2.1)
          · exact (hI_no (fun y => by omega)).trans (F t ht)
          · exact (hI_no (fun y => by omega)).trans ((R 11 12 t (by omega)).trans (M2.2.2.2 t ht).2.1)
          · exact (hI_no (fun y => by omega)).trans ((R 11 13 t (by omega)).trans (M2.2.2.2 t ht).2.2)
        · intro h3 e R F
          have c2' : hI h3 10 0 2 = nI nT := (R 10 0 2 (by omega)).trans ((M2.2.1 10 0 2 (by omega) (by omega)).trans ((rs 10 0 2 (Or.inr rfl) rfl rfl).trans C.k2))
          have hin : vp_in (nI i) 4 := nin (by omega) (by omega)
          refine v_fm_minutes_105 (d := d + 6) _ _ _ _ (skS.of (e.trans M2.1)) ⟨fun q => absurd q (by rw [c2']; exact nnle hi (by omega)), fun _ => ⟨hin, hin, ?_⟩⟩
          rw [nc (by omega : i ≤ 1000000), nI_1, R 11 33 i (by omega), (M2.2.2.2 i hi).1]
          refine ih _ e (fun k n f z => (hI_no (fun y => z ⟨y.1, y.2.1, by omega⟩)).trans (R k n f z)) fun t ht => ?_
          rw [hI_setI2]
          by_cases q : t = i
          · rw [if_pos q, q]
          · rw [if_neg q]; exact F t (by omega)
      exact lp 0 (Nat.zero_le _) h2 rfl (fun _ _ _ _ => rfl) (fun t ht => absurd ht (Nat.not_lt_zero _))
    refine sp_minM (d := d + 6) (st0 := st0) (m := m) (cap := cap) (s := s) (o := o) skS bT ((rs 10 0 2 (Or.inr rfl) rfl rfl).trans C.k2) (by omega) m0 (fun t ht => ?_) 0 fin 0 (Nat.zero_le _) hS none ⟨rfl, fun _ _ _ _ _ => rfl, (rs 10 0 1 (Or.inr rfl) rfl rfl).trans m2, fun t ht => ?_⟩
    · obtain ⟨a1, a2, a3, a4, a5, a6, a7, a8, a9⟩ := hN t ht
      obtain ⟨o1, o2⟩ := hO t ht
      refine ⟨?_, (rs 11 10 t (Or.inl rfl) rfl rfl).trans a4, ?_, ?_, a3, a6, o2⟩
      · rw [rs 11 8 t (Or.inl rfl) rfl rfl, rs 11 9 t (Or.inl rfl) rfl rfl]; exact a1
      · rw [← hhS, C.seO sM ht]; exact o1
      · rw [hst0]; exact a9
    · obtain ⟨a1, a2, a3, a4, a5, a6, a7, a8, a9⟩ := hN t ht
      obtain ⟨e0, ⟨e1, e2, e3, e4, e5, e6, e7⟩, _⟩ := C.tk ht
      rw [hst0]
      show hI hS 11 33 t = nI (w t) ∧ hI hS 11 12 t = hI h 6 t 6 ∧ hI hS 11 13 t = hI h 6 t 7
      refine ⟨?_, ?_, ?_⟩
      · rw [← hhS, seH_33 ht, sM.2 11 11 t rfl, R0.2 11 11 t rfl]; exact a7
      · rw [rs 11 12 t (Or.inl rfl) rfl rfl]; exact e6.symm
      · rw [rs 11 13 t (Or.inl rfl) rfl rfl]; exact e7.symm
  · -- what is kept
    obtain ⟨h', M, rfl⟩ := p
    obtain ⟨e1, RX, RC, RT, e55, e10, eW⟩ := p2
    have eh : hM.1 = h.1 := e1.trans (M.1.trans R0.1)
    have RX2 : sameOn pX h hM := by
      refine (sameOn.X R0).tr (sameOn.tr (fun k n f r => ?_) RX)
      refine (hI_no (fun y => ?_)).trans (M.2.1 k n f (fun y => ?_))
      · rw [y.1, y.2.2] at r; exact absurd (show false = true from r) (by decide)
      · obtain ⟨rfl, y⟩ := y
        unfold pX at r; simp at r; omega
    have cl : ∀ t, t < nT → hI hM 6 t 5 = nI (itr (cap t) (s t) (o t) (st0 t) n).1 ∧ hI hM 6 t 6 = (itr (cap t) (s t) (o t) (st0 t) n).2.1 ∧ hI hM 6 t 7 = (itr (cap t) (s t) (o t) (st0 t) n).2.2 := by
      intro t ht
      rw [RC 6 5 (by omega) t rfl, RC 6 6 (by omega) t rfl, RC 6 7 (by omega) t rfl]
      exact M.2.2 t ht
    refine ⟨⟨nT, nJ, nK, nV, vs, mI.ch (C.chJ eh (RX2 2 0 1 rfl) (RX2 2 1 1 rfl) (RX2 2 2 1 rfl) (RX2 2 3 1 rfl) (RX2 10 0 2 rfl) (RX2 10 0 3 rfl) (RX2 10 0 4 rfl) (RX2 10 0 5 rfl) (fun i hi => ?_) (fun i hi => ?_) (fun k hk => ?_) (fun v hv => (C.vw hv).mk (RX2.sub fun k n f r => pV_X r) (by rw [hC_of eh]; exact Nat.le_refl _) (Nat.le_refl _)) ?_ (C.pp.of (RX2.sub fun k n f r => ?_))) (I.2.1.mk (fun t ht => ?_) (fun i hi => ⟨RX2 12 0 i rfl, RX2 11 19 i rfl⟩) (fun k hk => RX2 12 1 k rfl) (fun i hi => RX2 7 i 7 rfl)) e55⟩, ?_⟩
    · obtain ⟨a1, a2, a3, a4, a5, a6, a7, a8, a9⟩ := hN i hi
      refine (C.tk hi).mk (RX2.sub fun k n f r => pT_X r) ?_ ((cl i hi).1.trans (eW i hi).1.symm) ((cl i hi).2.1.trans (eW i hi).2.1.symm) ((cl i hi).2.2.trans (eW i hi).2.2.symm) ⟨s i, a6, (RX2 11 10 i rfl).trans a4⟩ (fun a dp ha hd xa xd ba bd => ⟨_, (eW i hi).1, ?_⟩)
      · rw [RX2 6 i 4 rfl, RX2 11 10 i rfl]; exact (C.tk hi).2.1.2.2.2.1
      · have hc : cap i = a * dp := by
          have : a * dp ≤ 60000 := Nat.mul_le_mul ba bd
          rw [xa, xd, pk_mul] at a1
          exact ((neq_iff (by omega) (by omega)).mp a1).symm
        rw [← hc]
        refine itr_le ?_ n
        rw [hst0]
        exact a9
    · refine (C.jn hi).mk (fun f => hP_of eh 7 i f) (RX2.sub fun k n f r => pJ_X r) (Nat.le_refl _) (Nat.le_refl _) ?_ ?_ ?_ ?_
      · rw [RX2 7 i 5 rfl, RX2 11 17 i rfl]; exact (C.jn hi).b5
      · rw [RX2 7 i 6 rfl, RX2 11 19 i rfl]; exact (C.jn hi).b6
      · rw [RX2 7 i 8 rfl, RX2 12 0 i rfl]; exact (C.jn hi).b8
      · intro a la e
        rw [RX2 12 0 a rfl, RX2 12 0 i rfl]
        exact (C.jn hi).up (by have := C.2.1.2.1; omega) a la e
    · refine (C.je hk).mk (hP_of eh 8 k 2) (fun j _ => hP_of eh 7 j 9) (RX2.sub fun k n f r => pK_X r) (Nat.le_refl _) ?_ ?_
      · rw [RX2 8 k 4 rfl, RX2 11 23 k rfl]; exact (C.je hk).b4
      · rw [RX2 12 1 k rfl]; exact (C.je hk).bp
    · have sc := C.sc
      refine ⟨⟨m + n, by omega, ?_, e10⟩, ?_, ?_, fun i hi => ?_⟩
      · rw [RC 1 4 (by omega) 0 rfl]; exact hI_eq
      · rw [RX2 0 0 6 rfl, RX2 10 0 6 rfl]; exact sc.2.1
      · rw [RX2 5 0 1 rfl, RX2 10 0 7 rfl]; exact sc.2.2.1
      · rw [RX2 11 5 i rfl, RX2 11 6 i rfl]; exact sc.2.2.2 i hi
    · unfold pP at r
      unfold pX
      split at r
      · exact r
      · rw [beq_iff_eq.mp r]; rfl
      · cases r
    · have z : ∀ n, n ∈ [11, 12, 13] → hI hM 11 n t = hI h 11 n t := fun n' hn' => by
        rw [RT n' t ht hn']
        refine (hI_no (fun y => absurd y.1 (by decide))).trans ((M.2.1 11 n' t (by omega)).trans (R0.2 11 n' t ?_))
        simp only [List.mem_cons, List.not_mem_nil, or_false] at hn'
        rcases hn' with rfl | rfl | rfl <;> rfl
      exact ⟨z 12 (by simp), z 13 (by simp)⟩
    · exact ⟨by unfold hL; rw [e1], fun f => RX 14 0 f rfl⟩
end CORE
