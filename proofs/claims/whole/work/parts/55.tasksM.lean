/-! the tasks in the model; tasks, task -/
/-- a bit behind a shift, of any number -/
theorem shr_any (x : Int32) {k : Nat} (hk : k < 32) : tB (x >>> (nI k &&& 31)) 0 = tB x k := by
  unfold tB
  rw [Int32.toBitVec_shiftRight, BitVec.sshiftRight_eq', sm_31 k hk, BitVec.getLsbD_sshiftRight]
  simp [hk]
theorem and1 (y : Int32) : y &&& 1 = bI (tB y 0) := by
  refine tB_ext fun i hi => ?_
  rw [tB_and, show (1 : Int32) = mBit 0 from by decide, tB_of (by omega)]
  cases q : tB y 0 with
  | true =>
    show (tB y i && decide (i = 0)) = tB (bI true) i
    rw [show bI true = mBit 0 from by decide, tB_of (by omega)]
    by_cases z : i = 0
    · rw [z, q]; rfl
    · simp [z]
  | false =>
    show (tB y i && decide (i = 0)) = tB (bI false) i
    rw [show bI false = 0 from rfl, tB_0]
    by_cases z : i = 0
    · rw [z, q]; rfl
    · simp [z]
section CORE
variable {h h' hm : mH} {nT nJ nK nV nT' nJ' nK' : Nat} {vs : Nat → Nat}
/-- what the model's tasks look at -/
def pQ (k n f : Nat) : Bool := match k with
  | 10 => Nat.blt f 8
  | 11 => Nat.ble 20 n && Nat.ble n 27
  | _ => false
def sameQ (h hm : mH) : Prop := hm.1 = h.1 ∧ sameOn pQ h hm
theorem sameQ.A {a b : mH} (R : sameA a b) : sameQ a b := by
  refine ⟨R.1, fun k n f r => R.2 k n f ?_⟩
  unfold pQ at r
  unfold relA rel
  split at r
  · simp only [Bool.or_eq_true, Bool.and_eq_true, Nat.blt_eq, Nat.ble_eq] at r ⊢
    omega
  · simp only [Bool.or_eq_true, Bool.and_eq_true, Nat.ble_eq] at r ⊢
    omega
  · cases r
theorem sameQ.tr {a b c : mH} (x : sameQ a b) (y : sameQ b c) : sameQ a c := ⟨y.1.trans x.1, x.2.tr y.2⟩
theorem sameQ.sI {a b : mH} {k n f : Nat} {v : Int32} (x : sameQ a b) (hn : pQ k n f = false) : sameQ a (setI b k n f v) := ⟨x.1, x.2.sI hn⟩
theorem sameQ.rf {a : mH} : sameQ a a := ⟨rfl, sameOn.rf⟩
/-- all but the model's rows of tasks -/
def pU (k n f : Nat) : Bool := !((k == 10 && f == 52) || (k == 11 && Nat.ble 36 n && Nat.ble n 38))
theorem sp_adds {g : mG} {d m : Nat} {a b op sh x1 : Int32} {L : List Tk} {Q : Option mV → mH → Prop} (C : mCore h nT nJ nK nV vs) (R : sameQ h hm) (T : tMr hm L) (bl : L.length + nK ≤ 576) (hx : x1 = nI m) (hb : ∀ k, k < nK → (tB op k || tB sh k) = (tB a k != tB b k) ∧ (¬ tB a k = tB b k → tB op k = tB b k)) (K : ∀ h2, h2.1 = hm.1 → sameOn pU hm h2 → tMr h2 (L ++ chg m a b nK) → Q none h2) : mT g me_fm_adds (d + 1) 0 0 0 [some (vr 10 0), some (vi x1), some (vi op), some (vi sh), none] [] hm Q := by
  have bK := C.2.1.2.2.1
  have hs := C.1.of R.1
  refine v_fm_adds_0 _ _ _ hs ?_
  have w : ∀ k, k ≤ nK → ∀ h2, h2.1 = hm.1 → sameOn pU hm h2 → tMr h2 (L ++ chg m a b k) → mT g me_fm_adds (d + 1) 0 0 3 [some (vr 10 0), some (vi x1), some (vi op), some (vi sh), some (vi (nI k))] [] h2 Q := by
    refine upTo ?_ fun k hk ih => ?_
    · intro h2 e R2 T2
      have c4 : hI h2 10 0 4 = nI nK := (R2 10 0 4 rfl).trans ((R.2 10 0 4 rfl).trans C.k4)
      exact v_fm_adds_3 _ _ _ _ (hs.of e) ⟨fun _ => K h2 e R2 T2, fun q => absurd (by rw [c4]; exact Int32.le_refl _) q⟩
    · intro h2 e R2 T2
      have c4 : hI h2 10 0 4 = nI nK := (R2 10 0 4 rfl).trans ((R.2 10 0 4 rfl).trans C.k4)
      have lc := chg_len (m := m) (a := a) (b := b) k
      have ll : (L ++ chg m a b k).length < 576 := by rw [List.length_append]; omega
      have en : hI h2 10 0 52 = nI (L ++ chg m a b k).length := T2.2
      have hin : vp_in (hI h2 10 0 52) 576 := by rw [en]; exact nin ll (by omega)
      have ec : chg m a b (k + 1) = chg m a b k ++ (if tB a k = tB b k then [] else [(m, k, tB b k)]) := rfl
      obtain ⟨hb1, hb2⟩ := hb k hk
      refine v_fm_adds_3 _ _ _ _ (hs.of e) ⟨fun q => absurd q (by rw [c4]; exact nnle hk (by omega)), fun _ => ?_⟩
      rw [and1, and1, shr_any _ (by omega), shr_any _ (by omega), tB_or, hb1, en, nc (by omega), nI_1, nI_1]
      refine ⟨fun q => ⟨by rw [← en]; exact hin, by rw [← en]; exact hin, by rw [← en]; exact hin, ?_⟩, fun q => ?_⟩
      · have q' : ¬ tB a k = tB b k := fun z => q (by rw [z]; simp [bI])
        refine ih _ e ((((R2.tr (sameOn.rf.sI rfl)).sI rfl).sI rfl).sI rfl) ?_
        rw [ec, if_neg q', ← List.append_assoc]
        exact T2.add hx rfl (by rw [hb2 q']) rfl
      · have q' : tB a k = tB b k := by
          rw [bI_0] at q
          simpa using q
        refine ih h2 e R2 ?_
        rw [ec, if_pos q', List.append_nil]
        exact T2
  exact w 0 (Nat.zero_le _) hm rfl sameOn.rf (by rw [show chg m a b 0 = [] from rfl, List.append_nil]; exact T)
theorem sameQ.U {a b c : mH} (x : sameQ a b) (e : c.1 = b.1) (R : sameOn pU b c) : sameQ a c := by
  refine ⟨e.trans x.1, fun k n f r => (R k n f ?_).trans (x.2 k n f r)⟩
  unfold pQ at r
  unfold pU
  split at r
  · simp only [Nat.blt_eq] at r
    simp
    omega
  · simp only [Bool.and_eq_true, Nat.ble_eq] at r
    have z : Nat.ble 36 n = false := by
      rw [Bool.eq_false_iff]
      intro y
      rw [Nat.ble_eq] at y
      omega
    simp [z]
  · cases r
theorem sp_findTasks {g : mG} {d : Nat} {Q : Option mV → mH → Prop} (C : mCore h nT nJ nK nV vs) (R : sameQ h hm) (K : ∀ h2, h2.1 = hm.1 → sameOn pU hm h2 → tMr h2 (tkL h nK nV) → Q none h2) : mT g me_fm_findTasks (d + 2) 0 0 0 [some (vr 10 0), none, none, none] [] hm Q := by
  have bK := C.2.1.2.2.1
  have bV := C.2.1.2.2.2
  have hs := C.1.of R.1
  refine v_fm_findTasks_0 hs ?_
  have nx : ∀ v, (tkS h nK v).2 = (if v = 0 then (0, 0) else (hI h 11 24 (v - 1), vT h (v - 1) + 1)) := by
    intro v
    cases v with
    | zero => rfl
    | succ u => rfl
  have w : ∀ v, v ≤ nV → ∀ h2 o3, h2.1 = hm.1 → sameOn pU hm h2 → tMr h2 (tkS h nK v).1 → mT g me_fm_findTasks (d + 2) 0 0 9 [some (vr 10 0), some (vi (tkS h nK v).2.1), some (vi (nI v)), o3] [] h2 Q := by
    refine upTo ?_ fun v hv ih => ?_
    · intro h2 o3 e U T
      have RQ := R.U e U
      have c5 : hI h2 10 0 5 = nI nV := (RQ.2 10 0 5 rfl).trans C.k5
      have ln := (tkS_len h bK nV).2
      refine v_fm_findTasks_9 _ _ _ (hs.of e) ⟨fun _ => ?_, fun q => absurd (by rw [c5]; exact Int32.le_refl _) q⟩
      rw [c5]
      by_cases z : nV = 0
      · refine ⟨fun _ => K h2 e U ?_, fun q => absurd (by rw [z]; exact Int32.le_refl _) q⟩
        unfold tkL
        rw [z]
        rw [show chg (tkS h nK 0).2.2 (tkS h nK 0).2.1 0 nK = [] from chg_eq nK, List.append_nil, ← z]
        exact T
      · refine ⟨fun q => absurd q (nI_nle (by omega) (by omega)), fun _ => ?_⟩
        rw [show (1 : Int32) = nI 1 from rfl, pk_sub (by omega), nc (by omega), RQ.2 11 26 _ rfl, (C.vn (v := nV - 1) (by omega)).2.2.2.1]
        refine ⟨nin (by omega) (by omega), ?_⟩
        have e2 := nx nV
        rw [if_neg z] at e2
        refine sp_adds (d := d) (m := (tkS h nK nV).2.2) (a := (tkS h nK nV).2.1) (b := 0) C RQ T (by omega) ?_ (fun k _ => ?_) fun h3 e3 U3 T3 => ⟨rfl, hs.of (e3.trans e), K h3 (e3.trans e) (U.tr U3) T3⟩
        · rw [e2, nI_add]
        · rw [tB_0]
          cases tB (tkS h nK nV).2.1 k <;> decide
    · intro h2 o3 e U T
      have RQ := R.U e U
      have c5 : hI h2 10 0 5 = nI nV := (RQ.2 10 0 5 rfl).trans C.k5
      have ln := (tkS_len h bK v).2
      have ln0 := (tkS_len h bK v).1
      obtain ⟨n1, n2, n3, n4, n5, n6, n7⟩ := C.vn hv
      have es : tkS h nK (v + 1) = ((if (tkS h nK v).2.2 = vF h v then (tkS h nK v).1 ++ chg (vF h v) (tkS h nK v).2.1 (hI h 11 24 v) nK
        else ((tkS h nK v).1 ++ chg (tkS h nK v).2.2 (tkS h nK v).2.1 0 nK) ++ chg (vF h v) 0 (hI h 11 24 v) nK), hI h 11 24 v, vT h v + 1) := rfl
      rw [es] at ih
      dsimp only at ih
      have bl1 : (tkS h nK v).1.length + nK ≤ 576 := by
        by_cases z : v = 0
        · have := ln0 z; omega
        · omega
      have hin : vp_in (nI v) 12 := nin (by omega) (by omega)
      have cv : (nI v).toNatClampNeg = v := nc (by omega)
      -- a change from what is open
      have one : ∀ (h3 : mH) (L : List Tk) (o : Int32) (P : Int32), h3.1 = hm.1 → sameOn pU hm h3 → tMr h3 L → L.length + nK ≤ 576 → (∀ h4, h4.1 = hm.1 → sameOn pU hm h4 → tMr h4 (L ++ chg (vF h v) o (hI h 11 24 v) nK) → mT g me_fm_findTasks (d + 2) 0 0 9 [some (vr 10 0), some (vi (hI h 11 24 v)), some (vi (nI (v + 1))), some (vi P)] [] h4 Q) →
          mT g me_fm_adds (d + 1) 0 0 0 [some (vr 10 0), some (vi (nI (vF h v))), some (vi (hI h 11 24 v &&& (o ^^^ (-1)))), some (vi (o &&& (hI h 11 24 v ^^^ (-1)))), none] [] h3 (fun w h2 => w = none ∧ mSK h2 ∧ (vp_in (nI v) 12 ∧ mT g me_fm_findTasks (d + 2) 0 0 9 [some (vr 10 0), some (vi (hI h2 11 24 (nI v).toNatClampNeg)), some (vi (nI v + 1)), some (vi P)] [] h2 Q)) := by
        intro h3 L o P e3 U3 T3 b3 kk
        refine sp_adds (d := d) (m := vF h v) (a := o) (b := hI h 11 24 v) C (R.U e3 U3) T3 b3 rfl (fun k hk => ?_) fun h4 e4 U4 T4 => ⟨rfl, hs.of (e4.trans e3), hin, ?_⟩
        · rw [tB_and, tB_and, tB_xor, tB_xor, tB_m1 (by omega)]
          cases tB o k <;> cases tB (hI h 11 24 v) k <;> decide
        · rw [cv, nI_1, (R.U (e4.trans e3) (U3.tr U4)).2 11 24 v rfl]
          exact kk h4 (e4.trans e3) (U3.tr U4) T4
      refine v_fm_findTasks_9 _ _ _ (hs.of e) ⟨fun q => absurd q (by rw [c5]; exact nnle hv (by omega)), fun _ => ?_⟩
      by_cases z : v = 0
      · have e2 := nx v
        rw [if_pos z] at e2
        have ho : (tkS h nK v).2.1 = 0 := by rw [e2]
        have hx2 : (tkS h nK v).2.2 = 0 := by rw [e2]
        refine ⟨fun _ => ⟨fun _ => ⟨hin, hin, hin, ?_⟩, fun q => absurd (by rw [z]; exact Int32.le_refl _) q⟩, fun q => absurd (by rw [z]; exact Int32.le_refl _) q⟩
        show mT g me_fm_adds (d + 1) 0 0 0 [some (vr 10 0), some (vi (hI h2 11 25 (nI v).toNatClampNeg)), some (vi (hI h2 11 24 (nI v).toNatClampNeg &&& ((tkS h nK v).2.1 ^^^ (-1)))), some (vi ((tkS h nK v).2.1 &&& (hI h2 11 24 (nI v).toNatClampNeg ^^^ (-1)))), none] [] h2 _
        rw [cv, RQ.2 11 25 v rfl, RQ.2 11 24 v rfl, n1]
        have := one h2 (tkS h nK v).1 (tkS h nK v).2.1 0 e U T bl1 (fun h4 e4 U4 T4 => ih h4 _ e4 U4 (by
          rw [ho] at T4 ⊢
          by_cases y : (tkS h nK v).2.2 = vF h v
          · rw [if_pos y]; exact T4
          · rw [if_neg y, chg_eq, List.append_nil]; exact T4))
        rw [cv] at this
        exact this
      · have e2 := nx v
        rw [if_neg z] at e2
        have hx2 : (tkS h nK v).2.2 = vT h (v - 1) + 1 := by rw [e2]
        have nz : ¬ nI v ≤ 0 := nI_nle (by omega) (by omega)
        obtain ⟨q1, q2, q3, q4, q5, q6, q7⟩ := C.vn (v := v - 1) (by omega)
        have e1 : nI v - 1 = nI (v - 1) := by rw [show (1 : Int32) = nI 1 from rfl, pk_sub (by omega)]
        refine ⟨fun q => absurd q nz, fun _ => ?_⟩
        rw [e1, cv, nc (by omega), RQ.2 11 26 _ rfl, RQ.2 11 25 v rfl, RQ.2 11 24 v rfl, q4, n1, nI_1]
        refine ⟨nin (by omega) (by omega), hin, fun q => ⟨fun q => absurd q nz, fun _ => ⟨nin (by omega) (by omega), ?_⟩⟩, fun q => ⟨fun q => absurd q nz, fun _ => ⟨hin, hin, hin, ?_⟩⟩⟩
        · have y : ¬ (tkS h nK v).2.2 = vF h v := fun y => q (by rw [← y, hx2])
          rw [if_neg y] at ih
          have bl2 : ((tkS h nK v).1 ++ chg (tkS h nK v).2.2 (tkS h nK v).2.1 0 nK).length + nK ≤ 576 := by
            rw [List.length_append]
            have c2 := chg_len (m := (tkS h nK v).2.2) (a := (tkS h nK v).2.1) (b := 0) nK
            omega
          refine sp_adds (d := d) (m := (tkS h nK v).2.2) (a := (tkS h nK v).2.1) (b := 0) C RQ T bl1 (by rw [hx2]) (fun k _ => ?_) fun h3 e3 U3 T3 => ⟨rfl, hs.of (e3.trans e), hin, hin, hin, ?_⟩
          · rw [tB_0]
            cases tB (tkS h nK v).2.1 k <;> decide
          · have RQ3 := R.U (e3.trans e) (U.tr U3)
            rw [RQ3.2 11 25 v rfl, RQ3.2 11 24 v rfl, n1]
            have := one h3 _ 0 0 (e3.trans e) (U.tr U3) T3 bl2 (fun h4 e4 U4 T4 => ih h4 _ e4 U4 T4)
            rw [cv] at this
            exact this
        · have y : (tkS h nK v).2.2 = vF h v := by
            have := (neq_iff (by omega) (by omega)).mp q
            omega
          rw [if_pos y] at ih
          have := one h2 (tkS h nK v).1 (tkS h nK v).2.1 1 e U T bl1 (fun h4 e4 U4 T4 => ih h4 _ e4 U4 T4)
          rw [cv] at this
          exact this
  exact w 0 (Nat.zero_le _) (setI hm 10 0 52 0) none rfl (sameOn.rf.sI rfl) ⟨fun i x e => (by rw [show (tkS h nK 0).1 = [] from rfl] at e; simp at e), hI_eq⟩
theorem sameA.U {b c : mH} (e : c.1 = b.1) (R : sameOn pU b c) : sameA b c := by
  refine ⟨e, fun k n f r => R k n f ?_⟩
  unfold relA rel at r
  unfold pU
  by_cases q : k = 10
  · subst q
    simp only [Bool.or_eq_true, Bool.and_eq_true, Nat.blt_eq, Nat.ble_eq] at r
    have z : (f == 52) = false := by
      rw [beq_eq_false_iff_ne]
      omega
    simp [z]
  · by_cases q2 : k = 11
    · subst q2
      simp only [Bool.or_eq_true, Bool.and_eq_true, Nat.ble_eq] at r
      have z : Nat.ble 36 n = false := by
        rw [Bool.eq_false_iff]
        intro y
        rw [Nat.ble_eq] at y
        rcases r with r | r
        · omega
        · cases r
      simp [z]
    · simp [q, q2]
theorem sameA.rfM {a b : mH} (R : sameA a b) (c : Int32) : sameA (rfM a c) (rfM b c) := by
  refine ⟨R.1, fun k n f r => ?_⟩
  show (if k = 11 ∧ n = 6 ∧ f = (-c).toNatClampNeg then hI b 11 6 (-c).toNatClampNeg + 1 else hI b k n f) = (if k = 11 ∧ n = 6 ∧ f = (-c).toNatClampNeg then hI a 11 6 (-c).toNatClampNeg + 1 else hI a k n f)
  rw [R.2 k n f r, R.2 11 6 _ rfl]
theorem sameA.rfC {a b : mH} (R : sameA a b) (c : Int32) : sameA (rfC a c) (rfC b c) := by
  refine ⟨R.1, fun k n f r => ?_⟩
  show (if k = 11 ∧ n = 5 ∧ f = (-c).toNatClampNeg then hI b 11 5 (-c).toNatClampNeg + 1 else hI b k n f) = (if k = 11 ∧ n = 5 ∧ f = (-c).toNatClampNeg then hI a 11 5 (-c).toNatClampNeg + 1 else hI a k n f)
  rw [R.2 k n f r, R.2 11 5 _ rfl]
/-- a call that is refused behind work that keeps what is kept -/
theorem mB.refR {g : mG} {f1 f2 : mMe} {d mc ms : Nat} {L1 L2 : List (Option mV)} (I : mI h nT nJ nK nV vs) {c : Int32} (hc : rfK c) (y : Int32) (h1 : ∀ Q : Option mV → mH → Prop, (∀ hC, sameA h hC → Q (some (vi y)) (rfC hC c)) → mT g f1 d mc ms 0 L1 [] h Q)
    (h2 : ∀ hC, sameA h hC → ∀ Q : Option mV → mH → Prop, (∀ hM, sameA (rfC hC c) hM → Q (some (vi y)) (rfM hM c)) → mT g f2 d 0 0 0 L2 [] (rfC hC c) Q) : mB g f1 f2 d mc ms L1 L2 h :=
  h1 _ fun hC R1 => ⟨y, rfl, I.1.1.of R1.1, R1.kp.tr ⟨rfl, fun _ => rfl⟩, h2 hC R1 _ fun hM R2 => by
    have R3 : sameA (rfM (rfC h c) c) (rfM hM c) := ((R1.rfC c).tr R2).rfM c
    exact ⟨y, rfl, (I.rf hc).1.1.of R3.1, rfl, ⟨nT, nJ, nK, nV, vs, mI.of (I.rf hc) R3⟩, (R1.kp.tr (b := hC) ⟨rfl, fun _ => rfl⟩).tr (R2.kp.tr ⟨rfl, fun _ => rfl⟩)⟩⟩
theorem sameQ.rfC {a : mH} {c : Int32} : sameQ a (rfC a c) := sameQ.rf.sI rfl
theorem tkL_le (C : mCore h nT nJ nK nV vs) : (tkL h nK nV).length ≤ 576 := by
  have bK := C.2.1.2.2.1
  have bV := C.2.1.2.2.2
  have ln := (tkS_len h bK nV).2
  unfold tkL
  rw [List.length_append]
  have c2 := chg_len (m := (tkS h nK nV).2.2) (a := (tkS h nK nV).2.1) (b := 0) nK
  by_cases z : nV = 0
  · have := (tkS_len h bK nV).1 z
    omega
  · omega
theorem op_tasks {g : mG} {d : Nat} (I : mI h nT nJ nK nV vs) : mB g me_fn_tasks me_fm_tasks (d + 9) 0 0 [some (vr 0 0)] [some (vr 10 0)] h := by
  have C := I.1
  refine mB.qR I (nI (tkL h nK nV).length) (fun Q K => v_fn_tasks_0 (d := d + 3) C.1 (sp_build (d := d + 3) C fun h2 R T => ⟨rfl, C.1.of R.1, ?_⟩)) (fun hC R I' Q K => v_fm_tasks_0 (d := d + 6) I'.1.1 (sp_findTasks (d := d + 6) C (sameQ.A R) fun h2 e U T => ⟨rfl, I'.1.1.of e, ?_⟩))
  · rw [T.2]
    exact K h2 R
  · rw [T.2]
    exact K h2 (sameA.U e U)
theorem sw_3 (x : Int32) (h1 : ¬ x < 0) (h2 : x ≤ 2) : x = 0 ∨ x = 1 ∨ x = 2 := by
  obtain ⟨n, _, n1, rfl⟩ := rng (lo := 0) (hi := 2) (x := x) (Int32.not_lt.mp h1) h2 (by omega) (by omega)
  rcases (show n = 0 ∨ n = 1 ∨ n = 2 by omega) with rfl | rfl | rfl
  · exact Or.inl rfl
  · exact Or.inr (Or.inl rfl)
  · exact Or.inr (Or.inr rfl)
theorem op_task {g : mG} {d : Nat} (I : mI h nT nJ nK nV vs) (x x2 : Int32) : mB g me_fn_task me_fm_task (d + 9) 0 0 [some (vr 0 0), some (vi x), some (vi x2)] [some (vr 10 0), some (vi x), some (vi x2)] h := by
  have C := I.1
  have bL := tkL_le C
  have ix : x < 0 ∨ (¬ x < 0 ∧ nI (tkL h nK nV).length ≤ x) ∨ ∃ j, j < (tkL h nK nV).length ∧ x = nI j := ix_or x (by omega)
  rcases ix with c1 | ⟨c1, c2⟩ | ⟨i, hi, rfl⟩
  · exact mB.refR I rf1 (-1) (fun Q K => v_fn_task_0 (d := d + 3) _ _ C.1 (sp_build (d := d + 3) C fun h2 R T => ⟨rfl, C.1.of R.1, fun _ => sp_refC (Q := fun y h => Q (some (vi y)) h) (C.1.of R.1) rf1 (K h2 R), fun q => absurd c1 q⟩)) (fun hC R Q K => v_fm_task_0 (d := d + 6) _ _ (C.1.of R.1) (sp_findTasks (d := d + 6) C ((sameQ.A R).tr sameQ.rfC) fun h2 e U T => ⟨rfl, (C.1.of R.1).of e, fun _ => sp_refM (Q := fun y h => Q (some (vi y)) h) ((C.1.of R.1).of e) rf1 (K h2 (sameA.U e U)), fun q => absurd c1 q⟩))
  · refine mB.refR I rf1 (-1) (fun Q K => v_fn_task_0 (d := d + 3) _ _ C.1 (sp_build (d := d + 3) C fun h2 R T => ⟨rfl, C.1.of R.1, fun q => absurd q c1, fun _ => ⟨fun q => absurd c2 (Int32.not_le.mpr (by rw [T.2] at q; exact q)), fun _ => sp_refC (Q := fun y h => Q (some (vi y)) h) (C.1.of R.1) rf1 (K h2 R)⟩⟩)) (fun hC R Q K => v_fm_task_0 (d := d + 6) _ _ (C.1.of R.1) (sp_findTasks (d := d + 6) C ((sameQ.A R).tr sameQ.rfC) fun h2 e U T => ⟨rfl, (C.1.of R.1).of e, fun q => absurd q c1, fun _ => ⟨fun _ => sp_refM (Q := fun y h => Q (some (vi y)) h) ((C.1.of R.1).of e) rf1 (K h2 (sameA.U e U)), fun q => absurd (by rw [T.2]; exact c2) q⟩⟩))
  have n0 : ¬ nI i < 0 := nnneg (by omega)
  have hin : vp_in (nI i) 576 := nin (by omega) (by omega)
  have ci : (nI i).toNatClampNeg = i := nc (by omega)
  by_cases c3 : x2 < 0
  · refine mB.refR I rf2 (-2) (fun Q K => v_fn_task_0 (d := d + 3) _ _ C.1 (sp_build (d := d + 3) C fun h2 R T => ⟨rfl, C.1.of R.1, fun q => absurd q n0, fun _ => ⟨fun _ => ⟨fun _ => sp_refC (Q := fun y h => Q (some (vi y)) h) (C.1.of R.1) rf2 (K h2 R), fun q => absurd c3 q⟩, fun q => absurd (by rw [T.2]; exact nlt hi (by omega)) q⟩⟩)) (fun hC R Q K => v_fm_task_0 (d := d + 6) _ _ (C.1.of R.1) (sp_findTasks (d := d + 6) C ((sameQ.A R).tr sameQ.rfC) fun h2 e U T => ⟨rfl, (C.1.of R.1).of e, fun q => absurd q n0, fun _ => ⟨fun q => absurd q (by rw [T.2]; exact nnle hi (by omega)), fun _ => ⟨fun _ => ⟨fun _ => ⟨fun _ => sp_refM (Q := fun y h => Q (some (vi y)) h) ((C.1.of R.1).of e) rf2 (K h2 (sameA.U e U)), fun q => ?_⟩, fun q => ?_⟩, fun q => ?_⟩⟩⟩))
    · rw [q] at c3; exact absurd c3 (by decide)
    · rw [q] at c3; exact absurd c3 (by decide)
    · rw [q] at c3; exact absurd c3 (by decide)
  by_cases c4 : x2 ≤ 2
  case neg =>
    refine mB.refR I rf2 (-2) (fun Q K => v_fn_task_0 (d := d + 3) _ _ C.1 (sp_build (d := d + 3) C fun h2 R T => ⟨rfl, C.1.of R.1, fun q => absurd q n0, fun _ => ⟨fun _ => ⟨fun q => absurd q c3, fun _ => ⟨fun q => absurd q c4, fun _ => sp_refC (Q := fun y h => Q (some (vi y)) h) (C.1.of R.1) rf2 (K h2 R)⟩⟩, fun q => absurd (by rw [T.2]; exact nlt hi (by omega)) q⟩⟩)) (fun hC R Q K => v_fm_task_0 (d := d + 6) _ _ (C.1.of R.1) (sp_findTasks (d := d + 6) C ((sameQ.A R).tr sameQ.rfC) fun h2 e U T => ⟨rfl, (C.1.of R.1).of e, fun q => absurd q n0, fun _ => ⟨fun q => absurd q (by rw [T.2]; exact nnle hi (by omega)), fun _ => ⟨fun _ => ⟨fun _ => ⟨fun _ => sp_refM (Q := fun y h => Q (some (vi y)) h) ((C.1.of R.1).of e) rf2 (K h2 (sameA.U e U)), fun q => ?_⟩, fun q => ?_⟩, fun q => ?_⟩⟩⟩))
    · rw [q] at c4; exact absurd (by decide) c4
    · rw [q] at c4; exact absurd (by decide) c4
    · rw [q] at c4; exact absurd (by decide) c4
  obtain ⟨t, et⟩ : ∃ t, (tkL h nK nV)[i]? = some t := ⟨_, List.getElem?_eq_getElem hi⟩
  refine mB.qR I (if x2 = 0 then nI t.1 else if x2 = 1 then nI t.2.1 else bI t.2.2) (fun Q K => v_fn_task_0 (d := d + 3) _ _ C.1 (sp_build (d := d + 3) C fun h2 R T => ?_)) (fun hC R I' Q K => v_fm_task_0 (d := d + 6) _ _ I'.1.1 (sp_findTasks (d := d + 6) C (sameQ.A R) fun h2 e U T => ?_))
  · have K2 := K h2 R
    obtain ⟨t1, t2, t3, _⟩ := T.1 i t et
    refine ⟨rfl, C.1.of R.1, fun q => absurd q n0, fun _ => ⟨fun _ => ⟨fun q => absurd q c3, fun _ => ⟨fun _ => ⟨fun q => absurd q n0, fun _ => ⟨fun q => absurd q (by rw [T.2]; exact nnle hi (by omega)), fun _ => ⟨fun _ => ?_, fun q => absurd (nlt (b := 576) (by omega) (by omega)) q⟩⟩⟩, fun q => absurd c4 q⟩⟩, fun q => absurd (by rw [T.2]; exact nlt hi (by omega)) q⟩⟩
    rw [ci, t1, t2, t3]
    rcases sw_3 x2 c3 c4 with rfl | rfl | rfl
    · exact ⟨fun q => absurd rfl q, fun _ => ⟨hin, K2⟩⟩
    · exact ⟨fun _ => ⟨fun q => absurd rfl q, fun _ => ⟨hin, K2⟩⟩, fun q => absurd q (by decide)⟩
    · exact ⟨fun _ => ⟨fun _ => ⟨hin, K2⟩, fun q => absurd q (by decide)⟩, fun q => absurd q (by decide)⟩
  · have K2 := K h2 (sameA.U e U)
    obtain ⟨t1, t2, t3⟩ := T.1 i t et
    refine ⟨rfl, I'.1.1.of e, fun q => absurd q n0, fun _ => ⟨fun q => absurd q (by rw [T.2]; exact nnle hi (by omega)), fun _ => ?_⟩⟩
    rw [ci, t1, t2, t3]
    rcases sw_3 x2 c3 c4 with rfl | rfl | rfl
    · exact ⟨fun q => absurd rfl q, fun _ => ⟨hin, K2⟩⟩
    · exact ⟨fun _ => ⟨fun q => absurd rfl q, fun _ => ⟨hin, K2⟩⟩, fun q => absurd q (by decide)⟩
    · exact ⟨fun _ => ⟨fun _ => ⟨fun q => absurd rfl q, fun _ => ⟨hin, K2⟩⟩, fun q => absurd q (by decide)⟩, fun q => absurd q (by decide)⟩
end CORE
