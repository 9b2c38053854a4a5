/-! the class's going of the walk, whole -/
section CORE
variable {h h' hm : mH} {nT nJ nK nV nT' nJ' nK' : Nat} {vs : Nat → Nat}
theorem mCore.vn (C : mCore h nT nJ nK nV vs) {v : Nat} (hv : v < nV) : hI h 11 25 v = nI (vF h v) ∧ hI h 9 (vs v) 1 = nI (vF h v) ∧ vF h v ≤ 1440 ∧ hI h 11 26 v = nI (vT h v) ∧ hI h 9 (vs v) 2 = nI (vT h v) ∧ vT h v ≤ 1440 ∧ (∀ u, u < v → vT h u < vF h v) := by
  obtain ⟨_, ⟨f, _, f1, f2, f3⟩, ⟨t, _, t1, t2, t3⟩, _, _, z6, _⟩ := C.vw hv
  have e1 : vF h v = f := by unfold vF; rw [f3, nc (by omega)]
  have e2 : vT h v = t := by unfold vT; rw [t3, nc (by omega)]
  refine ⟨by rw [e1]; exact f3, by rw [e1]; exact f2, by omega, by rw [e2]; exact t3, by rw [e2]; exact t2, by omega, fun u hu => ?_⟩
  obtain ⟨_, _, ⟨t', _, t1', _, t3'⟩, _⟩ := C.vw (v := u) (by omega)
  have := z6 u hu
  rw [t3', f3] at this
  have e3 : vT h u = t' := by unfold vT; rw [t3', nc (by omega)]
  rw [e1, e3]
  exact (nlt_iff (by omega) (by omega)).mp this
theorem vwA_end (C : mCore h nT nJ nK nV vs) {m : Nat} (hu : ∀ u, u < nV → vT h u < m) : vwA h nV m = none := by
  refine (fsN_none nV 0).mpr fun u _ b => decide_eq_false fun z => ?_
  have := hu u (by omega)
  omega
theorem vwA_no (C : mCore h nT nJ nK nV vs) {m v : Nat} (hv : v < nV) (hu : ∀ u, u < v → vT h u < m) (h1 : m ≤ vT h v) (h2 : m < vF h v) : vwA h nV m = none := by
  refine (fsN_none nV 0).mpr fun u _ b => decide_eq_false fun z => ?_
  by_cases q : u < v
  · have := hu u q; omega
  · by_cases q2 : u = v
    · subst q2; omega
    · have := (C.vn (v := u) (by omega)).2.2.2.2.2.2 v (by omega)
      omega
theorem vwA_yes {m v : Nat} (hv : v < nV) (hu : ∀ u, u < v → vT h u < m) (h1 : m ≤ vT h v) (h2 : vF h v ≤ m) : vwA h nV m = some v := by
  refine fsN_is (Nat.zero_le _) (by omega) (decide_eq_true ⟨h2, h1⟩) fun u _ q => decide_eq_false fun z => ?_
  have := hu u q
  omega
theorem psN_le (js : Int32) (W : Nat → Nat) (t : Nat) : psN h nJ js W t ≤ cp h t := by unfold psN fil; omega
def cR (h2 : mH) (r : R6) : Prop := hI h2 3 0 2 = r.1.1 ∧ hI h2 3 0 3 = r.1.2.1 ∧ hI h2 3 0 4 = r.1.2.2 ∧ hI h2 3 0 5 = r.2.1 ∧ hI h2 3 0 6 = r.2.2.1 ∧ hI h2 3 0 7 = r.2.2.2
theorem cW.rk {s : WS} (S : cW h h' nT s) (js : Int32) : cW h (rkH h' nT nJ js 0) nT s := ⟨S.1.tr (sameA.rk h' nT nJ js 0), fun t ht => S.2.1 t ht, S.2.2.1, S.2.2.2.1, S.2.2.2.2.1, S.2.2.2.2.2.1, S.2.2.2.2.2.2.1, S.2.2.2.2.2.2.2⟩
theorem sp_go23 {g : mG} {d last : Nat} {may : Int32} {Q : Option mV → mH → Prop} (C : mCore h nT nJ nK nV vs) (hl : last ≤ 1440) : ∀ n m, (m + n = last + 1 ∨ (n = 0 ∧ last < m)) → m ≤ 1441 → ∀ v rk h' s o6 o7 o8, v ≤ nV → (∀ u, u < v → vT h u < m) → cW h h' nT s → (∀ t, t < nT → s.1 t ≤ cp h t) → (rk = -1 ∨ RkV h h' nT nJ rk) → (∀ h2, sameA h h2 → cR h2 (wk h nT nJ nK nV (decide (¬ may = 0)) n m s) → Q none h2) →
    mT g me_sr_go (d + 6) 0 0 23 [some (vr 3 0), some (vi may), some (vi (nI last)), some (vi (nI v)), some (vi rk), some (vi (nI m)), o6, o7, o8] [] h' Q := by
  have bV := C.2.1.2.2.2
  intro n
  induction n with
  | zero =>
    intro m hm hm2 v rk h' s o6 o7 o8 hv hu S bw hrk K
    refine v_sr_go_23 _ _ _ _ _ _ _ _ (C.1.of S.1.1) ⟨fun _ => K h' S.1 ⟨S.2.2.2.2.2.1, S.2.2.2.2.2.2.1, S.2.2.2.2.2.2.2, S.2.2.1, S.2.2.2.1, S.2.2.2.2.1⟩, fun q => absurd (nlt (by omega) (by omega)) q⟩
  | succ n ih =>
    intro m hm hm2 v rk h' s o6 o7 o8 hv hu S bw hrk K
    refine v_sr_go_23 _ _ _ _ _ _ _ _ (C.1.of S.1.1) ⟨fun q => absurd q (nnlt (by omega) (by omega)), fun _ => ?_⟩
    have R := S.1
    have C' := C.of R.R
    have lst : mCl h' 3 9 nV vs := C'.2.2.1.2.2.2.1
    have hm' : m + 1 + n = last + 1 ∨ (n = 0 ∧ last < m + 1) := Or.inl (by omega)
    have ew : wk h nT nJ nK nV (decide (¬ may = 0)) (n + 1) m s = (match vwA h nV m with
      | none => wk h nT nJ nK nV (decide (¬ may = 0)) n (m + 1) (psW h nT nJ 0 s)
      | some v => match lkR h nT nJ (hI h 11 24 v) (hI h 11 27 v) (decide (¬ may = 0)) s.1 nK 0 s.2.2.2 with
        | (l, some k) => ((nI m, nI v, nI k), s.2.1, s.2.2.1, l)
        | (l, none) => wk h nT nJ nK nV (decide (¬ may = 0)) n (m + 1) (psW h nT nJ (hI h 11 24 v) (s.1, s.2.1, s.2.2.1, l))) := rfl
    rw [ew] at K
    clear ew
    -- none is seen
    have sN : ∀ v, v ≤ nV → (∀ u, u < v → vT h u < m) → vwA h nV m = none → ((0 : Int32) = rk → mT g me_sr_passMinute (d + 5) 0 0 0 [some (vr 3 0), none, none, none] [] h' (fun w h5 => w = none ∧ mSK h5 ∧ mT g me_sr_go (d + 6) 0 0 23 [some (vr 3 0), some (vi may), some (vi (nI last)), some (vi (nI v)), some (vi rk), some (vi (nI m + 1)), some vn, some (vi (0 : Int32)), some vn] [] h5 Q)) ∧
        (¬ (0 : Int32) = rk → mT g me_ga_reckon (d + 5) 0 0 0 [some (vr 1 0), some (vi (0 : Int32)), some (vi (0 : Int32)), none, none] [] h' (fun w h6 => w = none ∧ mSK h6 ∧ mT g me_sr_passMinute (d + 5) 0 0 0 [some (vr 3 0), none, none, none] [] h6 (fun w h7 => w = none ∧ mSK h7 ∧ mT g me_sr_go (d + 6) 0 0 23 [some (vr 3 0), some (vi may), some (vi (nI last)), some (vi (nI v)), some (vi (0 : Int32)), some (vi (nI m + 1)), some vn, some (vi (0 : Int32)), some vn] [] h7 Q))) := by
      intro v hv hu hN
      rw [hN] at K
      refine ⟨fun q => ?_, fun q => ?_⟩
      · have V : RkV h h' nT nJ 0 := by
          rcases hrk with z | z
          · rw [z] at q; exact absurd q (by decide)
          · rw [← q] at z; exact z
        refine sp_passC (d := d + 1) C S V bw fun h2 S2 ck => ⟨rfl, C.1.of S2.1.1, ?_⟩
        rw [nI_1]
        exact ih (m + 1) hm' (by omega) v rk h2 _ _ _ _ hv (fun u z => by have := hu u z; omega) S2 (fun t _ => psN_le 0 s.1 t) (Or.inr (by rw [← q]; exact V.of ck.1 ck.2)) K
      · refine sp_reckonC C' ⟨rfl, C'.1.of (sameA.rk h' nT nJ 0 0).1, ?_⟩
        refine sp_passC (d := d + 1) C (S.rk 0) (RkV.rk R 0) bw fun h2 S2 ck => ⟨rfl, C.1.of S2.1.1, ?_⟩
        rw [nI_1]
        exact ih (m + 1) hm' (by omega) v 0 h2 _ _ _ _ hv (fun u z => by have := hu u z; omega) S2 (fun t _ => psN_le 0 s.1 t) (Or.inr ((RkV.rk R 0).of ck.1 ck.2)) K
    -- a view
    have lk : ∀ v h2 rk', v < nV → (∀ u, u < v → vT h u < m) → vwA h nV m = some v → cW h h2 nT s → rk' = hI h 11 24 v → RkV h h2 nT nJ rk' → mT g me_sr_lookAtRises (d + 5) 0 0 0 [some (vr 3 0), some (vr 9 (vs v)), some (vi may), none, none, none] [] h2 (fun w h9 => ∃ p10, w = some (vp p10) ∧ mSK h9 ∧ ((p10 = none → mT g me_sr_passMinute (d + 5) 0 0 0 [some (vr 3 0), none, none, none] [] h9 (fun w h12 => w = none ∧ mSK h12 ∧ mT g me_sr_go (d + 6) 0 0 23 [some (vr 3 0), some (vi may), some (vi (nI last)), some (vi (nI v)), some (vi rk'), some (vi (nI m + 1)), some (vr 9 (vs v)), some (vi (hI h' 9 (vs v) 0)), some vn] [] h12 Q)) ∧
        (∀ kq n11, p10 = some (kq, n11) → kq = 8 ∧ Q none (setI (setI (setI h9 3 0 2 (nI m)) 3 0 3 (nI v)) 3 0 4 (hI h9 8 n11 0))))) := by
      intro v h2 rk' hv hu hS S2 hj V
      rw [hS] at K
      refine sp_lookC (d := d + 1) C S2 V hv hj fun h3 l r e hr S3 ck => ⟨_, rfl, C.1.of S3.1.1, ?_⟩
      dsimp only at K
      rw [← hj, e] at K
      rcases hr with rfl | ⟨k, hk, rfl⟩
      · refine ⟨fun _ => ?_, fun kq n z => by cases z⟩
        refine sp_passC (d := d + 1) C S3 (V.of ck.1 ck.2) bw fun h4 S4 ck4 => ⟨rfl, C.1.of S4.1.1, ?_⟩
        rw [nI_1]
        exact ih (m + 1) hm' (by omega) v rk' h4 _ _ _ _ (by omega) (fun u z => by have := hu u z; omega) S4 (fun t _ => psN_le _ s.1 t) (Or.inr ((V.of ck.1 ck.2).of ck4.1 ck4.2)) K
      · refine ⟨fun z => (by cases z), fun kq n z => ?_⟩
        cases z
        refine ⟨rfl, ?_⟩
        have ek : hI h3 8 k 0 = nI k := (S3.1.2 8 k 0 rfl).trans (C.je hk).1
        rw [ek]
        refine K _ (((S3.1.sI rfl).sI rfl).sI rfl) ⟨?_, ?_, ?_, ?_, ?_, ?_⟩
        · exact (hI_nf (by decide)).trans ((hI_nf (by decide)).trans hI_eq)
        · exact (hI_nf (by decide)).trans hI_eq
        · exact hI_eq
        · exact (hI_nf (by decide)).trans ((hI_nf (by decide)).trans ((hI_nf (by decide)).trans S3.2.2.1))
        · exact (hI_nf (by decide)).trans ((hI_nf (by decide)).trans ((hI_nf (by decide)).trans S3.2.2.2.1))
        · exact (hI_nf (by decide)).trans ((hI_nf (by decide)).trans ((hI_nf (by decide)).trans S3.2.2.2.2.1))
    -- the views that are over
    have w : ∀ r v, v + r = nV → (∀ u, u < v → vT h u < m) → ∀ o6 o7 o8, mT g me_sr_go (d + 6) 0 0 29 [some (vr 3 0), some (vi may), some (vi (nI last)), some (vi (nI v)), some (vi rk), some (vi (nI m)), o6, o7, o8] [] h' Q := by
      intro r
      induction r with
      | zero =>
        intro v hv hu o6 o7 o8
        have hle : hI h' 2 3 1 ≤ nI v := by rw [lst.1, show v = nV by omega]; exact Int32.le_refl _
        exact v_sr_go_29 _ _ _ _ _ _ _ _ C'.1 ⟨fun _ => ⟨fun _ => sN v (by omega) hu (vwA_end C fun u z => hu u (by omega)), fun q => absurd hle q⟩, fun q => absurd hle q⟩
      | succ r ihr =>
        intro v hv hu o6 o7 o8
        have hlt : v < nV := by omega
        have hnle : ¬ hI h' 2 3 1 ≤ nI v := by rw [lst.1]; exact nnle hlt (by omega)
        have G := lst.get hlt
        obtain ⟨n1, n2, n3, n4, n5, n6, n7⟩ := C.vn hlt
        have e1 : hI h' 9 (vs v) 1 = nI (vF h v) := (R.2 9 _ 1 rfl).trans n2
        have e2 : hI h' 9 (vs v) 2 = nI (vT h v) := (R.2 9 _ 2 rfl).trans n5
        have e0 : hI h' 9 (vs v) 0 = hI h 11 24 v := (R.2 9 _ 0 rfl).trans (C.vw hlt).1
        refine v_sr_go_29 _ _ _ _ _ _ _ _ C'.1 ⟨fun q => absurd q hnle, fun _ => ⟨vs v, G, fun q1 => ⟨fun q => absurd q hnle, fun _ => ⟨vs v, G, fun q2 => ?_, fun q2 => ⟨vs v, G, fun q3 => ?_, fun q3 => ?_⟩⟩⟩, fun q1 => ?_⟩⟩
        · rw [e2] at q1
          rw [e1] at q2
          exact sN v (by omega) hu (vwA_no C hlt hu ((nle_iff (by omega) (by omega)).mp q1) ((nlt_iff (by omega) (by omega)).mp q2))
        · rw [e2] at q1
          rw [e1] at q2
          have hS := vwA_yes hlt hu ((nle_iff (by omega) (by omega)).mp q1) (Nat.le_of_not_lt fun z => q2 (nlt z (by omega)))
          have V : RkV h h' nT nJ rk := by
            rcases hrk with z | z
            · exfalso
              rw [z, e0] at q3
              have := (C.vw hlt).2.2.2.2.2.2.2.1
              rw [q3] at this
              exact absurd this (by decide)
            · exact z
          exact lk v h' rk hlt hu hS S (q3.symm.trans e0) V
        · rw [e2] at q1
          rw [e1] at q2
          have hS := vwA_yes hlt hu ((nle_iff (by omega) (by omega)).mp q1) (Nat.le_of_not_lt fun z => q2 (nlt z (by omega)))
          refine sp_reckonC C' ⟨rfl, C'.1.of (sameA.rk h' nT nJ _ 0).1, ?_⟩
          exact lk v _ (hI h' 9 (vs v) 0) hlt hu hS (S.rk _) e0 (RkV.rk R _)
        · rw [nI_1]
          rw [e2] at q1
          refine ihr (v + 1) (by omega) (fun u z => ?_) _ _ _
          by_cases y : u = v
          · subst y
            exact Nat.lt_of_not_le fun z => q1 (nle z (by omega))
          · exact hu u (by omega)
    exact w (nV - v) v (by omega) hu o6 o7 o8
theorem lowT_pos {W : Nat → Nat} : ∀ n {l : Int32}, 0 ≤ l → (∀ t, t < n → W t ≤ 100000) → 0 ≤ lowT W l n
  | 0, l, h, _ => h
  | n + 1, l, h, b => by
    unfold lowT
    split
    · exact nI_pos' (by have := b n (by omega); omega)
    · exact lowT_pos n h fun t ht => b t (by omega)
/-- the start of a walk -/
def s0 (h : mH) (nT : Nat) : WS := (wt h, 0, lowT (wt h) 60000 nT, 500)
theorem sp_beginC {g : mG} {d : Nat} {Q : Option mV → mH → Prop} (C : mCore h nT nJ nK nV vs) (K : ∀ h2, cW h h2 nT (s0 h nT) → Q none h2) : mT g me_sr_begin (d + 4) 0 0 0 [some (vr 3 0), none, none] [] h Q := by
  have bT := C.2.1.1
  have w : ∀ i, i ≤ nT → ∀ h2 o2, sameA h h2 → (∀ t, t < i → hI h2 6 t 9 = nI (wt h t)) → hI h2 3 0 5 = 0 → hI h2 3 0 6 = lowT (wt h) 60000 i → hI h2 3 0 7 = 500 → hI h2 3 0 2 = -9 → hI h2 3 0 3 = -9 → hI h2 3 0 4 = -9 → mT g me_sr_begin (d + 4) 0 0 38 [some (vr 3 0), some (vi (nI i)), o2] [] h2 Q := by
    refine upTo ?_ fun i hi ih => ?_
    · intro h2 o2 R a b c e f1 f2 f3
      have lst : mCl h2 0 6 nT id := C.2.2.1.1.of R.1 (R.2 2 0 1 rfl)
      exact v_sr_begin_38 _ _ (C.1.of R.1) ⟨fun _ => K h2 ⟨R, a, b, c, e, f1, f2, f3⟩, fun q => absurd (by rw [lst.1]; exact Int32.le_refl _) q⟩
    · intro h2 o2 R a b c e f1 f2 f3
      have lst : mCl h2 0 6 nT id := C.2.2.1.1.of R.1 (R.2 2 0 1 rfl)
      refine v_sr_begin_38 _ _ (C.1.of R.1) ⟨fun q => absurd q (by rw [lst.1]; exact nnle hi (by omega)), fun _ => ⟨i, lst.get hi, ?_⟩⟩
      have e5 : hI h2 6 i 5 = nI (wt h i) := (R.2 6 i 5 rfl).trans (C.num hi).2.2.2.2.2.2.2.1
      rw [e5, c, nI_1]
      refine ih _ _ ⟨R.1, fun k n f r => (hI_no (fun y => ?_)).trans ((hI_no (fun y => ?_)).trans (R.2 k n f r))⟩ (fun t ht => ?_) ?_ ?_ ?_ ?_ ?_ ?_
      · rw [y.1, y.2.2] at r; exact absurd (show false = true from r) (by decide)
      · rw [y.1, y.2.2] at r; exact absurd (show false = true from r) (by decide)
      · show hI (setI h2 6 i 9 _) 6 t 9 = _
        rw [hI_n2]
        by_cases q : t = i
        · rw [if_pos q, q]
        · rw [if_neg q]; exact a t (by omega)
      · exact (hI_nf (by decide)).trans b
      · exact hI_eq
      · exact (hI_nf (by decide)).trans e
      · exact (hI_nf (by decide)).trans f1
      · exact (hI_nf (by decide)).trans f2
      · exact (hI_nf (by decide)).trans f3
  refine v_sr_begin_0 C.1 (w 0 (Nat.zero_le _) _ none ((((((sameA.rf.sI rfl).sI rfl).sI rfl).sI rfl).sI rfl).sI rfl) (fun t ht => absurd ht (Nat.not_lt_zero _)) ?_ ?_ ?_ ?_ ?_ ?_)
  · exact (hI_nf (by decide)).trans ((hI_nf (by decide)).trans hI_eq)
  · exact (hI_nf (by decide)).trans hI_eq
  · exact hI_eq
  · exact (hI_nf (by decide)).trans ((hI_nf (by decide)).trans ((hI_nf (by decide)).trans ((hI_nf (by decide)).trans ((hI_nf (by decide)).trans hI_eq))))
  · exact (hI_nf (by decide)).trans ((hI_nf (by decide)).trans ((hI_nf (by decide)).trans ((hI_nf (by decide)).trans hI_eq)))
  · exact (hI_nf (by decide)).trans ((hI_nf (by decide)).trans ((hI_nf (by decide)).trans hI_eq))
/-- the last minute of the last view; -1 -/
def lstM (h : mH) (nV : Nat) : Int32 := if nV = 0 then -1 else nI (vT h (nV - 1))
theorem sp_lastC {g : mG} {d : Nat} {Q : Option mV → mH → Prop} (C : mCore h nT nJ nK nV vs) (R : sameA h h') (K : Q (some (vi (lstM h nV))) h') : mT g me_sr_lastMinute (d + 4) 0 0 0 [some (vr 3 0)] [] h' Q := by
  have bV := C.2.1.2.2.2
  have lst : mCl h' 3 9 nV vs := C.2.2.1.2.2.2.1.of R.1 (R.2 2 3 1 rfl)
  unfold lstM at K
  by_cases z : nV = 0
  · rw [if_pos z] at K
    exact v_sr_lastMinute_0 (C.1.of R.1) ⟨fun q => absurd (by rw [lst.1, z]; rfl) q, fun _ => K⟩
  · rw [if_neg z] at K
    refine v_sr_lastMinute_0 (C.1.of R.1) ⟨fun _ => ⟨vs (nV - 1), ?_, ?_⟩, fun q => absurd q (by rw [lst.1]; exact nI_ne0 (by omega) (by omega))⟩
    · rw [lst.1, show (1 : Int32) = nI 1 from rfl, pk_sub (by omega)]
      exact lst.get (by omega)
    · rw [R.2 9 _ 2 rfl, (C.vn (v := nV - 1) (by omega)).2.2.2.2.1]
      exact K
/-- GOING THE WALK, of the class -/
theorem sp_goC {g : mG} {d m last : Nat} {may : Int32} {Q : Option mV → mH → Prop} (C : mCore h nT nJ nK nV vs) (hm : hI h 1 0 4 = nI m) (hl : lstM h nV = nI last) (bl : last ≤ 1440) (hml : m ≤ last) (K : ∀ h2, sameA h h2 → cR h2 (wk h nT nJ nK nV (decide (¬ may = 0)) (last + 1 - m) m (s0 h nT)) → Q none h2) : mT g me_sr_go (d + 6) 0 0 0 [some (vr 3 0), some (vi may), none, none, none, none, none, none, none] [] h Q := by
  refine v_sr_go_0 _ C.1 (sp_beginC (d := d + 1) C fun h2 S => ⟨rfl, C.1.of S.1.1, sp_lastC (d := d + 1) C S.1 ⟨_, rfl, C.1.of S.1.1, ?_⟩⟩)
  rw [hl, S.1.2 1 0 4 rfl, hm]
  exact sp_go23 C bl (last + 1 - m) m (Or.inl (by omega)) (by omega) 0 (-1) h2 (s0 h nT) none none none (Nat.zero_le _) (fun u z => absurd z (Nat.not_lt_zero _)) S (fun t ht => (C.num ht).2.2.2.2.2.2.2.2) (Or.inl rfl) K
end CORE
