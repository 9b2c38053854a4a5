/-! unview, view -/
theorem msk_b {n i : Nat} (hn : n ≤ 24) (hi : i < 32) : tB ((mBit n - 1) ^^^ (-1)) i = decide (n ≤ i) := by
  have : ∀ n, n < 25 → ∀ i, i < 32 → tB ((mBit n - 1) ^^^ (-1)) i = decide (n ≤ i) := by decide +kernel
  exact this n (by omega) i hi
theorem mBit_int {n : Nat} (hn : n ≤ 24) : (mBit n).toInt = ((2 ^ n : Nat) : Int) := by
  have : ∀ n, n < 25 → (mBit n).toInt = ((2 ^ n : Nat) : Int) := by decide +kernel
  exact this n (by omega)
theorem tB_nI {m i : Nat} (hi : i < 32) : tB (nI m) i = m.testBit i := by
  unfold tB
  show (BitVec.ofNat 32 m).getLsbD i = _
  rw [BitVec.getLsbD_ofNat]
  simp [hi]
theorem nI_int {t n : Nat} (hn : n ≤ 24) (ht : t < 2 ^ n) : (nI t).toInt = (t : Int) := by
  have : 2 ^ n ≤ 2 ^ 24 := Nat.pow_le_pow_right (by omega) hn
  exact nI_toInt (by omega)
theorem vw_ok (x : Int32) {n : Nat} (hn : n ≤ 24) : (¬ x = 0 ∧ x &&& ((mBit n - 1) ^^^ (-1)) = 0) ↔ (¬ x ≤ 0 ∧ x < mBit n) := by
  have key : x &&& ((mBit n - 1) ^^^ (-1)) = 0 ↔ ∀ i, n ≤ i → i < 32 → tB x i = false := by
    refine ⟨fun z i a b => ?_, fun z => tB_ext fun i hi => ?_⟩
    · have e := congrArg (fun y => tB y i) z
      rw [tB_and, msk_b hn b, tB_0, decide_eq_true a, Bool.and_true] at e
      exact e
    · rw [tB_and, msk_b hn hi, tB_0]
      by_cases q : n ≤ i
      · rw [z i q hi]; rfl
      · rw [decide_eq_false q, Bool.and_false]
  have p24 : 2 ^ n ≤ 2 ^ 24 := Nat.pow_le_pow_right (by omega) hn
  have z0 : (0 : Int32).toInt = 0 := by decide
  constructor
  · intro ⟨a, b⟩
    have lt : x.toBitVec.toNat < 2 ^ n := by
      refine Nat.lt_pow_two_of_testBit _ fun i hi => ?_
      by_cases q : i < 32
      · exact key.mp b i hi q
      · exact Nat.testBit_lt_two_pow (Nat.lt_of_lt_of_le x.toBitVec.isLt (Nat.pow_le_pow_right (by omega) (by omega)))
    have ex : x = nI x.toBitVec.toNat := Int32.toBitVec_inj.mp (by
      show x.toBitVec = BitVec.ofNat 32 x.toBitVec.toNat
      rw [BitVec.ofNat_toNat, BitVec.setWidth_eq])
    generalize x.toBitVec.toNat = t at lt ex
    subst ex
    have e := nI_int hn lt
    have t0 : t ≠ 0 := fun z => a (by rw [z]; rfl)
    refine ⟨fun z => ?_, ?_⟩
    · rw [ile, e, z0] at z; omega
    · rw [ilt, e, mBit_int hn]; exact Int.ofNat_lt.mpr lt
  · intro ⟨a, b⟩
    rcases i_or x with q | ⟨m, m1, rfl⟩
    · exact absurd (Int32.le_of_lt q) a
    · have e : (nI m).toInt = (m : Int) := nI_toInt (by omega)
      rw [ilt, e, mBit_int hn] at b
      have lt : m < 2 ^ n := Int.ofNat_lt.mp b
      refine ⟨fun z => a (by rw [z]; exact Int32.le_refl _), key.mpr fun i h1 h2 => ?_⟩
      rw [tB_nI h2]
      exact Nat.testBit_lt_two_pow (Nat.lt_of_lt_of_le lt (Nat.pow_le_pow_right (by omega) h1))
theorem le_m1 {x : Int32} : x ≤ -1 ↔ x < 0 := by
  rw [ile, ilt]
  have a : (-1 : Int32).toInt = -1 := by decide
  have b : (0 : Int32).toInt = 0 := by decide
  omega
theorem le_nI {x : Int32} {k : Nat} (hk : k ≤ 100000) : x ≤ nI k ↔ x < nI (k + 1) := by
  rw [ile, ilt, nI_toInt (by omega), nI_toInt (by omega)]
  omega
def vwX (h : mH) (n : Nat) (x1 x2 x3 x4 : Int32) : mH := setI (setI (setI (setI (newC h 9 0) 9 n 0 x1) 9 n 1 x2) 9 n 2 x3) 9 n 3 x4
def vwM (h : mH) (n : Nat) (x1 x2 x3 x4 : Int32) : mH := setI (setI (setI (setI (setI h 11 24 n x1) 11 25 n x2) 11 26 n x3) 11 27 n x4) 10 0 5 (nI n + 1)
section CORE
variable {h h' hC0 hM : mH} {nT nJ nK nV nT' nJ' nK' : Nat} {vs : Nat → Nat} {x1 x2 x3 x4 : Int32}
theorem vwX_I (k n' f : Nat) (q : ¬ (k = 9 ∧ n' = hC h 9)) : hI (vwX h (hC h 9) x1 x2 x3 x4) k n' f = hI h k n' f := by
  unfold vwX
  exact (hI_no fun z => q ⟨z.1, z.2.1⟩).trans ((hI_no fun z => q ⟨z.1, z.2.1⟩).trans ((hI_no fun z => q ⟨z.1, z.2.1⟩).trans ((hI_no fun z => q ⟨z.1, z.2.1⟩).trans (congrFun (newC_I q) f))))
theorem vwX_S (S : mSK h) : mSK (vwX h (hC h 9) x1 x2 x3 x4) := S.gen (fun k f r e => hP_newk (mst_no e).2.2.2.2.2) (fun k n l e => newC_L (h := h) fun z => (mln_no e).2.2.2.2.2 z.1) (fun k n f t r e p => Or.inl ((hP_newk (h := h) (mkn_no e).2.2.2).symm.trans p))
theorem vwX_L (L : mLi h nT nJ nK nV vs) : mLi (vwX h (hC h 9) x1 x2 x3 x4) nT nJ nK nV vs := mLi.nw L (fun l => vwX_I 2 l 1 (by omega)) (fun l => hP_newk (by decide)) rfl (fun e => newC_L (h := h) (k := 9) (len := 0) (fun z => absurd z.1 (by decide))) (fun e i => hP_newk (by decide))
theorem vw_new (I : mI h nT nJ nK nV vs) (hV : nV < 12) {p q r : Nat} (h1 : p ≤ q) (h2 : q ≤ 1440) (h3 : r ≤ 500) (h4 : ¬ x1 ≤ 0) (h5 : x1 < mBit nK) (pv : ∀ u, u < nV → hI h 11 26 u < nI p) (R : adR (vwX h (hC h 9) x1 (nI p) (nI q) (nI r)) hC0 3) (S : mSK hC0) (L : mCl hC0 3 9 (nV + 1) (fun i => if i = nV then hC h 9 else vs i)) : mI (vwM hC0 nV x1 (nI p) (nI q) (nI r)) nT nJ nK (nV + 1) (fun i => if i = nV then hC h 9 else vs i) := by
  obtain ⟨C, F, ca⟩ := I
  have A0 : ∀ k n f', k ≠ 13 → ¬ (k = 2 ∧ n = 3 ∧ (f' = 1 ∨ f' = 2)) → ¬ (k = 9 ∧ n = hC h 9) → hI hC0 k n f' = hI h k n f' := fun k n f' q z y => (R.1 k n f' q z).trans (vwX_I k n f' y)
  have AP : ∀ k n f', k ≠ 13 → ¬ (k = 2 ∧ n = 3 ∧ f' = 0) → k ≠ 9 → hP hC0 k n f' = hP h k n f' := fun k n f' q z y => (R.2.1 k n f' q z).trans (hP_newk y)
  have A : ∀ k n f', k ≠ 13 → ¬ (k = 2 ∧ n = 3 ∧ (f' = 1 ∨ f' = 2)) → ¬ (k = 9 ∧ n = hC h 9) → ¬ (k = 11 ∧ 24 ≤ n ∧ n ≤ 27 ∧ f' = nV) → ¬ (k = 10 ∧ n = 0 ∧ f' = 5) → hI (vwM hC0 nV x1 (nI p) (nI q) (nI r)) k n f' = hI h k n f' := by
    intro k n f' q z y w u
    unfold vwM
    exact (hI_no fun z => u ⟨z.1, z.2.1, z.2.2⟩).trans ((hI_no fun z => w ⟨z.1, by omega, by omega, z.2.2⟩).trans ((hI_no fun z => w ⟨z.1, by omega, by omega, z.2.2⟩).trans ((hI_no fun z => w ⟨z.1, by omega, by omega, z.2.2⟩).trans ((hI_no fun z => w ⟨z.1, by omega, by omega, z.2.2⟩).trans (A0 k n f' q z y)))))
  obtain ⟨L0, L1, L2, _, LD⟩ := (vwX_L C.2.2.1).ad (by omega) R
  have c7 : hC hC0 7 = nJ := (R.2.2.1 7 (by decide)).trans C.2.2.2.1.2.1
  have c8 : hC hC0 8 = nK := (R.2.2.1 8 (by decide)).trans C.2.2.2.1.2.2
  have c6 : hC hC0 6 = nT := (R.2.2.1 6 (by decide)).trans C.2.2.2.1.1
  have c9 : hC hC0 9 = hC h 9 + 1 := (R.2.2.1 9 (by decide)).trans rfl
  have D : mDj (vwM hC0 nV x1 (nI p) (nI q) (nI r)) := LD
  refine ⟨⟨S.of rfl, ⟨C.2.1.1, C.2.1.2.1, C.2.1.2.2.1, by omega⟩, ⟨(L0 (by decide)).of rfl rfl, (L1 (by decide)).of rfl rfl, (L2 (by decide)).of rfl rfl, L.of rfl rfl, D⟩, ⟨c6, c7, c8⟩, ⟨?_, ?_, ?_, ?_⟩, fun i hi => ?_, fun j hj => ?_, fun k hk => ?_, fun v hv => ?_, ?_, ⟨fun k hk => ?_, fun k q1 q2 => ?_⟩⟩, ⟨fun t ht => ?_, fun j hj => ?_, fun k hk => ?_, fun j hj => ?_⟩, ?_⟩
  · exact (A 10 0 2 (by omega) (by omega) (by omega) (by omega) (by omega)).trans C.k2
  · exact (A 10 0 3 (by omega) (by omega) (by omega) (by omega) (by omega)).trans C.k3
  · exact (A 10 0 4 (by omega) (by omega) (by omega) (by omega) (by omega)).trans C.k4
  · exact hI_eq.trans (nI_1 _)
  · exact (C.2.2.2.2.2.1 i hi).c (fun f' => A 6 i f' (by omega) (by omega) (by omega) (by omega) (by omega)) (fun n _ _ => A 11 n i (by omega) (by omega) (by omega) (by omega) (by omega))
  · exact (C.2.2.2.2.2.2.1 j hj).c (fun f' => AP 7 j f' (by omega) (by omega) (by omega)) (fun f' => A 7 j f' (by omega) (by omega) (by omega) (by omega) (by omega)) (fun n _ _ => A 11 n j (by omega) (by omega) (by omega) (by omega) (by omega)) (A 12 0 j (by omega) (by omega) (by omega) (by omega) (by omega)) (fun a' _ => ⟨A 11 15 a' (by omega) (by omega) (by omega) (by omega) (by omega), A 12 0 a' (by omega) (by omega) (by omega) (by omega) (by omega)⟩) (fun k _ => A 11 21 k (by omega) (by omega) (by omega) (by omega) (by omega)) (Nat.le_refl _) (Nat.le_refl _)
  · exact (C.2.2.2.2.2.2.2.1 k hk).c (fun f' => A 8 k f' (by omega) (by omega) (by omega) (by omega) (by omega)) (AP 8 k 2 (by omega) (by omega) (by omega)) (fun n _ _ => A 11 n k (by omega) (by omega) (by omega) (by omega) (by omega)) (A 12 1 k (by omega) (by omega) (by omega) (by omega) (by omega)) (fun j _ _ => ⟨A 11 20 j (by omega) (by omega) (by omega) (by omega) (by omega), AP 7 j 9 (by omega) (by omega) (by omega)⟩) (Nat.le_refl _)
  · by_cases z : v = nV
    · subst z
      have a24 : hI (vwM hC0 v x1 (nI p) (nI q) (nI r)) 11 24 v = x1 := (hI_nk (by decide)).trans ((hI_nn (by decide)).trans ((hI_nn (by decide)).trans ((hI_nn (by decide)).trans hI_eq)))
      have a25 : hI (vwM hC0 v x1 (nI p) (nI q) (nI r)) 11 25 v = nI p := (hI_nk (by decide)).trans ((hI_nn (by decide)).trans ((hI_nn (by decide)).trans hI_eq))
      have a26 : hI (vwM hC0 v x1 (nI p) (nI q) (nI r)) 11 26 v = nI q := (hI_nk (by decide)).trans ((hI_nn (by decide)).trans hI_eq)
      have a27 : hI (vwM hC0 v x1 (nI p) (nI q) (nI r)) 11 27 v = nI r := (hI_nk (by decide)).trans hI_eq
      have cell : ∀ f', hI (vwM hC0 v x1 (nI p) (nI q) (nI r)) 9 (hC h 9) f' = hI (vwX h (hC h 9) x1 (nI p) (nI q) (nI r)) 9 (hC h 9) f' := fun f' => R.1 9 _ f' (by omega) (by omega)
      unfold mVw
      rw [a24, a25, a26, a27, show (fun i => if i = v then hC h 9 else vs i) v = hC h 9 from if_pos rfl, cell, cell, cell, cell]
      refine ⟨(hI_nf (by decide)).trans ((hI_nf (by decide)).trans ((hI_nf (by decide)).trans hI_eq)), ⟨p, by omega, by omega, (hI_nf (by decide)).trans ((hI_nf (by decide)).trans hI_eq), rfl⟩, ⟨q, by omega, by omega, (hI_nf (by decide)).trans hI_eq, rfl⟩, ⟨r, by omega, by omega, hI_eq, rfl⟩, nle h1 (by omega), fun u hu => ?_, by show hC h 9 < hC hC0 9; omega, Int32.not_le.mp h4, nK, Nat.le_refl _, h5⟩
      rw [A 11 26 u (by omega) (by omega) (by omega) (by omega) (by omega)]
      exact pv u hu
    · have Z := C.2.2.2.2.2.2.2.2.1 v (by omega)
      have lv : vs v < hC h 9 := Z.2.2.2.2.2.2.1
      exact Z.c (if_neg z) (fun f' => A 9 (vs v) f' (by omega) (by omega) (by omega) (by omega) (by omega)) (fun n u _ _ _ => A 11 n u (by omega) (by omega) (by omega) (by omega) (by omega)) (by show hC h 9 ≤ hC hC0 9; omega) (Nat.le_refl _)
  · exact C.2.2.2.2.2.2.2.2.2.1.c (A 1 0 4 (by omega) (by omega) (by omega) (by omega) (by omega)) (fun f' _ => A 10 0 f' (by omega) (by omega) (by omega) (by omega) (by omega)) (A 0 0 6 (by omega) (by omega) (by omega) (by omega) (by omega)) (A 5 0 1 (by omega) (by omega) (by omega) (by omega) (by omega)) (fun n i _ => A 11 n i (by omega) (by omega) (by omega) (by omega) (by omega))
  · rw [A 1 0 3 (by omega) (by omega) (by omega) (by omega) (by omega), A 12 1 k (by omega) (by omega) (by omega) (by omega) (by omega)]
    exact C.2.2.2.2.2.2.2.2.2.2.1 k hk
  · rw [A 1 0 3 (by omega) (by omega) (by omega) (by omega) (by omega)]
    exact C.2.2.2.2.2.2.2.2.2.2.2 k q1 q2
  · rw [A 11 12 t (by omega) (by omega) (by omega) (by omega) (by omega), A 11 13 t (by omega) (by omega) (by omega) (by omega) (by omega)]
    exact F.1 t ht
  · rw [A 12 0 j (by omega) (by omega) (by omega) (by omega) (by omega), A 11 19 j (by omega) (by omega) (by omega) (by omega) (by omega)]
    exact F.2.1 j hj
  · rw [A 12 1 k (by omega) (by omega) (by omega) (by omega) (by omega)]
    exact F.2.2.1 k hk
  · rw [A 7 j 7 (by omega) (by omega) (by omega) (by omega) (by omega)]
    exact F.2.2.2 j hj
  · exact mCa.of C ca fun k n f' r' => A k n f' (fun z => by rw [z] at r'; exact absurd (show false = true from r') (by decide)) (fun z => by rw [z.1] at r'; exact absurd (show false = true from r') (by decide)) (fun z => by rw [z.1] at r'; exact absurd (show false = true from r') (by decide)) (fun z => by
      rw [z.1] at r'
      unfold pC at r'
      simp only [Bool.or_eq_true, Bool.and_eq_true, beq_iff_eq, Nat.ble_eq] at r'
      omega) (fun z => by rw [z.1, z.2.2] at r'; exact absurd (show false = true from r') (by decide))
theorem op_view {g : mG} {d : Nat} (I : mI h nT nJ nK nV vs) (x1 x2 x3 x4 : Int32) : mB g me_fn_view me_fm_view (d + 9) 2 78 [some (vr 0 0), some (vi x1), some (vi x2), some (vi x3), some (vi x4), none, none] [some (vr 10 0), some (vi x1), some (vi x2), some (vi x3), some (vi x4), none] h := by
  have C := I.1
  have bV := C.2.1.2.2.2
  have bK := C.2.1.2.2.1
  have cV : hI h 2 3 1 = nI nV := C.2.2.1.2.2.2.1.1
  have cK : hI h 2 2 1 = nI nK := C.2.2.1.2.2.1.1
  have ok := vw_ok x1 bK
  by_cases z0 : x1 = 0
  · exact mB.ref I rf1 (-1) (fun Q K => v_fn_view_0 (d := d + 2) _ _ _ _ C.1 ⟨fun _ => sp_refC (Q := fun y h => Q (some (vi y)) h) C.1 rf1 K, fun z => absurd z0 z⟩) (fun Q s K => v_fm_view_0 (d := d + 7) _ _ _ _ s ⟨fun _ => sp_refM (Q := fun y h => Q (some (vi y)) h) s rf1 K, fun z => absurd (by rw [z0]; exact Int32.le_refl _) z⟩)
  by_cases z1 : x1 &&& ((((1 : Int32) <<< (hI h 2 2 1 &&& 31)) - 1) ^^^ (-1)) = 0
  case neg =>
    refine mB.ref I rf1 (-1) (fun Q K => v_fn_view_0 (d := d + 2) _ _ _ _ C.1 ⟨fun z => absurd z z0, fun _ => ⟨fun z => absurd z z1, fun _ => sp_refC (Q := fun y h => Q (some (vi y)) h) C.1 rf1 K⟩⟩) (fun Q s K => v_fm_view_0 (d := d + 7) _ _ _ _ s ⟨fun _ => sp_refM (Q := fun y h => Q (some (vi y)) h) s rf1 K, fun le => ⟨fun q => ?_, fun _ => sp_refM (Q := fun y h => Q (some (vi y)) h) s rf1 K⟩⟩)
    rw [show hI (rfC h (-1)) 10 0 4 = nI nK from C.k4] at q
    rw [cK] at z1
    exact absurd (ok.mpr ⟨le, q⟩).2 z1
  have z2 : ¬ x1 ≤ 0 ∧ x1 < mBit nK := by
    rw [cK] at z1
    exact ok.mp ⟨z0, z1⟩
  rcases Nat.eq_zero_or_pos nV with e | e
  · have nV0 : nI nV = 0 := by rw [e]; rfl
    have cV0 : hI h 2 3 1 = 0 := cV.trans nV0
    by_cases c2 : x2 ≤ -1
    case pos => exact mB.ref I rf4 (-4) (fun Q K => v_fn_view_0 (d := d + 2) _ _ _ _ C.1 ⟨fun z => absurd z z0, fun _ => ⟨fun _ => ⟨fun z => absurd cV0 z, fun _ => ⟨fun _ => sp_refC (Q := fun y h => Q (some (vi y)) h) C.1 rf4 K, fun z => absurd c2 z⟩⟩, fun z => absurd z1 z⟩⟩) (fun Q s K => v_fm_view_0 (d := d + 7) _ _ _ _ s (by rw [show hI (rfC h (-4)) 10 0 4 = nI nK from C.k4, show hI (rfC h (-4)) 10 0 5 = nI nV from C.k5]; exact ⟨fun z => absurd z z2.1, fun _ => ⟨fun _ => ⟨fun z => absurd nV0 z, fun _ => ⟨fun _ => sp_refM (Q := fun y h => Q (some (vi y)) h) s rf4 K, fun z => absurd (le_m1.mp c2) z⟩⟩, fun z => absurd z2.2 z⟩⟩))
    by_cases c3 : x3 < x2
    case pos => exact mB.ref I rf4 (-4) (fun Q K => v_fn_view_0 (d := d + 2) _ _ _ _ C.1 ⟨fun z => absurd z z0, fun _ => ⟨fun _ => ⟨fun z => absurd cV0 z, fun _ => ⟨fun z => absurd z c2, fun _ => ⟨fun _ => sp_refC (Q := fun y h => Q (some (vi y)) h) C.1 rf4 K, fun z => absurd c3 z⟩⟩⟩, fun z => absurd z1 z⟩⟩) (fun Q s K => v_fm_view_0 (d := d + 7) _ _ _ _ s (by rw [show hI (rfC h (-4)) 10 0 4 = nI nK from C.k4, show hI (rfC h (-4)) 10 0 5 = nI nV from C.k5]; exact ⟨fun z => absurd z z2.1, fun _ => ⟨fun _ => ⟨fun z => absurd nV0 z, fun _ => ⟨fun z => absurd z (fun y => c2 (le_m1.mpr y)), fun _ => ⟨fun _ => sp_refM (Q := fun y h => Q (some (vi y)) h) s rf4 K, fun z => absurd c3 z⟩⟩⟩, fun z => absurd z2.2 z⟩⟩))
    by_cases c4 : 0 ≤ x4
    case neg => exact mB.ref I rf4 (-4) (fun Q K => v_fn_view_0 (d := d + 2) _ _ _ _ C.1 ⟨fun z => absurd z z0, fun _ => ⟨fun _ => ⟨fun z => absurd cV0 z, fun _ => ⟨fun z => absurd z c2, fun _ => ⟨fun z => absurd z c3, fun _ => ⟨fun z => absurd z c4, fun _ => sp_refC (Q := fun y h => Q (some (vi y)) h) C.1 rf4 K⟩⟩⟩⟩, fun z => absurd z1 z⟩⟩) (fun Q s K => v_fm_view_0 (d := d + 7) _ _ _ _ s (by rw [show hI (rfC h (-4)) 10 0 4 = nI nK from C.k4, show hI (rfC h (-4)) 10 0 5 = nI nV from C.k5]; exact ⟨fun z => absurd z z2.1, fun _ => ⟨fun _ => ⟨fun z => absurd nV0 z, fun _ => ⟨fun z => absurd z (fun y => c2 (le_m1.mpr y)), fun _ => ⟨fun z => absurd z c3, fun _ => ⟨fun z => absurd z c4, fun _ => sp_refM (Q := fun y h => Q (some (vi y)) h) s rf4 K⟩⟩⟩⟩, fun z => absurd z2.2 z⟩⟩))
    by_cases c5 : 1440 < x3
    case pos => exact mB.ref I rf6 (-6) (fun Q K => v_fn_view_0 (d := d + 2) _ _ _ _ C.1 ⟨fun z => absurd z z0, fun _ => ⟨fun _ => ⟨fun z => absurd cV0 z, fun _ => ⟨fun z => absurd z c2, fun _ => ⟨fun z => absurd z c3, fun _ => ⟨fun _ => ⟨fun _ => sp_refC (Q := fun y h => Q (some (vi y)) h) C.1 rf6 K, fun z => absurd c5 z⟩, fun z => absurd c4 z⟩⟩⟩⟩, fun z => absurd z1 z⟩⟩) (fun Q s K => v_fm_view_0 (d := d + 7) _ _ _ _ s (by rw [show hI (rfC h (-6)) 10 0 4 = nI nK from C.k4, show hI (rfC h (-6)) 10 0 5 = nI nV from C.k5]; exact ⟨fun z => absurd z z2.1, fun _ => ⟨fun _ => ⟨fun z => absurd nV0 z, fun _ => ⟨fun z => absurd z (fun y => c2 (le_m1.mpr y)), fun _ => ⟨fun z => absurd z c3, fun _ => ⟨fun _ => ⟨fun _ => sp_refM (Q := fun y h => Q (some (vi y)) h) s rf6 K, fun z => absurd c5 z⟩, fun z => absurd c4 z⟩⟩⟩⟩, fun z => absurd z2.2 z⟩⟩))
    by_cases c6 : 500 < x4
    case pos => exact mB.ref I rf6 (-6) (fun Q K => v_fn_view_0 (d := d + 2) _ _ _ _ C.1 ⟨fun z => absurd z z0, fun _ => ⟨fun _ => ⟨fun z => absurd cV0 z, fun _ => ⟨fun z => absurd z c2, fun _ => ⟨fun z => absurd z c3, fun _ => ⟨fun _ => ⟨fun z => absurd z c5, fun _ => ⟨fun _ => sp_refC (Q := fun y h => Q (some (vi y)) h) C.1 rf6 K, fun z => absurd c6 z⟩⟩, fun z => absurd c4 z⟩⟩⟩⟩, fun z => absurd z1 z⟩⟩) (fun Q s K => v_fm_view_0 (d := d + 7) _ _ _ _ s (by rw [show hI (rfC h (-6)) 10 0 4 = nI nK from C.k4, show hI (rfC h (-6)) 10 0 5 = nI nV from C.k5]; exact ⟨fun z => absurd z z2.1, fun _ => ⟨fun _ => ⟨fun z => absurd nV0 z, fun _ => ⟨fun z => absurd z (fun y => c2 (le_m1.mpr y)), fun _ => ⟨fun z => absurd z c3, fun _ => ⟨fun _ => ⟨fun z => absurd z c5, fun _ => ⟨fun _ => sp_refM (Q := fun y h => Q (some (vi y)) h) s rf6 K, fun z => absurd c6 z⟩⟩, fun z => absurd c4 z⟩⟩⟩⟩, fun z => absurd z2.2 z⟩⟩))
    by_cases c9 : nV < 12
    case neg => exact mB.ref I rf6 (-6) (fun Q K => v_fn_view_0 (d := d + 2) _ _ _ _ C.1 ⟨fun z => absurd z z0, fun _ => ⟨fun _ => ⟨fun z => absurd cV0 z, fun _ => ⟨fun z => absurd z c2, fun _ => ⟨fun z => absurd z c3, fun _ => ⟨fun _ => ⟨fun z => absurd z c5, fun _ => ⟨fun z => absurd z c6, fun _ => ⟨fun z => absurd z (by rw [cV]; exact nnlt (a := nV) (b := 12) (by omega) (by omega)), fun _ => sp_refC (Q := fun y h => Q (some (vi y)) h) C.1 rf6 K⟩⟩⟩, fun z => absurd c4 z⟩⟩⟩⟩, fun z => absurd z1 z⟩⟩) (fun Q s K => v_fm_view_0 (d := d + 7) _ _ _ _ s (by rw [show hI (rfC h (-6)) 10 0 4 = nI nK from C.k4, show hI (rfC h (-6)) 10 0 5 = nI nV from C.k5]; exact ⟨fun z => absurd z z2.1, fun _ => ⟨fun _ => ⟨fun z => absurd nV0 z, fun _ => ⟨fun z => absurd z (fun y => c2 (le_m1.mpr y)), fun _ => ⟨fun z => absurd z c3, fun _ => ⟨fun _ => ⟨fun z => absurd z c5, fun _ => ⟨fun z => absurd z c6, fun _ => ⟨fun z => absurd (by rw [show nV = 12 by omega]; rfl) z, fun _ => sp_refM (Q := fun y h => Q (some (vi y)) h) s rf6 K⟩⟩⟩, fun z => absurd c4 z⟩⟩⟩⟩, fun z => absurd z2.2 z⟩⟩))
    have lo : (0 : Int32) ≤ x2 := Int32.not_lt.mp fun y => c2 (le_m1.mpr y)
    obtain ⟨q, _, q1, rfl⟩ := rng (lo := 0) (hi := 1440) (Int32.le_trans lo (Int32.not_lt.mp c3)) (Int32.not_lt.mp c5) (by omega) (by omega)
    obtain ⟨p, _, p1, rfl⟩ := rng (lo := 0) (hi := q) lo (Int32.not_lt.mp c3) (by omega) (by omega)
    obtain ⟨r, _, r1, rfl⟩ := rng (lo := 0) (hi := 500) c4 (Int32.not_lt.mp c6) (by omega) (by omega)
    refine mB.mkR (nI nV) (fun hC0 => adR (vwX h (hC h 9) x1 (nI p) (nI q) (nI r)) hC0 3 ∧ mSK hC0 ∧ mCl hC0 3 9 (nV + 1) (fun i => if i = nV then hC h 9 else vs i)) (fun hC0 hM => hM = vwM hC0 nV x1 (nI p) (nI q) (nI r)) (fun Q K => v_fn_view_0 (d := d + 2) _ _ _ _ C.1 ⟨fun z => absurd z z0, fun _ => ⟨fun _ => ⟨fun z => absurd cV0 z, fun _ => ⟨fun z => absurd z c2, fun _ => ⟨fun z => absurd z c3, fun _ => ⟨fun _ => ⟨fun z => absurd z c5, fun _ => ⟨fun z => absurd z c6, fun _ => ⟨fun _ => ?_, fun z => absurd (by rw [cV]; exact nlt (b := 12) c9 (by omega)) z⟩⟩⟩, fun z => absurd c4 z⟩⟩⟩⟩, fun z => absurd z1 z⟩⟩) (fun hC0 P => ⟨P.2.1, (P.1.2.2.2.2.1 14 0 (by decide)).trans (newC_L (h := h) (k := 9) (len := 0) (fun z => absurd z.1 (by decide))), fun f' => (P.1.1 14 0 f' (by decide) (by omega)).trans (vwX_I 14 0 f' (by omega))⟩) (fun hC0 P Q K => ?_) (fun hC0 hM P e => ⟨⟨nT, nJ, nK, nV + 1, (fun i => if i = nV then hC h 9 else vs i), by rw [e]; exact vw_new I c9 p1 q1 r1 z2.1 z2.2 (fun u hu => absurd hu (by omega)) P.1 P.2.1 P.2.2⟩, by rw [e]; exact ⟨rfl, fun _ => rfl⟩⟩)
    · rw [cV]
      exact sp_add (d := d + 2) (f' := fun i => if i = nV then hC h 9 else vs i) (vwX_S C.1) (vwX_L C.2.2.1).2.2.2.1 (by omega) (by omega) (by omega) (fun i hi => if_neg (by omega)) (if_pos rfl) fun h' R S L => ⟨_, rfl, S, K h' ⟨R, S, L⟩⟩
    · have A := fun k n f qq z y => (P.1.1 k n f qq z).trans (vwX_I (h := h) (x1 := x1) (x2 := nI p) (x3 := nI q) (x4 := nI r) k n f y)
      have e4 : hI hC0 10 0 4 = nI nK := (A 10 0 4 (by decide) (by omega) (by omega)).trans C.k4
      have e5 : hI hC0 10 0 5 = nI nV := (A 10 0 5 (by decide) (by omega) (by omega)).trans C.k5
      have s := P.2.1
      have hin : vp_in (nI nV) 12 := nin c9 (by omega)
      have cT : (nI nV).toNatClampNeg = nV := nc (by omega)
      refine v_fm_view_0 (d := d + 7) _ _ _ _ s ?_
      rw [e4, e5]
      refine ⟨fun z => absurd z z2.1, fun _ => ⟨fun _ => ⟨fun z => absurd nV0 z, fun _ => ⟨fun z => absurd z (fun y => c2 (le_m1.mpr y)), fun _ => ⟨fun z => absurd z c3, fun _ => ⟨fun _ => ⟨fun z => absurd z c5, fun _ => ⟨fun z => absurd z c6, fun _ => ⟨fun _ => ?_, fun z => absurd z (nne (b := 12) c9 (by omega))⟩⟩⟩, fun z => absurd c4 z⟩⟩⟩⟩, fun z => absurd z2.2 z⟩⟩
      rw [cT, nI_1, n_sub1, ← nI_1]
      exact ⟨hin, hin, hin, hin, K _ rfl⟩
  · obtain ⟨m, em⟩ : ∃ m, nV = m + 1 := ⟨nV - 1, by omega⟩
    have bm : m ≤ 1000000 := by omega
    have eV : nI nV - 1 = nI m := by rw [em, n_sub1]
    have ne0 : ¬ hI h 2 3 1 = 0 := by rw [cV]; exact fun z => nne (a := 0) (b := nV) (by omega) (by omega) z.symm
    have ne1 : ¬ nI nV = 0 := fun z => nne (a := 0) (b := nV) (by omega) (by omega) z.symm
    have gt : mGet h 3 (hI h 2 3 1 - 1) (some (9, vs m)) := by
      rw [cV, eV]
      exact C.2.2.1.2.2.2.1.get (by omega)
    have in1 : vp_in (nI nV - 1) 12 := by
      rw [eV]
      exact nin (by omega) (by omega)
    have Z := C.2.2.2.2.2.2.2.2.1 m (by omega)
    obtain ⟨k0, _, k1, k2, k3⟩ := Z.2.2.1
    have prev : ∀ y, hI h 9 (vs m) 2 < y → ∀ u, u < nV → hI h 11 26 u < y := by
      intro y hy u hu
      have e26 : hI h 11 26 m < y := by rw [k3, ← k2]; exact hy
      by_cases w : u = m
      · rw [w]; exact e26
      · exact Int32.lt_trans (Int32.lt_of_lt_of_le (Z.2.2.2.2.2.1 u (by omega)) Z.2.2.2.2.1) e26
    have le_k : x2 ≤ hI h 9 (vs m) 2 ↔ x2 < nI (k0 + 1) := by rw [k2]; exact le_nI (by omega)
    by_cases c2 : x2 ≤ hI h 9 (vs m) 2
    case pos => exact mB.ref I rf4 (-4) (fun Q K => v_fn_view_0 (d := d + 2) _ _ _ _ C.1 ⟨fun z => absurd z z0, fun _ => ⟨fun _ => ⟨fun _ => ⟨_, gt, ⟨fun _ => sp_refC (Q := fun y h => Q (some (vi y)) h) C.1 rf4 K, fun z => absurd c2 z⟩⟩, fun z => absurd z ne0⟩, fun z => absurd z1 z⟩⟩) (fun Q s K => v_fm_view_0 (d := d + 7) _ _ _ _ s (by rw [show hI (rfC h (-4)) 10 0 4 = nI nK from C.k4, show hI (rfC h (-4)) 10 0 5 = nI nV from C.k5]; exact ⟨fun z => absurd z z2.1, fun _ => ⟨fun _ => ⟨fun _ => ⟨in1, ⟨fun _ => sp_refM (Q := fun y h => Q (some (vi y)) h) s rf4 K, fun z => absurd (by rw [eV, nc bm, show hI (rfC h _) 11 26 m = nI k0 from k3, nI_1]; exact le_k.mp c2) z⟩⟩, fun z => absurd z ne1⟩, fun z => absurd z2.2 z⟩⟩))
    by_cases c3 : x3 < x2
    case pos => exact mB.ref I rf4 (-4) (fun Q K => v_fn_view_0 (d := d + 2) _ _ _ _ C.1 ⟨fun z => absurd z z0, fun _ => ⟨fun _ => ⟨fun _ => ⟨_, gt, ⟨fun z => absurd z c2, fun _ => ⟨fun _ => sp_refC (Q := fun y h => Q (some (vi y)) h) C.1 rf4 K, fun z => absurd c3 z⟩⟩⟩, fun z => absurd z ne0⟩, fun z => absurd z1 z⟩⟩) (fun Q s K => v_fm_view_0 (d := d + 7) _ _ _ _ s (by rw [show hI (rfC h (-4)) 10 0 4 = nI nK from C.k4, show hI (rfC h (-4)) 10 0 5 = nI nV from C.k5]; exact ⟨fun z => absurd z z2.1, fun _ => ⟨fun _ => ⟨fun _ => ⟨in1, ⟨fun z => absurd z (fun y => c2 (le_k.mpr (by rw [eV, nc bm, show hI (rfC h _) 11 26 m = nI k0 from k3, nI_1] at y; exact y))), fun _ => ⟨fun _ => sp_refM (Q := fun y h => Q (some (vi y)) h) s rf4 K, fun z => absurd c3 z⟩⟩⟩, fun z => absurd z ne1⟩, fun z => absurd z2.2 z⟩⟩))
    by_cases c4 : 0 ≤ x4
    case neg => exact mB.ref I rf4 (-4) (fun Q K => v_fn_view_0 (d := d + 2) _ _ _ _ C.1 ⟨fun z => absurd z z0, fun _ => ⟨fun _ => ⟨fun _ => ⟨_, gt, ⟨fun z => absurd z c2, fun _ => ⟨fun z => absurd z c3, fun _ => ⟨fun z => absurd z c4, fun _ => sp_refC (Q := fun y h => Q (some (vi y)) h) C.1 rf4 K⟩⟩⟩⟩, fun z => absurd z ne0⟩, fun z => absurd z1 z⟩⟩) (fun Q s K => v_fm_view_0 (d := d + 7) _ _ _ _ s (by rw [show hI (rfC h (-4)) 10 0 4 = nI nK from C.k4, show hI (rfC h (-4)) 10 0 5 = nI nV from C.k5]; exact ⟨fun z => absurd z z2.1, fun _ => ⟨fun _ => ⟨fun _ => ⟨in1, ⟨fun z => absurd z (fun y => c2 (le_k.mpr (by rw [eV, nc bm, show hI (rfC h _) 11 26 m = nI k0 from k3, nI_1] at y; exact y))), fun _ => ⟨fun z => absurd z c3, fun _ => ⟨fun z => absurd z c4, fun _ => sp_refM (Q := fun y h => Q (some (vi y)) h) s rf4 K⟩⟩⟩⟩, fun z => absurd z ne1⟩, fun z => absurd z2.2 z⟩⟩))
    by_cases c5 : 1440 < x3
    case pos => exact mB.ref I rf6 (-6) (fun Q K => v_fn_view_0 (d := d + 2) _ _ _ _ C.1 ⟨fun z => absurd z z0, fun _ => ⟨fun _ => ⟨fun _ => ⟨_, gt, ⟨fun z => absurd z c2, fun _ => ⟨fun z => absurd z c3, fun _ => ⟨fun _ => ⟨fun _ => sp_refC (Q := fun y h => Q (some (vi y)) h) C.1 rf6 K, fun z => absurd c5 z⟩, fun z => absurd c4 z⟩⟩⟩⟩, fun z => absurd z ne0⟩, fun z => absurd z1 z⟩⟩) (fun Q s K => v_fm_view_0 (d := d + 7) _ _ _ _ s (by rw [show hI (rfC h (-6)) 10 0 4 = nI nK from C.k4, show hI (rfC h (-6)) 10 0 5 = nI nV from C.k5]; exact ⟨fun z => absurd z z2.1, fun _ => ⟨fun _ => ⟨fun _ => ⟨in1, ⟨fun z => absurd z (fun y => c2 (le_k.mpr (by rw [eV, nc bm, show hI (rfC h _) 11 26 m = nI k0 from k3, nI_1] at y; exact y))), fun _ => ⟨fun z => absurd z c3, fun _ => ⟨fun _ => ⟨fun _ => sp_refM (Q := fun y h => Q (some (vi y)) h) s rf6 K, fun z => absurd c5 z⟩, fun z => absurd c4 z⟩⟩⟩⟩, fun z => absurd z ne1⟩, fun z => absurd z2.2 z⟩⟩))
    by_cases c6 : 500 < x4
    case pos => exact mB.ref I rf6 (-6) (fun Q K => v_fn_view_0 (d := d + 2) _ _ _ _ C.1 ⟨fun z => absurd z z0, fun _ => ⟨fun _ => ⟨fun _ => ⟨_, gt, ⟨fun z => absurd z c2, fun _ => ⟨fun z => absurd z c3, fun _ => ⟨fun _ => ⟨fun z => absurd z c5, fun _ => ⟨fun _ => sp_refC (Q := fun y h => Q (some (vi y)) h) C.1 rf6 K, fun z => absurd c6 z⟩⟩, fun z => absurd c4 z⟩⟩⟩⟩, fun z => absurd z ne0⟩, fun z => absurd z1 z⟩⟩) (fun Q s K => v_fm_view_0 (d := d + 7) _ _ _ _ s (by rw [show hI (rfC h (-6)) 10 0 4 = nI nK from C.k4, show hI (rfC h (-6)) 10 0 5 = nI nV from C.k5]; exact ⟨fun z => absurd z z2.1, fun _ => ⟨fun _ => ⟨fun _ => ⟨in1, ⟨fun z => absurd z (fun y => c2 (le_k.mpr (by rw [eV, nc bm, show hI (rfC h _) 11 26 m = nI k0 from k3, nI_1] at y; exact y))), fun _ => ⟨fun z => absurd z c3, fun _ => ⟨fun _ => ⟨fun z => absurd z c5, fun _ => ⟨fun _ => sp_refM (Q := fun y h => Q (some (vi y)) h) s rf6 K, fun z => absurd c6 z⟩⟩, fun z => absurd c4 z⟩⟩⟩⟩, fun z => absurd z ne1⟩, fun z => absurd z2.2 z⟩⟩))
    by_cases c9 : nV < 12
    case neg => exact mB.ref I rf6 (-6) (fun Q K => v_fn_view_0 (d := d + 2) _ _ _ _ C.1 ⟨fun z => absurd z z0, fun _ => ⟨fun _ => ⟨fun _ => ⟨_, gt, ⟨fun z => absurd z c2, fun _ => ⟨fun z => absurd z c3, fun _ => ⟨fun _ => ⟨fun z => absurd z c5, fun _ => ⟨fun z => absurd z c6, fun _ => ⟨fun z => absurd z (by rw [cV]; exact nnlt (a := nV) (b := 12) (by omega) (by omega)), fun _ => sp_refC (Q := fun y h => Q (some (vi y)) h) C.1 rf6 K⟩⟩⟩, fun z => absurd c4 z⟩⟩⟩⟩, fun z => absurd z ne0⟩, fun z => absurd z1 z⟩⟩) (fun Q s K => v_fm_view_0 (d := d + 7) _ _ _ _ s (by rw [show hI (rfC h (-6)) 10 0 4 = nI nK from C.k4, show hI (rfC h (-6)) 10 0 5 = nI nV from C.k5]; exact ⟨fun z => absurd z z2.1, fun _ => ⟨fun _ => ⟨fun _ => ⟨in1, ⟨fun z => absurd z (fun y => c2 (le_k.mpr (by rw [eV, nc bm, show hI (rfC h _) 11 26 m = nI k0 from k3, nI_1] at y; exact y))), fun _ => ⟨fun z => absurd z c3, fun _ => ⟨fun _ => ⟨fun z => absurd z c5, fun _ => ⟨fun z => absurd z c6, fun _ => ⟨fun z => absurd (by rw [show nV = 12 by omega]; rfl) z, fun _ => sp_refM (Q := fun y h => Q (some (vi y)) h) s rf6 K⟩⟩⟩, fun z => absurd c4 z⟩⟩⟩⟩, fun z => absurd z ne1⟩, fun z => absurd z2.2 z⟩⟩))
    have lo : (0 : Int32) ≤ x2 := Int32.not_lt.mp fun y => c2 (by rw [k2]; exact Int32.le_of_lt (Int32.lt_of_lt_of_le y (nle (a := 0) (Nat.zero_le _) (by omega))))
    obtain ⟨q, _, q1, rfl⟩ := rng (lo := 0) (hi := 1440) (Int32.le_trans lo (Int32.not_lt.mp c3)) (Int32.not_lt.mp c5) (by omega) (by omega)
    obtain ⟨p, _, p1, rfl⟩ := rng (lo := 0) (hi := q) lo (Int32.not_lt.mp c3) (by omega) (by omega)
    obtain ⟨r, _, r1, rfl⟩ := rng (lo := 0) (hi := 500) c4 (Int32.not_lt.mp c6) (by omega) (by omega)
    refine mB.mkR (nI nV) (fun hC0 => adR (vwX h (hC h 9) x1 (nI p) (nI q) (nI r)) hC0 3 ∧ mSK hC0 ∧ mCl hC0 3 9 (nV + 1) (fun i => if i = nV then hC h 9 else vs i)) (fun hC0 hM => hM = vwM hC0 nV x1 (nI p) (nI q) (nI r)) (fun Q K => v_fn_view_0 (d := d + 2) _ _ _ _ C.1 ⟨fun z => absurd z z0, fun _ => ⟨fun _ => ⟨fun _ => ⟨_, gt, ⟨fun z => absurd z c2, fun _ => ⟨fun z => absurd z c3, fun _ => ⟨fun _ => ⟨fun z => absurd z c5, fun _ => ⟨fun z => absurd z c6, fun _ => ⟨fun _ => ?_, fun z => absurd (by rw [cV]; exact nlt (b := 12) c9 (by omega)) z⟩⟩⟩, fun z => absurd c4 z⟩⟩⟩⟩, fun z => absurd z ne0⟩, fun z => absurd z1 z⟩⟩) (fun hC0 P => ⟨P.2.1, (P.1.2.2.2.2.1 14 0 (by decide)).trans (newC_L (h := h) (k := 9) (len := 0) (fun z => absurd z.1 (by decide))), fun f' => (P.1.1 14 0 f' (by decide) (by omega)).trans (vwX_I 14 0 f' (by omega))⟩) (fun hC0 P Q K => ?_) (fun hC0 hM P e => ⟨⟨nT, nJ, nK, nV + 1, (fun i => if i = nV then hC h 9 else vs i), by rw [e]; exact vw_new I c9 p1 q1 r1 z2.1 z2.2 (fun u hu => prev _ (Int32.not_le.mp c2) u hu) P.1 P.2.1 P.2.2⟩, by rw [e]; exact ⟨rfl, fun _ => rfl⟩⟩)
    · rw [cV]
      exact sp_add (d := d + 2) (f' := fun i => if i = nV then hC h 9 else vs i) (vwX_S C.1) (vwX_L C.2.2.1).2.2.2.1 (by omega) (by omega) (by omega) (fun i hi => if_neg (by omega)) (if_pos rfl) fun h' R S L => ⟨_, rfl, S, K h' ⟨R, S, L⟩⟩
    · have A := fun k n f qq z y => (P.1.1 k n f qq z).trans (vwX_I (h := h) (x1 := x1) (x2 := nI p) (x3 := nI q) (x4 := nI r) k n f y)
      have e4 : hI hC0 10 0 4 = nI nK := (A 10 0 4 (by decide) (by omega) (by omega)).trans C.k4
      have e5 : hI hC0 10 0 5 = nI nV := (A 10 0 5 (by decide) (by omega) (by omega)).trans C.k5
      have s := P.2.1
      have hin : vp_in (nI nV) 12 := nin c9 (by omega)
      have cT : (nI nV).toNatClampNeg = nV := nc (by omega)
      refine v_fm_view_0 (d := d + 7) _ _ _ _ s ?_
      rw [e4, e5]
      have e26 : hI hC0 11 26 m = nI k0 := (A 11 26 m (by decide) (by omega) (by omega)).trans k3
      refine ⟨fun z => absurd z z2.1, fun _ => ⟨fun _ => ⟨fun _ => ⟨in1, ⟨fun z => absurd z (fun y => c2 (le_k.mpr (by rw [eV, nc bm, e26, nI_1] at y; exact y))), fun _ => ⟨fun z => absurd z c3, fun _ => ⟨fun _ => ⟨fun z => absurd z c5, fun _ => ⟨fun z => absurd z c6, fun _ => ⟨fun _ => ?_, fun z => absurd z (nne (b := 12) c9 (by omega))⟩⟩⟩, fun z => absurd c4 z⟩⟩⟩⟩, fun z => absurd z ne1⟩, fun z => absurd z2.2 z⟩⟩
      rw [cT, nI_1, n_sub1, ← nI_1]
      exact ⟨hin, hin, hin, hin, K _ rfl⟩
theorem op_unview {g : mG} {d : Nat} (I : mI h nT nJ nK nV vs) : mB g me_fn_unview me_fm_unview (d + 9) 0 0 [some (vr 0 0), none] [some (vr 10 0)] h := by
  have C := I.1
  have bV := C.2.1.2.2.2
  have cV : hI h 2 3 1 = nI nV := C.2.2.1.2.2.2.1.1
  rcases Nat.eq_zero_or_pos nV with e | e
  · subst e
    exact mB.ref I rf3 (-3) (fun Q K => v_fn_unview_0 (d := d + 5) C.1 ⟨fun z => absurd cV z, fun _ => sp_refC (Q := fun y h => Q (some (vi y)) h) C.1 rf3 K⟩) (fun Q s K => v_fm_unview_0 (d := d + 7) s ⟨fun z => absurd (show hI (rfC h (-3)) 10 0 5 = 0 from C.k5) z, fun _ => sp_refM (Q := fun y h => Q (some (vi y)) h) s rf3 K⟩)
  · obtain ⟨m, rfl⟩ : ∃ m, nV = m + 1 := ⟨nV - 1, by omega⟩
    have ne1 : ¬ nI (m + 1) = 0 := fun z => nne (a := 0) (b := m + 1) (by omega) (by omega) z.symm
    obtain ⟨_, _, ⟨q0, _⟩ | ⟨ed, q1, q2, q3, q4⟩⟩ := C.2.2.1.2.2.2.1
    · omega
    have cm : (nI m).toNatClampNeg = m := nc (by omega)
    have AP : ∀ {x y : Int32} k n f', ¬ (k = 13 ∧ n = ed ∧ f' = m) → hP (setP (setI (setI h 2 3 2 x) 2 3 1 y) 13 ed m none) k n f' = hP h k n f' := fun k n f' z => if_neg z
    have S : ∀ {x y : Int32}, mSK (setP (setI (setI h 2 3 2 x) 2 3 1 y) 13 ed m none) := C.1.gen (fun k f r e => AP k 0 f fun z => (mst_no e).2.1 z.1) (fun _ _ _ _ => rfl) (fun k n f t r e p => Or.inl ((AP k n f fun z => (mkn_no e).2.1 z.1).symm.trans p))
    have dj : ∀ l, l < 3 → hP h 2 l 0 ≠ some (13, ed) := fun l hl z => C.2.2.1.2.2.2.2 l 3 ed ed (by omega) (by omega) z q1 (by omega) rfl
    refine mB.mk (nI m) (setP (setI (setI h 2 3 2 (hI h 2 3 2 + 1)) 2 3 1 (nI m)) 13 ed m none) (setI (setP (setI (setI h 2 3 2 (hI h 2 3 2 + 1)) 2 3 1 (nI m)) 13 ed m none) 10 0 5 (nI m)) (fun Q K => v_fn_unview_0 (d := d + 5) C.1 ⟨fun _ => ?_, fun z => absurd (cV.symm.trans z) ne1⟩) S ⟨rfl, fun _ => rfl⟩ (fun Q K => v_fm_unview_0 (d := d + 7) S ⟨fun _ => ?_, fun z => absurd (C.k5.symm.trans z) ne1⟩) (nT := nT) (nJ := nJ) (nK := nK) (nV := m) (vs := vs) ?_ ⟨rfl, fun _ => rfl⟩
    · rw [cV, n_sub1]
      refine v_al_remove_0_r (d := d + 5) 3 _ ed q1 ⟨fun z => absurd z (nnneg (by omega)), fun _ => ⟨fun _ => ?_, fun z => absurd (by rw [cV]; exact nlt (by omega) (by omega)) z⟩⟩
      rw [cV, n_sub1, cm]
      have hin : vp_in (nI m) (hL h 13 ed) := vp_in_iff.mpr ⟨by rw [nI_toInt (by omega)]; omega, by rw [nI_toInt (by omega)]; exact Int.ofNat_lt.mpr q3⟩
      exact ⟨hin, fun _ => ⟨hin, ⟨_, rfl, S, K⟩⟩, fun z => absurd (Int32.le_refl _) z⟩
    · have e5 : hI (setP (setI (setI h 2 3 2 (hI h 2 3 2 + 1)) 2 3 1 (nI m)) 13 ed m none) 10 0 5 = nI (m + 1) := C.k5
      rw [e5, n_sub1]
      exact K
    · have A : ∀ k n f', ¬ (k = 2 ∧ n = 3 ∧ (f' = 1 ∨ f' = 2)) → ¬ (k = 10 ∧ n = 0 ∧ f' = 5) → hI (setI (setP (setI (setI h 2 3 2 (hI h 2 3 2 + 1)) 2 3 1 (nI m)) 13 ed m none) 10 0 5 (nI m)) k n f' = hI h k n f' := fun k n f' z y => (hI_no y).trans ((hI_no fun u => z ⟨u.1, u.2.1, Or.inl u.2.2⟩).trans (hI_no fun u => z ⟨u.1, u.2.1, Or.inr u.2.2⟩))
      have P : ∀ k n f', ¬ (k = 13 ∧ n = ed ∧ f' = m) → hP (setI (setP (setI (setI h 2 3 2 (hI h 2 3 2 + 1)) 2 3 1 (nI m)) 13 ed m none) 10 0 5 (nI m)) k n f' = hP h k n f' := fun k n f' z => AP k n f' z
      have cl : ∀ l k n f, l < 3 → mCl h l k n f → mCl (setI (setP (setI (setI h 2 3 2 (hI h 2 3 2 + 1)) 2 3 1 (nI m)) 13 ed m none) 10 0 5 (nI m)) l k n f := by
        intro l k n f hl M
        unfold mCl at M ⊢
        rw [A 2 l 1 (by omega) (by omega), P 2 l 0 (by omega)]
        refine ⟨M.1, M.2.1, ?_⟩
        rcases M.2.2 with z | ⟨e, y1, y2, y3, y4⟩
        · exact Or.inl z
        · exact Or.inr ⟨e, y1, y2, y3, fun i hi => (P 13 e i fun z => dj l hl (by rw [y1, z.2.1])).trans (y4 i hi)⟩
      obtain ⟨C', F, ca⟩ := I
      refine ⟨⟨S.of rfl, ⟨C.2.1.1, C.2.1.2.1, C.2.1.2.2.1, by omega⟩, ⟨cl 0 6 nT id (by omega) C.2.2.1.1, cl 1 7 nJ id (by omega) C.2.2.1.2.1, cl 2 8 nK id (by omega) C.2.2.1.2.2.1, ⟨?_, by omega, Or.inr ⟨ed, (P 2 3 0 (by omega)).trans q1, q2, Nat.le_of_lt q3, fun i hi => (P 13 ed i (by omega)).trans (q4 i (by omega))⟩⟩, fun l l' e e' a b c' d' => ?_⟩, C.2.2.2.1, ⟨?_, ?_, ?_, ?_⟩, fun i hi => ?_, fun j hj => ?_, fun k hk => ?_, fun v hv => ?_, ?_, ⟨fun k hk => ?_, fun k q1 q2 => ?_⟩⟩, ⟨fun t ht => ?_, fun j hj => ?_, fun k hk => ?_, fun j hj => ?_⟩, ?_⟩
      · rfl
      · rw [P 2 l 0 (by omega)] at c'
        rw [P 2 l' 0 (by omega)] at d'
        exact C.2.2.1.2.2.2.2 l l' e e' a b c' d'
      · exact (A 10 0 2 (by omega) (by omega)).trans C.k2
      · exact (A 10 0 3 (by omega) (by omega)).trans C.k3
      · exact (A 10 0 4 (by omega) (by omega)).trans C.k4
      · exact hI_eq
      · exact (C.2.2.2.2.2.1 i hi).c (fun f' => A 6 i f' (by omega) (by omega)) (fun n _ _ => A 11 n i (by omega) (by omega))
      · exact (C.2.2.2.2.2.2.1 j hj).c (fun f' => P 7 j f' (by omega)) (fun f' => A 7 j f' (by omega) (by omega)) (fun n _ _ => A 11 n j (by omega) (by omega)) (A 12 0 j (by omega) (by omega)) (fun a' _ => ⟨A 11 15 a' (by omega) (by omega), A 12 0 a' (by omega) (by omega)⟩) (fun k _ => A 11 21 k (by omega) (by omega)) (Nat.le_refl _) (Nat.le_refl _)
      · exact (C.2.2.2.2.2.2.2.1 k hk).c (fun f' => A 8 k f' (by omega) (by omega)) (P 8 k 2 (by omega)) (fun n _ _ => A 11 n k (by omega) (by omega)) (A 12 1 k (by omega) (by omega)) (fun j _ _ => ⟨A 11 20 j (by omega) (by omega), P 7 j 9 (by omega)⟩) (Nat.le_refl _)
      · exact (C.2.2.2.2.2.2.2.2.1 v (by omega)).c rfl (fun f' => A 9 (vs v) f' (by omega) (by omega)) (fun n u _ _ _ => A 11 n u (by omega) (by omega)) (Nat.le_refl _) (Nat.le_refl _)
      · exact C.2.2.2.2.2.2.2.2.2.1.c (A 1 0 4 (by omega) (by omega)) (fun f' _ => A 10 0 f' (by omega) (by omega)) (A 0 0 6 (by omega) (by omega)) (A 5 0 1 (by omega) (by omega)) (fun n i _ => A 11 n i (by omega) (by omega))
      · rw [A 1 0 3 (by omega) (by omega), A 12 1 k (by omega) (by omega)]
        exact C.2.2.2.2.2.2.2.2.2.2.1 k hk
      · rw [A 1 0 3 (by omega) (by omega)]
        exact C.2.2.2.2.2.2.2.2.2.2.2 k q1 q2
      · rw [A 11 12 t (by omega) (by omega), A 11 13 t (by omega) (by omega)]
        exact F.1 t ht
      · rw [A 12 0 j (by omega) (by omega), A 11 19 j (by omega) (by omega)]
        exact F.2.1 j hj
      · rw [A 12 1 k (by omega) (by omega)]
        exact F.2.2.1 k hk
      · rw [A 7 j 7 (by omega) (by omega)]
        exact F.2.2.2 j hj
      · exact mCa.of C ca fun k n f' r' => A k n f' (fun z => by rw [z.1] at r'; exact absurd (show false = true from r') (by decide)) (fun z => by rw [z.1, z.2.2] at r'; exact absurd (show false = true from r') (by decide))
end CORE
