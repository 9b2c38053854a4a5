/-! what a call changes: frames of the parts of the core -/
theorem ile {a b : Int32} : a ≤ b ↔ a.toInt ≤ b.toInt := Int32.le_iff_toInt_le
theorem ilt {a b : Int32} : a < b ↔ a.toInt < b.toInt := Int32.lt_iff_toInt_lt
/-- a number between two bounds -/
theorem rng {x : Int32} {lo hi : Nat} (h1 : nI lo ≤ x) (h2 : x ≤ nI hi) (hb : lo ≤ hi) (hh : hi ≤ 1000000) : ∃ n, lo ≤ n ∧ n ≤ hi ∧ x = nI n := by
  rcases i_or x with q | ⟨n, n1, rfl⟩
  · have h3 : (0 : Int32) ≤ nI lo := nI_pos' (by omega)
    rw [ile] at h1 h3
    rw [ilt] at q
    omega
  · exact ⟨n, (nI_leI (by omega) n1).mp h1, (nI_leI n1 (by omega)).mp h2, rfl⟩
/-- sets of cells that stay -/
def sameOn (p : Nat → Nat → Nat → Bool) (h h' : mH) : Prop := ∀ k n f, p k n f = true → hI h' k n f = hI h k n f
theorem sameOn.rf {p : Nat → Nat → Nat → Bool} {h : mH} : sameOn p h h := fun _ _ _ _ => rfl
theorem sameOn.tr {p : Nat → Nat → Nat → Bool} {a b c : mH} (x : sameOn p a b) (y : sameOn p b c) : sameOn p a c := fun k n f r => (y k n f r).trans (x k n f r)
theorem sameOn.sI {p : Nat → Nat → Nat → Bool} {a h : mH} {k n f : Nat} {v : Int32} (x : sameOn p a h) (hn : p k n f = false) : sameOn p a (setI h k n f v) := fun k' n' f' r => (if_neg (fun z => by rw [z.1, z.2.1, z.2.2, hn] at r; cases r)).trans (x k' n' f' r)
theorem sameOn.sP {p : Nat → Nat → Nat → Bool} {a h : mH} {k n f : Nat} {v : Option (Nat × Nat)} (x : sameOn p a h) : sameOn p a (setP h k n f v) := x
theorem sameOn.nC {p : Nat → Nat → Nat → Bool} {a h : mH} {k l : Nat} (x : sameOn p a h) (hn : ∀ f, p k (hC h k) f = false) : sameOn p a (newC h k l) := fun k' n' f' r => (if_neg (fun z => by have e := hn f'; unfold hC at e; rw [z.1, z.2, e] at r; cases r)).trans (x k' n' f' r)
theorem sameOn.fI {p : Nat → Nat → Nat → Bool} {a h : mH} {k n m : Nat} {F : Nat → Int32} (x : sameOn p a h) (hn : ∀ f, p k n f = false) : sameOn p a (fillI h k n m F) := x.tr (fun k' n' f' r => if_neg (fun z => by rw [z.1, z.2.1, hn] at r; cases r))
theorem sameOn.fF {p : Nat → Nat → Nat → Bool} {a h : mH} {k f m : Nat} {F : Nat → Int32} (x : sameOn p a h) (hn : ∀ n, p k n f = false) : sameOn p a (fillF h k f m F) := x.tr (fun k' n' f' r => if_neg (fun z => by rw [z.1, z.2.1, hn] at r; cases r))
theorem sameOn.A {p : Nat → Nat → Nat → Bool} {h h' : mH} (R : sameA h h') (hp : ∀ k n f, p k n f = true → relA k n f = true) : sameOn p h h' := fun k n f r => R.2 k n f (hp k n f r)
/-- of a tank: what never changes -/
def pT (i k n f : Nat) : Bool := match k with
  | 6 => n == i && Nat.blt f 4
  | 11 => (n == 7 || n == 8 || n == 9) && f == i
  | _ => false
def pJ (nK j k n f : Nat) : Bool := match k with
  | 7 => n == j && (f == 0 || f == 3 || f == 4)
  | 11 => ((n == 14 || n == 16 || n == 18 || n == 20) && f == j) || (n == 15 && Nat.ble f j) || (n == 21 && Nat.blt f nK)
  | _ => false
def pK (nJ k0 k n f : Nat) : Bool := match k with
  | 8 => n == k0 && Nat.blt f 4
  | 11 => (n == 20 && Nat.blt f nJ) || ((n == 21 || n == 22) && f == k0)
  | _ => false
def pV (vs : Nat → Nat) (v k n f : Nat) : Bool := match k with
  | 9 => n == vs v
  | 11 => (n == 24 || n == 25 || n == 26 || n == 27) && Nat.ble f v
  | _ => false
def pS (k n f : Nat) : Bool := match k with
  | 0 => f == 6
  | 1 => f == 4
  | 5 => f == 1
  | 10 => f == 1 || f == 6 || f == 7
  | 11 => n == 5 || n == 6
  | _ => false
def pP (k n f : Nat) : Bool := match k with
  | 1 => f == 3
  | 12 => n == 1
  | _ => false
section CORE
variable {h h' hm : mH} {nT nJ nK nV nT' nJ' nK' : Nat} {vs : Nat → Nat}
theorem pT_6 {i f : Nat} (hf : Nat.blt f 4 = true) : pT i 6 i f = true := by unfold pT; simp only [beq_self_eq_true, hf, Bool.and_self]
theorem pT_11 {i n : Nat} (hf : (n == 7 || n == 8 || n == 9) = true) : pT i 11 n i = true := by unfold pT; simp only [beq_self_eq_true, hf, Bool.and_self]
theorem mTk.mk {i : Nat} (Z : mTk h i) (R : sameOn (pT i) h h') (e4 : hI h' 6 i 4 = hI h' 11 10 i) (e5 : hI h' 6 i 5 = hI h' 11 11 i) (e6 : hI h' 6 i 6 = hI h' 11 12 i) (e7 : hI h' 6 i 7 = hI h' 11 13 i)
    (bs : ∃ s : Nat, s ≤ 500 ∧ hI h' 11 10 i = nI s) (bw : ∀ a d : Nat, 1 ≤ a → 1 ≤ d → hI h 11 8 i = nI a → hI h 11 9 i = nI d → a ≤ 1000 → d ≤ 60 → ∃ w : Nat, hI h' 11 11 i = nI w ∧ w ≤ a * d) : mTk h' i := by
  obtain ⟨z0, ⟨z1, z2, z3, z4, z5, z6, z7⟩, f, a, d, s, w, y1, y2, y3, y4, y5, y6, y7, y8, y9, y10, y11, y12⟩ := Z
  obtain ⟨s', s1, s2⟩ := bs
  obtain ⟨w', w1, w2⟩ := bw a d y4 y7 y3 y6 y5 y8
  refine ⟨(R 6 i 0 (pT_6 rfl)).trans z0, ⟨?_, ?_, ?_, e4, e5, e6, e7⟩, f, a, d, s', w', ?_, y2, ?_, y4, y5, ?_, y7, y8, s2, s1, w1, w2⟩
  · rw [R 6 i 1 (pT_6 rfl), R 11 7 i (pT_11 rfl)]; exact z1
  · rw [R 6 i 2 (pT_6 rfl), R 11 8 i (pT_11 rfl)]; exact z2
  · rw [R 6 i 3 (pT_6 rfl), R 11 9 i (pT_11 rfl)]; exact z3
  · rw [R 11 7 i (pT_11 rfl)]; exact y1
  · rw [R 11 8 i (pT_11 rfl)]; exact y3
  · rw [R 11 9 i (pT_11 rfl)]; exact y6
/-- all of a tank as it was -/
def pTa (i k n f : Nat) : Bool := match k with
  | 6 => n == i && Nat.blt f 8
  | 11 => Nat.ble 7 n && Nat.ble n 13 && f == i
  | _ => false
theorem pTa_6 {i f : Nat} (hf : Nat.blt f 8 = true) : pTa i 6 i f = true := by unfold pTa; simp only [beq_self_eq_true, hf, Bool.and_self]
theorem pTa_11 {i n : Nat} (h1 : Nat.ble 7 n = true) (h2 : Nat.ble n 13 = true) : pTa i 11 n i = true := by unfold pTa; simp only [beq_self_eq_true, h1, h2, Bool.and_self]
theorem mTk.of {i : Nat} (Z : mTk h i) (R : sameOn (pTa i) h h') : mTk h' i := by
  unfold mTk
  rw [R 6 i 0 (pTa_6 rfl), R 6 i 1 (pTa_6 rfl), R 6 i 2 (pTa_6 rfl), R 6 i 3 (pTa_6 rfl), R 6 i 4 (pTa_6 rfl), R 6 i 5 (pTa_6 rfl), R 6 i 6 (pTa_6 rfl), R 6 i 7 (pTa_6 rfl), R 11 7 i (pTa_11 rfl rfl), R 11 8 i (pTa_11 rfl rfl), R 11 9 i (pTa_11 rfl rfl), R 11 10 i (pTa_11 rfl rfl), R 11 11 i (pTa_11 rfl rfl), R 11 12 i (pTa_11 rfl rfl), R 11 13 i (pTa_11 rfl rfl)]
  exact Z
theorem pJ_7 {nK j f : Nat} (hf : (f == 0 || f == 3 || f == 4) = true) : pJ nK j 7 j f = true := by unfold pJ; simp only [beq_self_eq_true, hf, Bool.and_self]
theorem pJ_11 {nK j n : Nat} (hf : (n == 14 || n == 16 || n == 18 || n == 20) = true) : pJ nK j 11 n j = true := by unfold pJ; simp only [beq_self_eq_true, hf, Bool.and_self, Bool.true_or]
theorem pJ_15 {nK j a : Nat} (ha : a ≤ j) : pJ nK j 11 15 a = true := by unfold pJ; simp [Nat.ble_eq.mpr ha]
theorem pJ_21 {nK j k : Nat} (hk : k < nK) : pJ nK j 11 21 k = true := by unfold pJ; simp [Nat.blt_eq.mpr hk]
theorem mJn.mk {j : Nat} (Z : mJn h nT nK j) (eP : ∀ f, hP h' 7 j f = hP h 7 j f) (R : sameOn (pJ nK j) h h') (hT : nT ≤ nT') (hK : nK ≤ nK') (b5 : mNb (hI h' 7 j 5) (hI h' 11 17 j) 1 9) (b6 : mNb (hI h' 7 j 6) (hI h' 11 19 j) 0 60)
    (b8 : hI h' 7 j 8 = hI h' 12 0 j ∧ (hI h' 12 0 j = 0 ∨ hI h' 12 0 j = 1)) (up : ∀ a, a < j → hI h 11 14 j = nI a → hI h' 12 0 a = 1 → hI h' 12 0 j = 1) : mJn h' nT' nK' j := by
  obtain ⟨z0, ⟨t, t1, t2, t3⟩, za, z3, z4, _, _, zt, _, zk⟩ := Z
  refine ⟨(R 7 j 0 (pJ_7 rfl)).trans z0, ⟨t, by omega, (eP 1).trans t2, (R 11 15 j (pJ_15 (Nat.le_refl _))).trans t3⟩, ?_, ?_, ?_, b5, b6, zt, b8, ?_⟩
  · rcases za with ⟨q1, q2⟩ | ⟨a, q0, q1, q2, q3, q4⟩
    · exact Or.inl ⟨(eP 2).trans q1, (R 11 14 j (pJ_11 rfl)).trans q2⟩
    · refine Or.inr ⟨a, q0, (eP 2).trans q1, (R 11 14 j (pJ_11 rfl)).trans q2, ?_, up a q0 q2⟩
      rw [R 11 15 j (pJ_15 (Nat.le_refl _)), R 11 15 a (pJ_15 (by omega))]
      exact q3
  · rw [R 7 j 3 (pJ_7 rfl), R 11 16 j (pJ_11 rfl)]; exact z3
  · rw [R 7 j 4 (pJ_7 rfl), R 11 18 j (pJ_11 rfl)]; exact z4
  · rcases zk with ⟨q1, q2⟩ | ⟨k, q0, q1, q2, q3⟩
    · exact Or.inl ⟨(eP 9).trans q1, (R 11 20 j (pJ_11 rfl)).trans q2⟩
    · exact Or.inr ⟨k, by omega, (eP 9).trans q1, (R 11 20 j (pJ_11 rfl)).trans q2, (R 11 21 k (pJ_21 q0)).trans q3⟩
theorem pK_8 {nJ k f : Nat} (hf : Nat.blt f 4 = true) : pK nJ k 8 k f = true := by unfold pK; simp only [beq_self_eq_true, hf, Bool.and_self]
theorem pK_11 {nJ k n : Nat} (hf : (n == 21 || n == 22) = true) : pK nJ k 11 n k = true := by unfold pK; simp only [beq_self_eq_true, hf, Bool.and_self, Bool.or_true]
theorem pK_20 {nJ k j : Nat} (hj : j < nJ) : pK nJ k 11 20 j = true := by unfold pK; simp [Nat.blt_eq.mpr hj]
theorem mJe.mk {k : Nat} (Z : mJe h nJ k) (e8 : hP h' 8 k 2 = hP h 8 k 2) (e7 : ∀ j, j < nJ → hP h' 7 j 9 = hP h 7 j 9) (R : sameOn (pK nJ k) h h') (hJ : nJ ≤ nJ') (b4 : hI h' 8 k 4 = hI h' 11 23 k ∧ (hI h' 11 23 k = -1 ∨ ∃ r : Nat, r ≤ 500 ∧ hI h' 11 23 k = nI r)) (bp : hI h' 12 1 k = 0 ∨ hI h' 12 1 k = 1) : mJe h' nJ' k := by
  obtain ⟨z0, z1, ⟨j, j1, j2, j3, j4, j5⟩, z3, _, _⟩ := Z
  refine ⟨(R 8 k 0 (pK_8 rfl)).trans z0, (R 8 k 1 (pK_8 rfl)).trans z1, ⟨j, by omega, e8.trans j2, (R 11 21 k (pK_11 rfl)).trans j3, (R 11 20 j (pK_20 j1)).trans j4, (e7 j j1).trans j5⟩, ?_, b4, bp⟩
  rw [R 8 k 3 (pK_8 rfl), R 11 22 k (pK_11 rfl)]
  exact z3
theorem pV_9 {v f : Nat} : pV vs v 9 (vs v) f = true := by unfold pV; simp only [beq_self_eq_true]
theorem pV_11 {v u n : Nat} (hf : (n == 24 || n == 25 || n == 26 || n == 27) = true) (hu : u ≤ v) : pV vs v 11 n u = true := by unfold pV; simp only [hf, Nat.ble_eq.mpr hu, Bool.and_self]
theorem mVw.mk {v : Nat} (Z : mVw h nK vs v) (R : sameOn (pV vs v) h h') (hc : hC h 9 ≤ hC h' 9) (hK : nK ≤ nK') : mVw h' nK' vs v := by
  unfold mVw at Z ⊢
  rw [R 9 (vs v) 0 pV_9, R 9 (vs v) 1 pV_9, R 9 (vs v) 2 pV_9, R 9 (vs v) 3 pV_9, R 11 24 v (pV_11 rfl (Nat.le_refl _)), R 11 25 v (pV_11 rfl (Nat.le_refl _)), R 11 26 v (pV_11 rfl (Nat.le_refl _)), R 11 27 v (pV_11 rfl (Nat.le_refl _))]
  obtain ⟨z1, z2, z3, z4, z5, z6, z7, z8, b, z9, z10⟩ := Z
  refine ⟨z1, z2, z3, z4, z5, fun u hu => ?_, by omega, z8, b, by omega, z10⟩
  rw [R 11 26 u (pV_11 rfl (by omega))]
  exact z6 u hu
theorem mSc.of (Z : mSc h) (R : sameOn pS h h') : mSc h' := by
  unfold mSc at Z ⊢
  rw [R 1 0 4 rfl, R 10 0 1 rfl, R 0 0 6 rfl, R 10 0 6 rfl, R 5 0 1 rfl, R 10 0 7 rfl]
  refine ⟨Z.1, Z.2.1, Z.2.2.1, fun i hi => ?_⟩
  rw [R 11 5 i rfl, R 11 6 i rfl]
  exact Z.2.2.2 i hi
theorem mPl.of (Z : mPl h nK) (R : sameOn pP h h') : mPl h' nK := by
  unfold mPl at Z ⊢
  rw [R 1 0 3 rfl]
  refine ⟨fun k hk => ?_, Z.2⟩
  rw [R 12 1 k rfl]
  exact Z.1 k hk
/-- the rest of the invariant, piece by piece -/
theorem mFr.mk (F : mFr h nT nJ nK) (f1 : ∀ t, nT ≤ t → hI h' 11 12 t = hI h 11 12 t ∧ hI h' 11 13 t = hI h 11 13 t) (f2 : ∀ j, nJ ≤ j → hI h' 12 0 j = hI h 12 0 j ∧ hI h' 11 19 j = hI h 11 19 j) (f3 : ∀ k, nK ≤ k → hI h' 12 1 k = hI h 12 1 k) (f4 : ∀ j, j < nJ → hI h' 7 j 7 = hI h 7 j 7) : mFr h' nT nJ nK := by
  obtain ⟨z1, z2, z3, z4⟩ := F
  refine ⟨fun t ht => ?_, fun j hj => ?_, fun k hk => ?_, fun j hj => ?_⟩
  · rw [(f1 t ht).1, (f1 t ht).2]; exact z1 t ht
  · rw [(f2 j hj).1, (f2 j hj).2]; exact z2 j hj
  · rw [f3 k hk]; exact z3 k hk
  · rw [f4 j hj]; exact z4 j hj
/-- what a look at the leaks looks at -/
def pC (k n f : Nat) : Bool := match k with
  | 10 => f == 7 || (Nat.ble 55 f && Nat.ble f 61)
  | 11 => n == 7 || n == 8 || n == 11 || (Nat.ble 14 n && Nat.ble n 18) || (Nat.ble 20 n && Nat.ble n 23)
  | 12 => Nat.ble n 1
  | _ => false
theorem mCa.of (C : mCore h nT nJ nK nV vs) (ca : mCa h nT nJ nK) (R : sameOn pC h hm) : mCa hm nT nJ nK := by
  have e : lkE hm nT nJ nK = lkE h nT nJ nK := by
    funext X
    exact lkE_congr C (Nat.le_refl _) (Nat.le_refl _) (fun j _ => ⟨R 12 0 j rfl, R 11 14 j rfl, R 11 15 j rfl, R 11 16 j rfl, R 11 17 j rfl, R 11 18 j rfl⟩) (fun X => nOw_same C (fun j _ => R 11 20 j rfl) (fun k _ => ⟨R 12 1 k rfl, R 11 22 k rfl⟩) X) (fun t _ => ⟨R 11 11 t rfl, R 11 7 t rfl, R 11 8 t rfl⟩) (fun k _ => ⟨R 11 23 k rfl, R 12 1 k rfl, R 11 21 k rfl⟩) (fun k q1 q2 => by omega) (R 10 0 7 rfl) X
  unfold mCa
  rw [R 10 0 55 rfl, R 10 0 56 rfl, R 10 0 57 rfl, R 10 0 58 rfl, R 10 0 59 rfl, R 10 0 60 rfl, R 10 0 61 rfl, e, lkN_congr (Nat.le_refl _) (fun k _ => R 11 23 k rfl) (fun k q1 q2 => by omega)]
  exact ca
/-- pace, tol -/
theorem op_pace {g : mG} {d : Nat} (I : mI h nT nJ nK nV vs) (x : Int32) : mB g me_fn_pace me_fm_pace (d + 9) 0 0 [some (vr 0 0), some (vi x), none] [some (vr 10 0), some (vi x), none, none] h := by
  have C := I.1
  by_cases c1 : (0 : Int32) ≤ x
  · by_cases c2 : x ≤ 30
    · obtain ⟨n, n0, n1, rfl⟩ := rng (lo := 0) (hi := 30) c1 c2 (by omega) (by omega)
      obtain ⟨w1, w2, w3, w4, w5, ct, cj, ck, cv, ⟨s1, ⟨m, m1, m2, m3, m4⟩, s3, s4⟩, pl⟩ := id C
      refine mB.mk (hI h 0 0 6) (setI h 0 0 6 (nI n)) (setI (setI h 0 0 6 (nI n)) 10 0 6 (nI n)) (fun Q K => v_fn_pace_0 (d := d + 7) _ C.1 ⟨fun _ => ⟨fun _ => K, fun q => absurd c2 q⟩, fun q => absurd c1 q⟩) (C.1.of rfl) ⟨rfl, fun _ => rfl⟩ (fun Q K => v_fm_pace_0 (d := d + 7) _ (C.1.of rfl) ⟨fun _ => ⟨fun _ => ?_, fun q => absurd c2 q⟩, fun q => absurd c1 q⟩) (mI.to I ⟨w1, w2, w3, w4, w5, ct, cj, ck, cv, ⟨s1, ⟨n, n0, n1, rfl, rfl⟩, s3, s4⟩, pl⟩ ((sameB.rf.sI rfl).sI rfl)) ⟨rfl, fun _ => rfl⟩
      have e : hI (setI h 0 0 6 (nI n)) 10 0 6 = hI h 0 0 6 := m4.trans m3.symm
      rw [e]
      exact K
    · exact mB.ref I rf6 (-6) (fun Q K => v_fn_pace_0 (d := d + 7) _ C.1 ⟨fun _ => ⟨fun q => absurd q c2, fun _ => sp_refC (Q := fun y h => Q (some (vi y)) h) C.1 rf6 K⟩, fun q => absurd c1 q⟩) (fun Q s K => v_fm_pace_0 (d := d + 7) _ s ⟨fun _ => ⟨fun q => absurd q c2, fun _ => sp_refM (Q := fun y h => Q (some (vi y)) h) s rf6 K⟩, fun q => absurd c1 q⟩)
  · exact mB.ref I rf4 (-4) (fun Q K => v_fn_pace_0 (d := d + 7) _ C.1 ⟨fun q => absurd q c1, fun _ => sp_refC (Q := fun y h => Q (some (vi y)) h) C.1 rf4 K⟩) (fun Q s K => v_fm_pace_0 (d := d + 7) _ s ⟨fun q => absurd q c1, fun _ => sp_refM (Q := fun y h => Q (some (vi y)) h) s rf4 K⟩)
theorem mI.ch (C : mCore h nT nJ nK nV vs) (F : mFr h nT nJ nK) (e : hI h 10 0 55 = 0) : mI h nT nJ nK nV vs := ⟨C, F, Or.inl e⟩
theorem op_tol {g : mG} {d : Nat} (I : mI h nT nJ nK nV vs) (x : Int32) : mB g me_fn_tol me_fm_tol (d + 9) 0 0 [some (vr 0 0), some (vi x), none] [some (vr 10 0), some (vi x), none, none] h := by
  have C := I.1
  by_cases c1 : (0 : Int32) ≤ x
  · by_cases c2 : x ≤ 50
    · obtain ⟨n, n0, n1, rfl⟩ := rng (lo := 0) (hi := 50) c1 c2 (by omega) (by omega)
      obtain ⟨w1, w2, w3, w4, w5, ct, cj, ck, cv, ⟨s1, s2, ⟨m, m1, m2, m3, m4⟩, s4⟩, pl⟩ := id C
      refine mB.mk (hI h 5 0 1) (setI h 5 0 1 (nI n)) (setI (setI (setI h 5 0 1 (nI n)) 10 0 7 (nI n)) 10 0 55 0) (fun Q K => v_fn_tol_0 (d := d + 7) _ C.1 ⟨fun _ => ⟨fun _ => K, fun q => absurd c2 q⟩, fun q => absurd c1 q⟩) (C.1.of rfl) ⟨rfl, fun _ => rfl⟩ (fun Q K => v_fm_tol_0 (d := d + 7) _ (C.1.of rfl) ⟨fun _ => ⟨fun _ => ?_, fun q => absurd c2 q⟩, fun q => absurd c1 q⟩) (mI.ch ⟨w1, w2, w3, w4, w5, ct, cj, ck, cv, ⟨s1, s2, ⟨n, n0, n1, rfl, rfl⟩, s4⟩, pl⟩ (I.2.1.mk (fun _ _ => ⟨rfl, rfl⟩) (fun _ _ => ⟨rfl, rfl⟩) (fun _ _ => rfl) (fun _ _ => rfl)) rfl) ⟨rfl, fun _ => rfl⟩
      have e : hI (setI h 5 0 1 (nI n)) 10 0 7 = hI h 5 0 1 := m4.trans m3.symm
      rw [e]
      exact K
    · exact mB.ref I rf6 (-6) (fun Q K => v_fn_tol_0 (d := d + 7) _ C.1 ⟨fun _ => ⟨fun q => absurd q c2, fun _ => sp_refC (Q := fun y h => Q (some (vi y)) h) C.1 rf6 K⟩, fun q => absurd c1 q⟩) (fun Q s K => v_fm_tol_0 (d := d + 7) _ s ⟨fun _ => ⟨fun q => absurd q c2, fun _ => sp_refM (Q := fun y h => Q (some (vi y)) h) s rf6 K⟩, fun q => absurd c1 q⟩)
  · exact mB.ref I rf4 (-4) (fun Q K => v_fn_tol_0 (d := d + 7) _ C.1 ⟨fun q => absurd q c1, fun _ => sp_refC (Q := fun y h => Q (some (vi y)) h) C.1 rf4 K⟩) (fun Q s K => v_fm_tol_0 (d := d + 7) _ s ⟨fun q => absurd q c1, fun _ => sp_refM (Q := fun y h => Q (some (vi y)) h) s rf4 K⟩)
end CORE
