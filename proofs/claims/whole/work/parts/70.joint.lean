/-! joint -/
def jnX (h : mH) (n t : Nat) (up : Option (Nat × Nat)) (x3 x4 x5 : Int32) : mH := setI (setI (setI (setP (setP (setI (newC h 7 0) 7 n 0 (nI n)) 7 n 1 (some (6, t))) 7 n 2 up) 7 n 3 x3) 7 n 5 x4) 7 n 4 x5
def jnM (h : mH) (n : Nat) (u v x3 x4 x5 : Int32) : mH := setI (setI (setI (setI (setI (setI (setI (setI h 11 14 n u) 11 15 n v) 11 16 n x3) 11 17 n x4) 11 18 n x5) 11 20 n (-9)) 10 0 3 (nI n + 1)) 10 0 55 0
section CORE
variable {h h' hC0 hM : mH} {nT nJ nK nV nT' nJ' nK' : Nat} {vs : Nat → Nat} {x3 x4 x5 : Int32} {up : Option (Nat × Nat)}
theorem jnX_I {n t : Nat} (e : hC h 7 = n) (k n' f : Nat) (q : ¬ (k = 7 ∧ n' = n)) : hI (jnX h n t up x3 x4 x5) k n' f = hI h k n' f := by
  unfold jnX
  exact (hI_no fun z => q ⟨z.1, z.2.1⟩).trans ((hI_no fun z => q ⟨z.1, z.2.1⟩).trans ((hI_no fun z => q ⟨z.1, z.2.1⟩).trans ((hI_no fun z => q ⟨z.1, z.2.1⟩).trans (congrFun (newC_I (fun z => q ⟨z.1, z.2.trans e⟩)) f))))
theorem jnX_P {n t : Nat} (e : hC h 7 = n) (k n' f : Nat) (q : ¬ (k = 7 ∧ n' = n)) : hP (jnX h n t up x3 x4 x5) k n' f = hP h k n' f := by
  unfold jnX
  exact (if_neg (fun z => q ⟨z.1, z.2.1⟩)).trans ((if_neg (fun z => q ⟨z.1, z.2.1⟩)).trans (congrFun (newC_P (fun z => q ⟨z.1, z.2.trans e⟩)) f))
theorem jnX_1 {n t : Nat} : hP (jnX h n t up x3 x4 x5) 7 n 1 = some (6, t) := (hP_nf (h := setP (setI (newC h 7 0) 7 n 0 (nI n)) 7 n 1 (some (6, t))) (by decide)).trans (hP_eq (h := setI (newC h 7 0) 7 n 0 (nI n)))
theorem jnX_2 {n t : Nat} : hP (jnX h n t up x3 x4 x5) 7 n 2 = up := hP_eq (h := setP (setI (newC h 7 0) 7 n 0 (nI n)) 7 n 1 (some (6, t)))
theorem jnX_n {n t f : Nat} (e : hC h 7 = n) (q1 : f ≠ 1) (q2 : f ≠ 2) : hP (jnX h n t up x3 x4 x5) 7 n f = none := (hP_nf (h := setP (setI (newC h 7 0) 7 n 0 (nI n)) 7 n 1 (some (6, t))) q2).trans ((hP_nf (h := setI (newC h 7 0) 7 n 0 (nI n)) q1).trans (by
  have := newC_P0 h 7 0 f
  rw [e] at this
  exact this))
theorem jnX_S {n t : Nat} (e : hC h 7 = n) (hu : up = none ∨ ∃ a, up = some (7, a)) (S : mSK h) : mSK (jnX h n t up x3 x4 x5) := by
  refine S.gen (fun k f r z => jnX_P e k 0 f fun y => (mst_no z).2.2.2.1 y.1) (fun k n' l z => newC_L (h := h) fun y => (mln_no z).2.2.2.1 y.1) (fun k n' f t' r z p => ?_)
  by_cases q : k = 7 ∧ n' = n
  · obtain ⟨rfl, rfl⟩ := q
    by_cases q1 : f = 1
    · subst q1
      rw [jnX_1] at p
      cases p
      cases z
      exact Or.inr rfl
    · by_cases q2 : f = 2
      · subst q2
        rw [jnX_2] at p
        rcases hu with y | ⟨a, y⟩
        · rw [y] at p; cases p
        · rw [y] at p
          cases p
          cases z
          exact Or.inr rfl
      · rw [jnX_n e q1 q2] at p
        cases p
  · rw [jnX_P e k n' f q] at p
    exact Or.inl p
theorem jnX_L {t : Nat} (e : hC h 7 = nJ) (L : mLi h nT nJ nK nV vs) : mLi (jnX h nJ t up x3 x4 x5) nT nJ nK nV vs := mLi.nw L (fun l => jnX_I e 2 l 1 (by omega)) (fun l => jnX_P e 2 l 0 (by omega)) rfl (fun e' => newC_L (h := h) (k := 7) (len := 0) (k' := 13) (n' := e') (fun z => absurd z.1 (by decide))) (fun e' i => jnX_P e 13 e' i (by omega))
theorem jn_new {u14 : Int32} (I : mI h nT nJ nK nV vs) (hJ : nJ < 30) {t f s l : Nat} (ht : t < nT) (hu : (up = none ∧ u14 = -9) ∨ ∃ a, a < nJ ∧ up = some (7, a) ∧ u14 = nI a ∧ nI t = hI h 11 15 a ∧ hI h 12 0 a = 0) (h1 : f ≤ 500) (h2 : 1 ≤ s) (h3 : s ≤ 9) (h4 : 1 ≤ l) (h5 : l ≤ 200) (R : adR (jnX h nJ t up (nI f) (nI s) (nI l)) hC0 1) (S : mSK hC0) (L : mCl hC0 1 7 (nJ + 1) id) : mI (jnM hC0 nJ u14 (nI t) (nI f) (nI s) (nI l)) nT (nJ + 1) nK nV vs := by
  obtain ⟨C, F, ca⟩ := I
  have e7 : hC h 7 = nJ := C.2.2.2.1.2.1
  have A0 : ∀ k n f', k ≠ 13 → ¬ (k = 2 ∧ n = 1 ∧ (f' = 1 ∨ f' = 2)) → ¬ (k = 7 ∧ n = nJ) → hI hC0 k n f' = hI h k n f' := fun k n f' q z y => (R.1 k n f' q z).trans (jnX_I e7 k n f' y)
  have AP : ∀ k n f', k ≠ 13 → ¬ (k = 2 ∧ n = 1 ∧ f' = 0) → ¬ (k = 7 ∧ n = nJ) → hP hC0 k n f' = hP h k n f' := fun k n f' q z y => (R.2.1 k n f' q z).trans (jnX_P e7 k n f' y)
  have A : ∀ k n f', k ≠ 13 → ¬ (k = 2 ∧ n = 1 ∧ (f' = 1 ∨ f' = 2)) → ¬ (k = 7 ∧ n = nJ) → ¬ (k = 11 ∧ 14 ≤ n ∧ n ≤ 20 ∧ n ≠ 19 ∧ f' = nJ) → ¬ (k = 10 ∧ n = 0 ∧ f' = 3) → ¬ (k = 10 ∧ n = 0 ∧ f' = 55) → hI (jnM hC0 nJ u14 (nI t) (nI f) (nI s) (nI l)) k n f' = hI h k n f' := by
    intro k n f' q z y w u u2
    unfold jnM
    exact (hI_no u2).trans ((hI_no u).trans ((hI_no fun z => w ⟨z.1, by omega, by omega, by omega, z.2.2⟩).trans ((hI_no fun z => w ⟨z.1, by omega, by omega, by omega, z.2.2⟩).trans ((hI_no fun z => w ⟨z.1, by omega, by omega, by omega, z.2.2⟩).trans ((hI_no fun z => w ⟨z.1, by omega, by omega, by omega, z.2.2⟩).trans ((hI_no fun z => w ⟨z.1, by omega, by omega, by omega, z.2.2⟩).trans ((hI_no fun z => w ⟨z.1, by omega, by omega, by omega, z.2.2⟩).trans (A0 k n f' q z y))))))))
  obtain ⟨L0, _, L2, L3, LD⟩ := (jnX_L e7 C.2.2.1).ad (by omega) R
  have c7 : hC hC0 7 = nJ + 1 := (R.2.2.1 7 (by decide)).trans (show hC h 7 + 1 = nJ + 1 by rw [e7])
  have c8 : hC hC0 8 = nK := (R.2.2.1 8 (by decide)).trans C.2.2.2.1.2.2
  have c6 : hC hC0 6 = nT := (R.2.2.1 6 (by decide)).trans C.2.2.2.1.1
  have c9 : hC hC0 9 = hC h 9 := (R.2.2.1 9 (by decide)).trans rfl
  have D : mDj (jnM hC0 nJ u14 (nI t) (nI f) (nI s) (nI l)) := LD
  have b14 : hI (jnM hC0 nJ u14 (nI t) (nI f) (nI s) (nI l)) 11 14 nJ = u14 := (hI_nk (by decide)).trans ((hI_nk (by decide)).trans ((hI_nn (by decide)).trans ((hI_nn (by decide)).trans ((hI_nn (by decide)).trans ((hI_nn (by decide)).trans ((hI_nn (by decide)).trans hI_eq))))))
  have b15 : hI (jnM hC0 nJ u14 (nI t) (nI f) (nI s) (nI l)) 11 15 nJ = nI t := (hI_nk (by decide)).trans ((hI_nk (by decide)).trans ((hI_nn (by decide)).trans ((hI_nn (by decide)).trans ((hI_nn (by decide)).trans ((hI_nn (by decide)).trans hI_eq)))))
  have b16 : hI (jnM hC0 nJ u14 (nI t) (nI f) (nI s) (nI l)) 11 16 nJ = nI f := (hI_nk (by decide)).trans ((hI_nk (by decide)).trans ((hI_nn (by decide)).trans ((hI_nn (by decide)).trans ((hI_nn (by decide)).trans hI_eq))))
  have b17 : hI (jnM hC0 nJ u14 (nI t) (nI f) (nI s) (nI l)) 11 17 nJ = nI s := (hI_nk (by decide)).trans ((hI_nk (by decide)).trans ((hI_nn (by decide)).trans ((hI_nn (by decide)).trans hI_eq)))
  have b18 : hI (jnM hC0 nJ u14 (nI t) (nI f) (nI s) (nI l)) 11 18 nJ = nI l := (hI_nk (by decide)).trans ((hI_nk (by decide)).trans ((hI_nn (by decide)).trans hI_eq))
  have b20 : hI (jnM hC0 nJ u14 (nI t) (nI f) (nI s) (nI l)) 11 20 nJ = -9 := (hI_nk (by decide)).trans ((hI_nk (by decide)).trans hI_eq)
  have f0 := F.2.1 nJ (Nat.le_refl _)
  have b12 : hI (jnM hC0 nJ u14 (nI t) (nI f) (nI s) (nI l)) 12 0 nJ = 0 := (A 12 0 nJ (by omega) (by omega) (by omega) (by omega) (by omega) (by omega)).trans f0.1
  have b19 : hI (jnM hC0 nJ u14 (nI t) (nI f) (nI s) (nI l)) 11 19 nJ = 0 := (A 11 19 nJ (by omega) (by omega) (by omega) (by omega) (by omega) (by omega)).trans f0.2
  have n0 : ∀ f', hI (newC h 7 0) 7 nJ f' = 0 := fun f' => by
    have := newC_I0 h 7 0 f'
    rw [e7] at this
    exact this
  have cell : ∀ f', hI (jnM hC0 nJ u14 (nI t) (nI f) (nI s) (nI l)) 7 nJ f' = hI (jnX h nJ t up (nI f) (nI s) (nI l)) 7 nJ f' := fun f' => R.1 7 _ f' (by omega) (by omega)
  have x0 : ∀ f', f' ≠ 0 → f' ≠ 3 → f' ≠ 4 → f' ≠ 5 → hI (jnM hC0 nJ u14 (nI t) (nI f) (nI s) (nI l)) 7 nJ f' = 0 := fun f' z0 z3 z4 z5 => (cell f').trans ((hI_nf z4).trans ((hI_nf z5).trans ((hI_nf z3).trans ((hI_nf (h := newC h 7 0) z0).trans (n0 f')))))
  have y0 : hI (jnM hC0 nJ u14 (nI t) (nI f) (nI s) (nI l)) 7 nJ 0 = nI nJ := (cell 0).trans ((hI_nf (by decide)).trans ((hI_nf (by decide)).trans ((hI_nf (by decide)).trans (hI_eq (h := newC h 7 0)))))
  have y3 : hI (jnM hC0 nJ u14 (nI t) (nI f) (nI s) (nI l)) 7 nJ 3 = nI f := (cell 3).trans ((hI_nf (by decide)).trans ((hI_nf (by decide)).trans hI_eq))
  have y4 : hI (jnM hC0 nJ u14 (nI t) (nI f) (nI s) (nI l)) 7 nJ 4 = nI l := (cell 4).trans hI_eq
  have y5 : hI (jnM hC0 nJ u14 (nI t) (nI f) (nI s) (nI l)) 7 nJ 5 = nI s := (cell 5).trans ((hI_nf (by decide)).trans hI_eq)
  have p1 : hP (jnM hC0 nJ u14 (nI t) (nI f) (nI s) (nI l)) 7 nJ 1 = some (6, t) := (R.2.1 7 nJ 1 (by omega) (by omega)).trans jnX_1
  have p2 : hP (jnM hC0 nJ u14 (nI t) (nI f) (nI s) (nI l)) 7 nJ 2 = up := (R.2.1 7 nJ 2 (by omega) (by omega)).trans jnX_2
  have p9 : hP (jnM hC0 nJ u14 (nI t) (nI f) (nI s) (nI l)) 7 nJ 9 = none := (R.2.1 7 nJ 9 (by omega) (by omega)).trans (jnX_n e7 (by omega) (by omega))
  refine ⟨⟨S.of rfl, ⟨C.2.1.1, by omega, C.2.1.2.2.1, C.2.1.2.2.2⟩, ⟨(L0 (by decide)).of rfl rfl, L.of rfl rfl, (L2 (by decide)).of rfl rfl, (L3 (by decide)).of rfl rfl, D⟩, ⟨c6, c7, c8⟩, ⟨?_, ?_, ?_, ?_⟩, fun i hi => ?_, fun i hi => ?_, fun k hk => ?_, fun v hv => ?_, ?_, ⟨fun k hk => ?_, fun k q1 q2 => ?_⟩⟩, ⟨fun t ht => ?_, fun j hj => ?_, fun k hk => ?_, fun j hj => ?_⟩, Or.inl hI_eq⟩
  · exact (A 10 0 2 (by omega) (by omega) (by omega) (by omega) (by omega) (by omega)).trans C.k2
  · exact (hI_nf (by decide)).trans (hI_eq.trans (nI_1 _))
  · exact (A 10 0 4 (by omega) (by omega) (by omega) (by omega) (by omega) (by omega)).trans C.k4
  · exact (A 10 0 5 (by omega) (by omega) (by omega) (by omega) (by omega) (by omega)).trans C.k5
  · exact (C.2.2.2.2.2.1 i hi).c (fun f' => A 6 i f' (by omega) (by omega) (by omega) (by omega) (by omega) (by omega)) (fun n _ _ => A 11 n i (by omega) (by omega) (by omega) (by omega) (by omega) (by omega))
  · by_cases q : i = nJ
    · rw [q]
      unfold mJn
      rw [b14, b15, b16, b17, b18, b19, b20, b12, y0, y3, y4, y5, x0 6 (by decide) (by decide) (by decide) (by decide), x0 8 (by decide) (by decide) (by decide) (by decide), p1, p2, p9]
      refine ⟨rfl, ⟨t, ht, rfl, rfl⟩, ?_, ⟨f, by omega, h1, rfl, rfl⟩, ⟨l, h4, h5, rfl, rfl⟩, ⟨s, h2, h3, rfl, rfl⟩, ⟨0, by omega, by omega, rfl, rfl⟩, trivial, ⟨rfl, Or.inl rfl⟩, Or.inl ⟨rfl, rfl⟩⟩
      rcases hu with z | ⟨a, z1, z2, z3, z4, z5⟩
      · exact Or.inl z
      · refine Or.inr ⟨a, z1, z2, z3, ?_, fun y => ?_⟩
        · rw [A 11 15 a (by omega) (by omega) (by omega) (by omega) (by omega) (by omega)]; exact z4
        · rw [A 12 0 a (by omega) (by omega) (by omega) (by omega) (by omega) (by omega), z5] at y
          exact absurd y (by decide)
    · exact (C.2.2.2.2.2.2.1 i (by omega)).c (fun f' => AP 7 i f' (by omega) (by omega) (by omega)) (fun f' => A 7 i f' (by omega) (by omega) (by omega) (by omega) (by omega) (by omega)) (fun n _ _ => A 11 n i (by omega) (by omega) (by omega) (by omega) (by omega) (by omega)) (A 12 0 i (by omega) (by omega) (by omega) (by omega) (by omega) (by omega)) (fun a' _ => ⟨A 11 15 a' (by omega) (by omega) (by omega) (by omega) (by omega) (by omega), A 12 0 a' (by omega) (by omega) (by omega) (by omega) (by omega) (by omega)⟩) (fun k _ => A 11 21 k (by omega) (by omega) (by omega) (by omega) (by omega) (by omega)) (Nat.le_refl _) (Nat.le_refl _)
  · exact (C.2.2.2.2.2.2.2.1 k hk).c (fun f' => A 8 k f' (by omega) (by omega) (by omega) (by omega) (by omega) (by omega)) (AP 8 k 2 (by omega) (by omega) (by omega)) (fun n _ _ => A 11 n k (by omega) (by omega) (by omega) (by omega) (by omega) (by omega)) (A 12 1 k (by omega) (by omega) (by omega) (by omega) (by omega) (by omega)) (fun i _ e => ⟨A 11 20 i (by omega) (by omega) (by omega) (by omega) (by omega) (by omega), AP 7 i 9 (by omega) (by omega) (by omega)⟩) (by omega)
  · exact (C.2.2.2.2.2.2.2.2.1 v hv).c rfl (fun f' => A 9 (vs v) f' (by omega) (by omega) (by omega) (by omega) (by omega) (by omega)) (fun n u _ _ _ => A 11 n u (by omega) (by omega) (by omega) (by omega) (by omega) (by omega)) (by show hC h 9 ≤ hC hC0 9; omega) (Nat.le_refl _)
  · exact C.2.2.2.2.2.2.2.2.2.1.c (A 1 0 4 (by omega) (by omega) (by omega) (by omega) (by omega) (by omega)) (fun f' _ => A 10 0 f' (by omega) (by omega) (by omega) (by omega) (by omega) (by omega)) (A 0 0 6 (by omega) (by omega) (by omega) (by omega) (by omega) (by omega)) (A 5 0 1 (by omega) (by omega) (by omega) (by omega) (by omega) (by omega)) (fun n i _ => A 11 n i (by omega) (by omega) (by omega) (by omega) (by omega) (by omega))
  · rw [A 1 0 3 (by omega) (by omega) (by omega) (by omega) (by omega) (by omega), A 12 1 k (by omega) (by omega) (by omega) (by omega) (by omega) (by omega)]
    exact C.2.2.2.2.2.2.2.2.2.2.1 k hk
  · rw [A 1 0 3 (by omega) (by omega) (by omega) (by omega) (by omega) (by omega)]
    exact C.2.2.2.2.2.2.2.2.2.2.2 k q1 q2
  · rw [A 11 12 t (by omega) (by omega) (by omega) (by omega) (by omega) (by omega), A 11 13 t (by omega) (by omega) (by omega) (by omega) (by omega) (by omega)]
    exact F.1 t ht
  · rw [A 12 0 j (by omega) (by omega) (by omega) (by omega) (by omega) (by omega), A 11 19 j (by omega) (by omega) (by omega) (by omega) (by omega) (by omega)]
    exact F.2.1 j (by omega)
  · rw [A 12 1 k (by omega) (by omega) (by omega) (by omega) (by omega) (by omega)]
    exact F.2.2.1 k hk
  · by_cases q : j = nJ
    · rw [q]
      exact x0 7 (by decide) (by decide) (by decide) (by decide)
    · rw [A 7 j 7 (by omega) (by omega) (by omega) (by omega) (by omega) (by omega)]
      exact F.2.2.2 j (by omega)
theorem op_joint {g : mG} {d : Nat} (I : mI h nT nJ nK nV vs) (x1 x2 x3 x4 x5 : Int32) : mB g me_fn_joint me_fm_joint (d + 9) 2 88 [some (vr 0 0), some (vi x1), some (vi x2), some (vi x3), some (vi x4), some (vi x5), none, none, none] [some (vr 10 0), some (vi x1), some (vi x2), some (vi x3), some (vi x4), some (vi x5)] h := by
  have C := I.1
  have bT := C.2.1.1
  have bJ := C.2.1.2.1
  have e7 : hC h 7 = nJ := C.2.2.2.1.2.1
  have cJ : hI h 2 1 1 = nI nJ := C.2.2.1.2.1.1
  by_cases x0 : x1 = 0
  · subst x0
    rcases ix_cases x2 (n := nJ) (by omega) with hx | ⟨a, ha, rfl⟩
    · refine mB.ref I rf1 (-1) (fun Q K => v_fn_joint_0 (d := d + 2) _ _ _ _ _ C.1 ⟨fun _ => sp_jointNo (d := d + 4) C hx ⟨none, rfl, C.1, ⟨fun _ => ⟨fun _ => sp_refC (Q := fun y h => Q (some (vi y)) h) C.1 rf1 K, fun kq n3 z => (by cases z)⟩, fun z => absurd rfl z⟩⟩, fun z => absurd rfl z⟩) (fun Q s K => v_fm_joint_0 (d := d + 7) _ _ _ _ _ s ⟨fun _ => ?_, fun z => absurd rfl z⟩)
      rw [show hI (rfC h (-1)) 10 0 3 = nI nJ from C.k3]
      rcases hx with q | ⟨q1, q2⟩
      · exact ⟨fun _ => sp_refM (Q := fun y h => Q (some (vi y)) h) s rf1 K, fun z => absurd q z⟩
      · exact ⟨fun z => absurd z q1, fun _ => ⟨fun _ => sp_refM (Q := fun y h => Q (some (vi y)) h) s rf1 K, fun z => absurd q2 z⟩⟩
    have n0 : ¬ nI a < 0 := nnneg (by omega)
    have n1 : ¬ nI nJ ≤ nI a := nnle ha (by omega)
    have hin : vp_in (nI a) 30 := nin (by omega) (by omega)
    have ca : (nI a).toNatClampNeg = a := nc (by omega)
    have Z := C.2.2.2.2.2.2.1 a ha
    obtain ⟨t, ht, pt, ft⟩ := Z.2.1
    have e8 : hI h 7 a 8 = hI h 12 0 a := Z.2.2.2.2.2.2.2.2.1.1
    by_cases c1 : x3 < 0
    case pos => exact mB.ref I rf4 (-4) (fun Q K => v_fn_joint_0 (d := d + 2) _ _ _ _ _ C.1 ⟨fun _ => sp_joint (d := d + 4) C ha ⟨some (7, a), rfl, C.1, ⟨fun _ => ⟨fun z => (by cases z), fun kq n3 z => (by cases z; exact ⟨rfl, t, pt, ⟨fun _ => sp_refC (Q := fun y h => Q (some (vi y)) h) C.1 rf4 K, fun z => absurd c1 z⟩⟩)⟩, fun z => absurd rfl z⟩⟩, fun z => absurd rfl z⟩) (fun Q s K => v_fm_joint_0 (d := d + 7) _ _ _ _ _ s (by rw [show hI (rfC h (-4)) 10 0 3 = nI nJ from C.k3]; exact ⟨fun _ => ⟨fun z => absurd z n0, fun _ => ⟨fun z => absurd z n1, fun _ => ⟨fun _ => sp_refM (Q := fun y h => Q (some (vi y)) h) s rf4 K, fun z => absurd c1 z⟩⟩⟩, fun z => absurd rfl z⟩))
    by_cases c2 : x4 < 1
    case pos => exact mB.ref I rf4 (-4) (fun Q K => v_fn_joint_0 (d := d + 2) _ _ _ _ _ C.1 ⟨fun _ => sp_joint (d := d + 4) C ha ⟨some (7, a), rfl, C.1, ⟨fun _ => ⟨fun z => (by cases z), fun kq n3 z => (by cases z; exact ⟨rfl, t, pt, ⟨fun z => absurd z c1, fun _ => ⟨fun _ => sp_refC (Q := fun y h => Q (some (vi y)) h) C.1 rf4 K, fun z => absurd c2 z⟩⟩⟩)⟩, fun z => absurd rfl z⟩⟩, fun z => absurd rfl z⟩) (fun Q s K => v_fm_joint_0 (d := d + 7) _ _ _ _ _ s (by rw [show hI (rfC h (-4)) 10 0 3 = nI nJ from C.k3]; exact ⟨fun _ => ⟨fun z => absurd z n0, fun _ => ⟨fun z => absurd z n1, fun _ => ⟨fun z => absurd z c1, fun _ => ⟨fun _ => sp_refM (Q := fun y h => Q (some (vi y)) h) s rf4 K, fun z => absurd c2 z⟩⟩⟩⟩, fun z => absurd rfl z⟩))
    by_cases c3 : (1 : Int32) ≤ x5
    case neg => exact mB.ref I rf4 (-4) (fun Q K => v_fn_joint_0 (d := d + 2) _ _ _ _ _ C.1 ⟨fun _ => sp_joint (d := d + 4) C ha ⟨some (7, a), rfl, C.1, ⟨fun _ => ⟨fun z => (by cases z), fun kq n3 z => (by cases z; exact ⟨rfl, t, pt, ⟨fun z => absurd z c1, fun _ => ⟨fun z => absurd z c2, fun _ => ⟨fun z => absurd z c3, fun _ => sp_refC (Q := fun y h => Q (some (vi y)) h) C.1 rf4 K⟩⟩⟩⟩)⟩, fun z => absurd rfl z⟩⟩, fun z => absurd rfl z⟩) (fun Q s K => v_fm_joint_0 (d := d + 7) _ _ _ _ _ s (by rw [show hI (rfC h (-4)) 10 0 3 = nI nJ from C.k3]; exact ⟨fun _ => ⟨fun z => absurd z n0, fun _ => ⟨fun z => absurd z n1, fun _ => ⟨fun z => absurd z c1, fun _ => ⟨fun z => absurd z c2, fun _ => ⟨fun z => absurd z c3, fun _ => sp_refM (Q := fun y h => Q (some (vi y)) h) s rf4 K⟩⟩⟩⟩⟩, fun z => absurd rfl z⟩))
    by_cases c4 : 500 < x3
    case pos => exact mB.ref I rf6 (-6) (fun Q K => v_fn_joint_0 (d := d + 2) _ _ _ _ _ C.1 ⟨fun _ => sp_joint (d := d + 4) C ha ⟨some (7, a), rfl, C.1, ⟨fun _ => ⟨fun z => (by cases z), fun kq n3 z => (by cases z; exact ⟨rfl, t, pt, ⟨fun z => absurd z c1, fun _ => ⟨fun z => absurd z c2, fun _ => ⟨fun _ => ⟨fun _ => sp_refC (Q := fun y h => Q (some (vi y)) h) C.1 rf6 K, fun z => absurd c4 z⟩, fun z => absurd c3 z⟩⟩⟩⟩)⟩, fun z => absurd rfl z⟩⟩, fun z => absurd rfl z⟩) (fun Q s K => v_fm_joint_0 (d := d + 7) _ _ _ _ _ s (by rw [show hI (rfC h (-6)) 10 0 3 = nI nJ from C.k3]; exact ⟨fun _ => ⟨fun z => absurd z n0, fun _ => ⟨fun z => absurd z n1, fun _ => ⟨fun z => absurd z c1, fun _ => ⟨fun z => absurd z c2, fun _ => ⟨fun _ => ⟨fun _ => sp_refM (Q := fun y h => Q (some (vi y)) h) s rf6 K, fun z => absurd c4 z⟩, fun z => absurd c3 z⟩⟩⟩⟩⟩, fun z => absurd rfl z⟩))
    by_cases c5 : 9 < x4
    case pos => exact mB.ref I rf6 (-6) (fun Q K => v_fn_joint_0 (d := d + 2) _ _ _ _ _ C.1 ⟨fun _ => sp_joint (d := d + 4) C ha ⟨some (7, a), rfl, C.1, ⟨fun _ => ⟨fun z => (by cases z), fun kq n3 z => (by cases z; exact ⟨rfl, t, pt, ⟨fun z => absurd z c1, fun _ => ⟨fun z => absurd z c2, fun _ => ⟨fun _ => ⟨fun z => absurd z c4, fun _ => ⟨fun _ => sp_refC (Q := fun y h => Q (some (vi y)) h) C.1 rf6 K, fun z => absurd c5 z⟩⟩, fun z => absurd c3 z⟩⟩⟩⟩)⟩, fun z => absurd rfl z⟩⟩, fun z => absurd rfl z⟩) (fun Q s K => v_fm_joint_0 (d := d + 7) _ _ _ _ _ s (by rw [show hI (rfC h (-6)) 10 0 3 = nI nJ from C.k3]; exact ⟨fun _ => ⟨fun z => absurd z n0, fun _ => ⟨fun z => absurd z n1, fun _ => ⟨fun z => absurd z c1, fun _ => ⟨fun z => absurd z c2, fun _ => ⟨fun _ => ⟨fun z => absurd z c4, fun _ => ⟨fun _ => sp_refM (Q := fun y h => Q (some (vi y)) h) s rf6 K, fun z => absurd c5 z⟩⟩, fun z => absurd c3 z⟩⟩⟩⟩⟩, fun z => absurd rfl z⟩))
    by_cases c6 : 200 < x5
    case pos => exact mB.ref I rf6 (-6) (fun Q K => v_fn_joint_0 (d := d + 2) _ _ _ _ _ C.1 ⟨fun _ => sp_joint (d := d + 4) C ha ⟨some (7, a), rfl, C.1, ⟨fun _ => ⟨fun z => (by cases z), fun kq n3 z => (by cases z; exact ⟨rfl, t, pt, ⟨fun z => absurd z c1, fun _ => ⟨fun z => absurd z c2, fun _ => ⟨fun _ => ⟨fun z => absurd z c4, fun _ => ⟨fun z => absurd z c5, fun _ => ⟨fun _ => sp_refC (Q := fun y h => Q (some (vi y)) h) C.1 rf6 K, fun z => absurd c6 z⟩⟩⟩, fun z => absurd c3 z⟩⟩⟩⟩)⟩, fun z => absurd rfl z⟩⟩, fun z => absurd rfl z⟩) (fun Q s K => v_fm_joint_0 (d := d + 7) _ _ _ _ _ s (by rw [show hI (rfC h (-6)) 10 0 3 = nI nJ from C.k3]; exact ⟨fun _ => ⟨fun z => absurd z n0, fun _ => ⟨fun z => absurd z n1, fun _ => ⟨fun z => absurd z c1, fun _ => ⟨fun z => absurd z c2, fun _ => ⟨fun _ => ⟨fun z => absurd z c4, fun _ => ⟨fun z => absurd z c5, fun _ => ⟨fun _ => sp_refM (Q := fun y h => Q (some (vi y)) h) s rf6 K, fun z => absurd c6 z⟩⟩⟩, fun z => absurd c3 z⟩⟩⟩⟩⟩, fun z => absurd rfl z⟩))
    by_cases c9 : nJ < 30
    case neg => exact mB.ref I rf6 (-6) (fun Q K => v_fn_joint_0 (d := d + 2) _ _ _ _ _ C.1 ⟨fun _ => sp_joint (d := d + 4) C ha ⟨some (7, a), rfl, C.1, ⟨fun _ => ⟨fun z => (by cases z), fun kq n3 z => (by cases z; exact ⟨rfl, t, pt, ⟨fun z => absurd z c1, fun _ => ⟨fun z => absurd z c2, fun _ => ⟨fun _ => ⟨fun z => absurd z c4, fun _ => ⟨fun z => absurd z c5, fun _ => ⟨fun z => absurd z c6, fun _ => ⟨fun z => absurd z (by rw [cJ]; exact nnlt (a := nJ) (b := 30) (by omega) (by omega)), fun _ => sp_refC (Q := fun y h => Q (some (vi y)) h) C.1 rf6 K⟩⟩⟩⟩, fun z => absurd c3 z⟩⟩⟩⟩)⟩, fun z => absurd rfl z⟩⟩, fun z => absurd rfl z⟩) (fun Q s K => v_fm_joint_0 (d := d + 7) _ _ _ _ _ s (by rw [show hI (rfC h (-6)) 10 0 3 = nI nJ from C.k3]; exact ⟨fun _ => ⟨fun z => absurd z n0, fun _ => ⟨fun z => absurd z n1, fun _ => ⟨fun z => absurd z c1, fun _ => ⟨fun z => absurd z c2, fun _ => ⟨fun _ => ⟨fun z => absurd z c4, fun _ => ⟨fun z => absurd z c5, fun _ => ⟨fun z => absurd z c6, fun _ => ⟨fun z => absurd (by rw [show nJ = 30 by omega]; rfl) z, fun _ => sp_refM (Q := fun y h => Q (some (vi y)) h) s rf6 K⟩⟩⟩⟩, fun z => absurd c3 z⟩⟩⟩⟩⟩, fun z => absurd rfl z⟩))
    by_cases c10 : hI h 7 a 8 = 0
    case neg => exact mB.ref I rf3 (-3) (fun Q K => v_fn_joint_0 (d := d + 2) _ _ _ _ _ C.1 ⟨fun _ => sp_joint (d := d + 4) C ha ⟨some (7, a), rfl, C.1, ⟨fun _ => ⟨fun z => (by cases z), fun kq n3 z => (by cases z; exact ⟨rfl, t, pt, ⟨fun z => absurd z c1, fun _ => ⟨fun z => absurd z c2, fun _ => ⟨fun _ => ⟨fun z => absurd z c4, fun _ => ⟨fun z => absurd z c5, fun _ => ⟨fun z => absurd z c6, fun _ => ⟨fun _ => ⟨fun z => absurd z c10, fun _ => sp_refC (Q := fun y h => Q (some (vi y)) h) C.1 rf3 K⟩, fun z => absurd (by rw [cJ]; exact nlt (b := 30) c9 (by omega)) z⟩⟩⟩⟩, fun z => absurd c3 z⟩⟩⟩⟩)⟩, fun z => absurd rfl z⟩⟩, fun z => absurd rfl z⟩) (fun Q s K => v_fm_joint_0 (d := d + 7) _ _ _ _ _ s (by rw [show hI (rfC h (-3)) 10 0 3 = nI nJ from C.k3, ca, show hI (rfC h (-3)) 12 0 a = hI h 12 0 a from rfl]; exact ⟨fun _ => ⟨fun z => absurd z n0, fun _ => ⟨fun z => absurd z n1, fun _ => ⟨fun z => absurd z c1, fun _ => ⟨fun z => absurd z c2, fun _ => ⟨fun _ => ⟨fun z => absurd z c4, fun _ => ⟨fun z => absurd z c5, fun _ => ⟨fun z => absurd z c6, fun _ => ⟨fun _ => ⟨fun z => absurd rfl z, fun _ => ⟨hin, fun z => absurd (e8.trans z) c10, fun _ => sp_refM (Q := fun y h => Q (some (vi y)) h) s rf3 K⟩⟩, fun z => absurd z (nne (b := 30) c9 (by omega))⟩⟩⟩⟩, fun z => absurd c3 z⟩⟩⟩⟩⟩, fun z => absurd rfl z⟩))
    obtain ⟨f, _, h1, rfl⟩ := rng (lo := 0) (hi := 500) (Int32.not_lt.mp c1) (Int32.not_lt.mp c4) (by omega) (by omega)
    obtain ⟨sz, h2, h3, rfl⟩ := rng (lo := 1) (hi := 9) (Int32.not_lt.mp c2) (Int32.not_lt.mp c5) (by omega) (by omega)
    obtain ⟨l, h4, h5, rfl⟩ := rng (lo := 1) (hi := 200) c3 (Int32.not_lt.mp c6) (by omega) (by omega)
    have hu : ((some (7, a) : Option (Nat × Nat)) = none ∧ (nI a : Int32) = -9) ∨ ∃ b, b < nJ ∧ (some (7, a) : Option (Nat × Nat)) = some (7, b) ∧ (nI a : Int32) = nI b ∧ nI t = hI h 11 15 b ∧ hI h 12 0 b = 0 := Or.inr ⟨a, ha, rfl, rfl, ft.symm, e8.symm.trans c10⟩
    refine mB.mkR (nI nJ) (fun hC0 => adR (jnX h nJ t (some (7, a)) (nI f) (nI sz) (nI l)) hC0 1 ∧ mSK hC0 ∧ mCl hC0 1 7 (nJ + 1) id) (fun hC0 hM => hM = jnM hC0 nJ (nI a) (nI t) (nI f) (nI sz) (nI l)) (fun Q K => ?_) (fun hC0 P => ⟨P.2.1, (P.1.2.2.2.2.1 14 0 (by decide)).trans (newC_L (h := h) (k := 7) (len := 0) (k' := 14) (n' := 0) (fun z => absurd z.1 (by decide))), fun f' => (P.1.1 14 0 f' (by decide) (by omega)).trans (jnX_I e7 14 0 f' (by omega))⟩) (fun hC0 P Q K => ?_) (fun hC0 hM P e => ⟨⟨nT, nJ + 1, nK, nV, vs, ?_⟩, by rw [e]; exact ⟨rfl, fun _ => rfl⟩⟩)
    · have go : mT g me_al_add (d + 2 + 6) 1 74 0 [some (vr 2 1), some (vr 7 (hC h 7))] [] (setI (setI (setI (setP (setP (setI (newC h 7 0) 7 (hC h 7) 0 (hI h 2 1 1)) 7 (hC h 7) 1 (some (6, t))) 7 (hC h 7) 2 (some (7, a))) 7 (hC h 7) 3 (nI f)) 7 (hC h 7) 5 (nI sz)) 7 (hC h 7) 4 (nI l)) (fun v h18 => ∃ y19, v = some (vi y19) ∧ mSK h18 ∧ Q (some (vi (hI h 2 1 1))) h18) := by
        rw [e7, cJ]
        exact sp_add (d := d + 2) (jnX_S e7 (hu.elim (fun z => Or.inl z.1) (fun ⟨a, z⟩ => Or.inr ⟨a, z.2.1⟩)) C.1) (jnX_L e7 C.2.2.1).2.1 (by omega) (by omega) (by omega) (fun _ _ => rfl) rfl fun h' R S L => ⟨_, rfl, S, K h' ⟨R, S, L⟩⟩
      exact v_fn_joint_0 (d := d + 2) _ _ _ _ _ C.1 ⟨fun _ => sp_joint (d := d + 4) C ha ⟨some (7, a), rfl, C.1, ⟨fun _ => ⟨fun z => (by cases z), fun kq n3 z => (by cases z; exact ⟨rfl, t, pt, ⟨fun z => absurd z c1, fun _ => ⟨fun z => absurd z c2, fun _ => ⟨fun _ => ⟨fun z => absurd z c4, fun _ => ⟨fun z => absurd z c5, fun _ => ⟨fun z => absurd z c6, fun _ => ⟨fun _ => ⟨fun _ => go, fun z => absurd c10 z⟩, fun z => absurd (by rw [cJ]; exact nlt (b := 30) c9 (by omega)) z⟩⟩⟩⟩, fun z => absurd c3 z⟩⟩⟩⟩)⟩, fun z => absurd rfl z⟩⟩, fun z => absurd rfl z⟩
    · have A := fun k n f' qq z y => (P.1.1 k n f' qq z).trans (jnX_I (h := h) (x3 := nI f) (x4 := nI sz) (x5 := nI l) (t := t) (up := some (7, a)) e7 k n f' y)
      have s := P.2.1
      have e2 : hI hC0 10 0 2 = nI nT := (A 10 0 2 (by decide) (by omega) (by omega)).trans C.k2
      have e3 : hI hC0 10 0 3 = nI nJ := (A 10 0 3 (by decide) (by omega) (by omega)).trans C.k3
      have hj : vp_in (nI nJ) 30 := nin c9 (by omega)
      have e15 : hI hC0 11 15 a = nI t := (A 11 15 a (by decide) (by omega) (by omega)).trans ft
      have e12 : hI hC0 12 0 a = hI h 12 0 a := A 12 0 a (by decide) (by omega) (by omega)
      have cT : (nI nJ).toNatClampNeg = nJ := nc (by omega)
      refine v_fm_joint_0 (d := d + 7) _ _ _ _ _ s ?_
      rw [e2, e3, ca, e15, e12, cT, nI_1, n_sub1, ← nI_1]
      exact ⟨fun _ => ⟨fun z => absurd z n0, fun _ => ⟨fun z => absurd z n1, fun _ => ⟨fun z => absurd z c1, fun _ => ⟨fun z => absurd z c2, fun _ => ⟨fun _ => ⟨fun z => absurd z c4, fun _ => ⟨fun z => absurd z c5, fun _ => ⟨fun z => absurd z c6, fun _ => ⟨fun _ => ⟨fun z => absurd rfl z, fun _ => ⟨hin, fun _ => ⟨fun _ => ⟨hj, fun _ => ⟨hin, hj, hj, hj, hj, hj, K _ rfl⟩, fun z => absurd rfl z⟩, fun z => absurd rfl z⟩, fun z => absurd (e8.symm.trans c10) z⟩⟩, fun z => absurd z (nne (b := 30) c9 (by omega))⟩⟩⟩⟩, fun z => absurd c3 z⟩⟩⟩⟩⟩, fun z => absurd rfl z⟩
    · rw [e]
      exact jn_new I c9 ht hu h1 h2 h3 h4 h5 P.1 P.2.1 P.2.2

  · rcases ix_cases x2 (n := nT) (by omega) with hx | ⟨t, ht, rfl⟩
    · refine mB.ref I rf1 (-1) (fun Q K => v_fn_joint_0 (d := d + 2) _ _ _ _ _ C.1 ⟨fun z => absurd z x0, fun _ => ⟨fun z => absurd z x0, fun _ => sp_tankNo (d := d + 4) C hx ⟨none, rfl, C.1, ⟨fun _ => sp_refC (Q := fun y h => Q (some (vi y)) h) C.1 rf1 K, fun kq n3 z => (by cases z)⟩⟩⟩⟩) (fun Q s K => v_fm_joint_0 (d := d + 7) _ _ _ _ _ s ⟨fun z => absurd z x0, fun _ => ?_⟩)
      rw [show hI (rfC h (-1)) 10 0 2 = nI nT from C.k2]
      rcases hx with q | ⟨q1, q2⟩
      · exact ⟨fun _ => sp_refM (Q := fun y h => Q (some (vi y)) h) s rf1 K, fun z => absurd q z⟩
      · exact ⟨fun z => absurd z q1, fun _ => ⟨fun _ => sp_refM (Q := fun y h => Q (some (vi y)) h) s rf1 K, fun z => absurd q2 z⟩⟩
    have n0 : ¬ nI t < 0 := nnneg (by omega)
    have n1 : ¬ nI nT ≤ nI t := nnle ht (by omega)
    by_cases c1 : x3 < 0
    case pos => exact mB.ref I rf4 (-4) (fun Q K => v_fn_joint_0 (d := d + 2) _ _ _ _ _ C.1 ⟨fun z => absurd z x0, fun _ => ⟨fun z => absurd z x0, fun _ => sp_tank (d := d + 4) C ht ⟨some (6, t), rfl, C.1, ⟨fun z => (by cases z), fun kq n3 z => (by cases z; exact ⟨rfl, ⟨fun _ => sp_refC (Q := fun y h => Q (some (vi y)) h) C.1 rf4 K, fun z => absurd c1 z⟩⟩)⟩⟩⟩⟩) (fun Q s K => v_fm_joint_0 (d := d + 7) _ _ _ _ _ s (by rw [show hI (rfC h (-4)) 10 0 3 = nI nJ from C.k3, show hI (rfC h (-4)) 10 0 2 = nI nT from C.k2]; exact ⟨fun z => absurd z x0, fun _ => ⟨fun z => absurd z n0, fun _ => ⟨fun z => absurd z n1, fun _ => ⟨fun _ => sp_refM (Q := fun y h => Q (some (vi y)) h) s rf4 K, fun z => absurd c1 z⟩⟩⟩⟩))
    by_cases c2 : x4 < 1
    case pos => exact mB.ref I rf4 (-4) (fun Q K => v_fn_joint_0 (d := d + 2) _ _ _ _ _ C.1 ⟨fun z => absurd z x0, fun _ => ⟨fun z => absurd z x0, fun _ => sp_tank (d := d + 4) C ht ⟨some (6, t), rfl, C.1, ⟨fun z => (by cases z), fun kq n3 z => (by cases z; exact ⟨rfl, ⟨fun z => absurd z c1, fun _ => ⟨fun _ => sp_refC (Q := fun y h => Q (some (vi y)) h) C.1 rf4 K, fun z => absurd c2 z⟩⟩⟩)⟩⟩⟩⟩) (fun Q s K => v_fm_joint_0 (d := d + 7) _ _ _ _ _ s (by rw [show hI (rfC h (-4)) 10 0 3 = nI nJ from C.k3, show hI (rfC h (-4)) 10 0 2 = nI nT from C.k2]; exact ⟨fun z => absurd z x0, fun _ => ⟨fun z => absurd z n0, fun _ => ⟨fun z => absurd z n1, fun _ => ⟨fun z => absurd z c1, fun _ => ⟨fun _ => sp_refM (Q := fun y h => Q (some (vi y)) h) s rf4 K, fun z => absurd c2 z⟩⟩⟩⟩⟩))
    by_cases c3 : (1 : Int32) ≤ x5
    case neg => exact mB.ref I rf4 (-4) (fun Q K => v_fn_joint_0 (d := d + 2) _ _ _ _ _ C.1 ⟨fun z => absurd z x0, fun _ => ⟨fun z => absurd z x0, fun _ => sp_tank (d := d + 4) C ht ⟨some (6, t), rfl, C.1, ⟨fun z => (by cases z), fun kq n3 z => (by cases z; exact ⟨rfl, ⟨fun z => absurd z c1, fun _ => ⟨fun z => absurd z c2, fun _ => ⟨fun z => absurd z c3, fun _ => sp_refC (Q := fun y h => Q (some (vi y)) h) C.1 rf4 K⟩⟩⟩⟩)⟩⟩⟩⟩) (fun Q s K => v_fm_joint_0 (d := d + 7) _ _ _ _ _ s (by rw [show hI (rfC h (-4)) 10 0 3 = nI nJ from C.k3, show hI (rfC h (-4)) 10 0 2 = nI nT from C.k2]; exact ⟨fun z => absurd z x0, fun _ => ⟨fun z => absurd z n0, fun _ => ⟨fun z => absurd z n1, fun _ => ⟨fun z => absurd z c1, fun _ => ⟨fun z => absurd z c2, fun _ => ⟨fun z => absurd z c3, fun _ => sp_refM (Q := fun y h => Q (some (vi y)) h) s rf4 K⟩⟩⟩⟩⟩⟩))
    by_cases c4 : 500 < x3
    case pos => exact mB.ref I rf6 (-6) (fun Q K => v_fn_joint_0 (d := d + 2) _ _ _ _ _ C.1 ⟨fun z => absurd z x0, fun _ => ⟨fun z => absurd z x0, fun _ => sp_tank (d := d + 4) C ht ⟨some (6, t), rfl, C.1, ⟨fun z => (by cases z), fun kq n3 z => (by cases z; exact ⟨rfl, ⟨fun z => absurd z c1, fun _ => ⟨fun z => absurd z c2, fun _ => ⟨fun _ => ⟨fun _ => sp_refC (Q := fun y h => Q (some (vi y)) h) C.1 rf6 K, fun z => absurd c4 z⟩, fun z => absurd c3 z⟩⟩⟩⟩)⟩⟩⟩⟩) (fun Q s K => v_fm_joint_0 (d := d + 7) _ _ _ _ _ s (by rw [show hI (rfC h (-6)) 10 0 3 = nI nJ from C.k3, show hI (rfC h (-6)) 10 0 2 = nI nT from C.k2]; exact ⟨fun z => absurd z x0, fun _ => ⟨fun z => absurd z n0, fun _ => ⟨fun z => absurd z n1, fun _ => ⟨fun z => absurd z c1, fun _ => ⟨fun z => absurd z c2, fun _ => ⟨fun _ => ⟨fun _ => sp_refM (Q := fun y h => Q (some (vi y)) h) s rf6 K, fun z => absurd c4 z⟩, fun z => absurd c3 z⟩⟩⟩⟩⟩⟩))
    by_cases c5 : 9 < x4
    case pos => exact mB.ref I rf6 (-6) (fun Q K => v_fn_joint_0 (d := d + 2) _ _ _ _ _ C.1 ⟨fun z => absurd z x0, fun _ => ⟨fun z => absurd z x0, fun _ => sp_tank (d := d + 4) C ht ⟨some (6, t), rfl, C.1, ⟨fun z => (by cases z), fun kq n3 z => (by cases z; exact ⟨rfl, ⟨fun z => absurd z c1, fun _ => ⟨fun z => absurd z c2, fun _ => ⟨fun _ => ⟨fun z => absurd z c4, fun _ => ⟨fun _ => sp_refC (Q := fun y h => Q (some (vi y)) h) C.1 rf6 K, fun z => absurd c5 z⟩⟩, fun z => absurd c3 z⟩⟩⟩⟩)⟩⟩⟩⟩) (fun Q s K => v_fm_joint_0 (d := d + 7) _ _ _ _ _ s (by rw [show hI (rfC h (-6)) 10 0 3 = nI nJ from C.k3, show hI (rfC h (-6)) 10 0 2 = nI nT from C.k2]; exact ⟨fun z => absurd z x0, fun _ => ⟨fun z => absurd z n0, fun _ => ⟨fun z => absurd z n1, fun _ => ⟨fun z => absurd z c1, fun _ => ⟨fun z => absurd z c2, fun _ => ⟨fun _ => ⟨fun z => absurd z c4, fun _ => ⟨fun _ => sp_refM (Q := fun y h => Q (some (vi y)) h) s rf6 K, fun z => absurd c5 z⟩⟩, fun z => absurd c3 z⟩⟩⟩⟩⟩⟩))
    by_cases c6 : 200 < x5
    case pos => exact mB.ref I rf6 (-6) (fun Q K => v_fn_joint_0 (d := d + 2) _ _ _ _ _ C.1 ⟨fun z => absurd z x0, fun _ => ⟨fun z => absurd z x0, fun _ => sp_tank (d := d + 4) C ht ⟨some (6, t), rfl, C.1, ⟨fun z => (by cases z), fun kq n3 z => (by cases z; exact ⟨rfl, ⟨fun z => absurd z c1, fun _ => ⟨fun z => absurd z c2, fun _ => ⟨fun _ => ⟨fun z => absurd z c4, fun _ => ⟨fun z => absurd z c5, fun _ => ⟨fun _ => sp_refC (Q := fun y h => Q (some (vi y)) h) C.1 rf6 K, fun z => absurd c6 z⟩⟩⟩, fun z => absurd c3 z⟩⟩⟩⟩)⟩⟩⟩⟩) (fun Q s K => v_fm_joint_0 (d := d + 7) _ _ _ _ _ s (by rw [show hI (rfC h (-6)) 10 0 3 = nI nJ from C.k3, show hI (rfC h (-6)) 10 0 2 = nI nT from C.k2]; exact ⟨fun z => absurd z x0, fun _ => ⟨fun z => absurd z n0, fun _ => ⟨fun z => absurd z n1, fun _ => ⟨fun z => absurd z c1, fun _ => ⟨fun z => absurd z c2, fun _ => ⟨fun _ => ⟨fun z => absurd z c4, fun _ => ⟨fun z => absurd z c5, fun _ => ⟨fun _ => sp_refM (Q := fun y h => Q (some (vi y)) h) s rf6 K, fun z => absurd c6 z⟩⟩⟩, fun z => absurd c3 z⟩⟩⟩⟩⟩⟩))
    by_cases c9 : nJ < 30
    case neg => exact mB.ref I rf6 (-6) (fun Q K => v_fn_joint_0 (d := d + 2) _ _ _ _ _ C.1 ⟨fun z => absurd z x0, fun _ => ⟨fun z => absurd z x0, fun _ => sp_tank (d := d + 4) C ht ⟨some (6, t), rfl, C.1, ⟨fun z => (by cases z), fun kq n3 z => (by cases z; exact ⟨rfl, ⟨fun z => absurd z c1, fun _ => ⟨fun z => absurd z c2, fun _ => ⟨fun _ => ⟨fun z => absurd z c4, fun _ => ⟨fun z => absurd z c5, fun _ => ⟨fun z => absurd z c6, fun _ => ⟨fun z => absurd z (by rw [cJ]; exact nnlt (a := nJ) (b := 30) (by omega) (by omega)), fun _ => sp_refC (Q := fun y h => Q (some (vi y)) h) C.1 rf6 K⟩⟩⟩⟩, fun z => absurd c3 z⟩⟩⟩⟩)⟩⟩⟩⟩) (fun Q s K => v_fm_joint_0 (d := d + 7) _ _ _ _ _ s (by rw [show hI (rfC h (-6)) 10 0 3 = nI nJ from C.k3, show hI (rfC h (-6)) 10 0 2 = nI nT from C.k2]; exact ⟨fun z => absurd z x0, fun _ => ⟨fun z => absurd z n0, fun _ => ⟨fun z => absurd z n1, fun _ => ⟨fun z => absurd z c1, fun _ => ⟨fun z => absurd z c2, fun _ => ⟨fun _ => ⟨fun z => absurd z c4, fun _ => ⟨fun z => absurd z c5, fun _ => ⟨fun z => absurd z c6, fun _ => ⟨fun z => absurd (by rw [show nJ = 30 by omega]; rfl) z, fun _ => sp_refM (Q := fun y h => Q (some (vi y)) h) s rf6 K⟩⟩⟩⟩, fun z => absurd c3 z⟩⟩⟩⟩⟩⟩))
    obtain ⟨f, _, h1, rfl⟩ := rng (lo := 0) (hi := 500) (Int32.not_lt.mp c1) (Int32.not_lt.mp c4) (by omega) (by omega)
    obtain ⟨sz, h2, h3, rfl⟩ := rng (lo := 1) (hi := 9) (Int32.not_lt.mp c2) (Int32.not_lt.mp c5) (by omega) (by omega)
    obtain ⟨l, h4, h5, rfl⟩ := rng (lo := 1) (hi := 200) c3 (Int32.not_lt.mp c6) (by omega) (by omega)
    have hu : ((none : Option (Nat × Nat)) = none ∧ (-9 : Int32) = -9) ∨ ∃ b, b < nJ ∧ (none : Option (Nat × Nat)) = some (7, b) ∧ (-9 : Int32) = nI b ∧ nI t = hI h 11 15 b ∧ hI h 12 0 b = 0 := Or.inl ⟨rfl, rfl⟩
    refine mB.mkR (nI nJ) (fun hC0 => adR (jnX h nJ t (none) (nI f) (nI sz) (nI l)) hC0 1 ∧ mSK hC0 ∧ mCl hC0 1 7 (nJ + 1) id) (fun hC0 hM => hM = jnM hC0 nJ (-9) (nI t) (nI f) (nI sz) (nI l)) (fun Q K => ?_) (fun hC0 P => ⟨P.2.1, (P.1.2.2.2.2.1 14 0 (by decide)).trans (newC_L (h := h) (k := 7) (len := 0) (k' := 14) (n' := 0) (fun z => absurd z.1 (by decide))), fun f' => (P.1.1 14 0 f' (by decide) (by omega)).trans (jnX_I e7 14 0 f' (by omega))⟩) (fun hC0 P Q K => ?_) (fun hC0 hM P e => ⟨⟨nT, nJ + 1, nK, nV, vs, ?_⟩, by rw [e]; exact ⟨rfl, fun _ => rfl⟩⟩)
    · have go : mT g me_al_add (d + 2 + 6) 1 74 0 [some (vr 2 1), some (vr 7 (hC h 7))] [] (setI (setI (setI (setP (setP (setI (newC h 7 0) 7 (hC h 7) 0 (hI h 2 1 1)) 7 (hC h 7) 1 (some (6, t))) 7 (hC h 7) 2 (none)) 7 (hC h 7) 3 (nI f)) 7 (hC h 7) 5 (nI sz)) 7 (hC h 7) 4 (nI l)) (fun v h18 => ∃ y19, v = some (vi y19) ∧ mSK h18 ∧ Q (some (vi (hI h 2 1 1))) h18) := by
        rw [e7, cJ]
        exact sp_add (d := d + 2) (jnX_S e7 (hu.elim (fun z => Or.inl z.1) (fun ⟨a, z⟩ => Or.inr ⟨a, z.2.1⟩)) C.1) (jnX_L e7 C.2.2.1).2.1 (by omega) (by omega) (by omega) (fun _ _ => rfl) rfl fun h' R S L => ⟨_, rfl, S, K h' ⟨R, S, L⟩⟩
      exact v_fn_joint_0 (d := d + 2) _ _ _ _ _ C.1 ⟨fun z => absurd z x0, fun _ => ⟨fun z => absurd z x0, fun _ => sp_tank (d := d + 4) C ht ⟨some (6, t), rfl, C.1, ⟨fun z => (by cases z), fun kq n3 z => (by cases z; exact ⟨rfl, ⟨fun z => absurd z c1, fun _ => ⟨fun z => absurd z c2, fun _ => ⟨fun _ => ⟨fun z => absurd z c4, fun _ => ⟨fun z => absurd z c5, fun _ => ⟨fun z => absurd z c6, fun _ => ⟨fun _ => go, fun z => absurd (by rw [cJ]; exact nlt (b := 30) c9 (by omega)) z⟩⟩⟩⟩, fun z => absurd c3 z⟩⟩⟩⟩)⟩⟩⟩⟩
    · have A := fun k n f' qq z y => (P.1.1 k n f' qq z).trans (jnX_I (h := h) (x3 := nI f) (x4 := nI sz) (x5 := nI l) (t := t) (up := none) e7 k n f' y)
      have s := P.2.1
      have e2 : hI hC0 10 0 2 = nI nT := (A 10 0 2 (by decide) (by omega) (by omega)).trans C.k2
      have e3 : hI hC0 10 0 3 = nI nJ := (A 10 0 3 (by decide) (by omega) (by omega)).trans C.k3
      have hj : vp_in (nI nJ) 30 := nin c9 (by omega)
      have cT : (nI nJ).toNatClampNeg = nJ := nc (by omega)
      refine v_fm_joint_0 (d := d + 7) _ _ _ _ _ s ?_
      rw [e2, e3, cT, nI_1, n_sub1, ← nI_1]
      exact ⟨fun z => absurd z x0, fun _ => ⟨fun z => absurd z n0, fun _ => ⟨fun z => absurd z n1, fun _ => ⟨fun z => absurd z c1, fun _ => ⟨fun z => absurd z c2, fun _ => ⟨fun _ => ⟨fun z => absurd z c4, fun _ => ⟨fun z => absurd z c5, fun _ => ⟨fun z => absurd z c6, fun _ => ⟨fun _ => ⟨fun _ => ⟨fun z => absurd z x0, fun _ => ⟨hj, fun z => absurd z x0, fun _ => ⟨hj, hj, hj, hj, hj, K _ rfl⟩⟩⟩, fun z => absurd z x0⟩, fun z => absurd z (nne (b := 30) c9 (by omega))⟩⟩⟩⟩, fun z => absurd c3 z⟩⟩⟩⟩⟩⟩
    · rw [e]
      exact jn_new I c9 ht hu h1 h2 h3 h4 h5 P.1 P.2.1 P.2.2

end CORE
