/-! jet -/
def jtX (h : mH) (n j : Nat) (x2 : Int32) : mH := setP (setI (setI (setP (setI (setI (newC h 8 0) 8 n 0 (nI n)) 8 n 1 (mBit n)) 8 n 2 (some (7, j))) 8 n 3 x2) 8 n 4 (-1)) 7 j 9 (some (8, n))
def jtM (h : mH) (n j : Nat) (x2 : Int32) : mH := setI (setI (setI (setI (setI h 11 21 n (nI j)) 11 22 n x2) 11 23 n (-1)) 11 20 j (nI n)) 10 0 4 (nI n + 1)
section CORE
variable {h h' hC0 hM : mH} {nT nJ nK nV nT' nJ' nK' : Nat} {vs : Nat → Nat} {x2 : Int32}
theorem jtX_I {n j : Nat} (e : hC h 8 = n) (k n' f : Nat) (q : ¬ (k = 8 ∧ n' = n)) : hI (jtX h n j x2) k n' f = hI h k n' f := by
  unfold jtX
  exact (hI_no fun z => q ⟨z.1, z.2.1⟩).trans ((hI_no fun z => q ⟨z.1, z.2.1⟩).trans ((hI_no fun z => q ⟨z.1, z.2.1⟩).trans ((hI_no fun z => q ⟨z.1, z.2.1⟩).trans (congrFun (newC_I (fun z => q ⟨z.1, z.2.trans e⟩)) f))))
theorem jtX_P {n j : Nat} (e : hC h 8 = n) (k n' f : Nat) (q : ¬ (k = 8 ∧ n' = n)) (q2 : ¬ (k = 7 ∧ n' = j ∧ f = 9)) : hP (jtX h n j x2) k n' f = hP h k n' f := by
  unfold jtX
  exact (if_neg q2).trans ((if_neg (fun z => q ⟨z.1, z.2.1⟩)).trans (congrFun (newC_P (fun z => q ⟨z.1, z.2.trans e⟩)) f))
theorem jtX_S {n j : Nat} (e : hC h 8 = n) (S : mSK h) : mSK (jtX h n j x2) := by
  refine S.gen (fun k f r z => ?_) (fun k n' l z => newC_L (h := h) fun y => (mln_no z).2.2.2.2.1 y.1) (fun k n' f t r z p => ?_)
  · obtain ⟨_, _, _, q7, q8, _⟩ := mst_no z
    exact jtX_P e k 0 f (fun y => q8 y.1) (fun y => q7 y.1)
  · by_cases q2 : k = 7 ∧ n' = j ∧ f = 9
    · obtain ⟨rfl, rfl, rfl⟩ := q2
      have v : hP (jtX h n n' x2) 7 n' 9 = some (8, n) := hP_eq
      rw [v] at p
      cases p
      cases z
      exact Or.inr rfl
    · by_cases q1 : k = 8 ∧ n' = n
      · obtain ⟨rfl, rfl⟩ := q1
        by_cases q3 : f = 2
        · subst q3
          have v : hP (jtX h n' j x2) 8 n' 2 = some (7, j) := (hP_nk (by decide)).trans (hP_eq (h := setI (setI (newC h 8 0) 8 n' 0 (nI n')) 8 n' 1 (mBit n')))
          rw [v] at p
          cases p
          cases z
          exact Or.inr rfl
        · have v : hP (jtX h n' j x2) 8 n' f = none := (hP_nk (by decide)).trans ((hP_nf (h := setI (setI (newC h 8 0) 8 n' 0 (nI n')) 8 n' 1 (mBit n')) q3).trans (by
            have := newC_P0 h 8 0 f
            rw [e] at this
            exact this))
          rw [v] at p
          cases p
      · rw [jtX_P e k n' f q1 q2] at p
        exact Or.inl p
theorem jtX_L {j : Nat} (e : hC h 8 = nK) (L : mLi h nT nJ nK nV vs) : mLi (jtX h nK j x2) nT nJ nK nV vs := mLi.nw L (fun l => jtX_I e 2 l 1 (by omega)) (fun l => jtX_P e 2 l 0 (by omega) (by omega)) rfl (fun e' => newC_L (h := h) (k := 8) (len := 0) (k' := 13) (n' := e') (fun z => absurd z.1 (by decide))) (fun e' i => jtX_P e 13 e' i (by omega) (by omega))
theorem jt_new (I : mI h nT nJ nK nV vs) (hK : nK < 24) {j x : Nat} (hj : j < nJ) (p9 : hP h 7 j 9 = none) (a20 : hI h 11 20 j = -9) (h1 : 1 ≤ x) (h2 : x ≤ 60) (R : adR (jtX h nK j (nI x)) hC0 2) (S : mSK hC0) (L : mCl hC0 2 8 (nK + 1) id) : mI (jtM hC0 nK j (nI x)) nT nJ (nK + 1) nV vs := by
  obtain ⟨C, F, ca⟩ := I
  have e8 : hC h 8 = nK := C.2.2.2.1.2.2
  have A0 : ∀ k n f', k ≠ 13 → ¬ (k = 2 ∧ n = 2 ∧ (f' = 1 ∨ f' = 2)) → ¬ (k = 8 ∧ n = nK) → hI hC0 k n f' = hI h k n f' := fun k n f' q z y => (R.1 k n f' q z).trans (jtX_I e8 k n f' y)
  have AP : ∀ k n f', k ≠ 13 → ¬ (k = 2 ∧ n = 2 ∧ f' = 0) → ¬ (k = 8 ∧ n = nK) → ¬ (k = 7 ∧ n = j ∧ f' = 9) → hP hC0 k n f' = hP h k n f' := fun k n f' q z y w => (R.2.1 k n f' q z).trans (jtX_P e8 k n f' y w)
  have A : ∀ k n f', k ≠ 13 → ¬ (k = 2 ∧ n = 2 ∧ (f' = 1 ∨ f' = 2)) → ¬ (k = 8 ∧ n = nK) → ¬ (k = 11 ∧ 21 ≤ n ∧ n ≤ 23 ∧ f' = nK) → ¬ (k = 11 ∧ n = 20 ∧ f' = j) → ¬ (k = 10 ∧ n = 0 ∧ f' = 4) → hI (jtM hC0 nK j (nI x)) k n f' = hI h k n f' := by
    intro k n f' q z y w w2 u
    unfold jtM
    exact (hI_no u).trans ((hI_no w2).trans ((hI_no fun z => w ⟨z.1, by omega, by omega, z.2.2⟩).trans ((hI_no fun z => w ⟨z.1, by omega, by omega, z.2.2⟩).trans ((hI_no fun z => w ⟨z.1, by omega, by omega, z.2.2⟩).trans (A0 k n f' q z y)))))
  obtain ⟨L0, L1, _, L3, LD⟩ := (jtX_L e8 C.2.2.1).ad (by omega) R
  have c7 : hC hC0 7 = nJ := (R.2.2.1 7 (by decide)).trans C.2.2.2.1.2.1
  have c8 : hC hC0 8 = nK + 1 := (R.2.2.1 8 (by decide)).trans (show hC h 8 + 1 = nK + 1 by rw [e8])
  have c6 : hC hC0 6 = nT := (R.2.2.1 6 (by decide)).trans C.2.2.2.1.1
  have c9 : hC hC0 9 = hC h 9 := (R.2.2.1 9 (by decide)).trans rfl
  have D : mDj (jtM hC0 nK j (nI x)) := LD
  have b21 : hI (jtM hC0 nK j (nI x)) 11 21 nK = nI j := (hI_nk (by decide)).trans ((hI_nn (by decide)).trans ((hI_nn (by decide)).trans ((hI_nn (by decide)).trans hI_eq)))
  have b22 : hI (jtM hC0 nK j (nI x)) 11 22 nK = nI x := (hI_nk (by decide)).trans ((hI_nn (by decide)).trans ((hI_nn (by decide)).trans hI_eq))
  have b23 : hI (jtM hC0 nK j (nI x)) 11 23 nK = -1 := (hI_nk (by decide)).trans ((hI_nn (by decide)).trans hI_eq)
  have b20 : hI (jtM hC0 nK j (nI x)) 11 20 j = nI nK := (hI_nk (by decide)).trans hI_eq
  have b9 : hP (jtM hC0 nK j (nI x)) 7 j 9 = some (8, nK) := (R.2.1 7 j 9 (by omega) (by omega)).trans hP_eq
  have b12 : hI (jtM hC0 nK j (nI x)) 12 1 nK = 0 := (A 12 1 nK (by omega) (by omega) (by omega) (by omega) (by omega) (by omega)).trans (F.2.2.1 nK (Nat.le_refl _))
  refine ⟨⟨S.of rfl, ⟨C.2.1.1, C.2.1.2.1, by omega, C.2.1.2.2.2⟩, ⟨(L0 (by decide)).of rfl rfl, (L1 (by decide)).of rfl rfl, L.of rfl rfl, (L3 (by decide)).of rfl rfl, D⟩, ⟨c6, c7, c8⟩, ⟨?_, ?_, ?_, ?_⟩, fun i hi => ?_, fun i hi => ?_, fun k hk => ?_, fun v hv => ?_, ?_, ⟨fun k hk => ?_, fun k q1 q2 => ?_⟩⟩, ⟨fun t ht => ?_, fun j hj => ?_, fun k hk => ?_, fun j hj => ?_⟩, ?_⟩
  · exact (A 10 0 2 (by omega) (by omega) (by omega) (by omega) (by omega) (by omega)).trans C.k2
  · exact (A 10 0 3 (by omega) (by omega) (by omega) (by omega) (by omega) (by omega)).trans C.k3
  · exact hI_eq.trans (nI_1 _)
  · exact (A 10 0 5 (by omega) (by omega) (by omega) (by omega) (by omega) (by omega)).trans C.k5
  · exact (C.2.2.2.2.2.1 i hi).c (fun f' => A 6 i f' (by omega) (by omega) (by omega) (by omega) (by omega) (by omega)) (fun n _ _ => A 11 n i (by omega) (by omega) (by omega) (by omega) (by omega) (by omega))
  · by_cases q : i = j
    · subst q
      have Z := C.2.2.2.2.2.2.1 i hi
      unfold mJn at Z ⊢
      have e7 := fun f' => A 7 i f' (by omega) (by omega) (by omega) (by omega) (by omega) (by omega)
      have e11 := fun n (a : 14 ≤ n) (b : n ≤ 19) => A 11 n i (by omega) (by omega) (by omega) (by omega) (by omega) (by omega)
      rw [e7 0, e7 3, e7 4, e7 5, e7 6, e7 8, e11 14 (by omega) (by omega), e11 15 (by omega) (by omega), e11 16 (by omega) (by omega), e11 17 (by omega) (by omega), e11 18 (by omega) (by omega), e11 19 (by omega) (by omega), A 12 0 i (by omega) (by omega) (by omega) (by omega) (by omega) (by omega), show hP (jtM hC0 nK i (nI x)) 7 i 1 = hP h 7 i 1 from AP 7 i 1 (by omega) (by omega) (by omega) (by omega), show hP (jtM hC0 nK i (nI x)) 7 i 2 = hP h 7 i 2 from AP 7 i 2 (by omega) (by omega) (by omega) (by omega)]
      refine ⟨Z.1, Z.2.1, ?_, Z.2.2.2.1, Z.2.2.2.2.1, Z.2.2.2.2.2.1, Z.2.2.2.2.2.2.1, trivial, Z.2.2.2.2.2.2.2.2.1, Or.inr ⟨nK, by omega, b9, b20, b21⟩⟩
      rcases Z.2.2.1 with z | ⟨a, y1, y2, y3, y4, y5⟩
      · exact Or.inl z
      · refine Or.inr ⟨a, y1, y2, y3, ?_, ?_⟩
        · rw [A 11 15 a (by omega) (by omega) (by omega) (by omega) (by omega) (by omega)]; exact y4
        · rw [A 12 0 a (by omega) (by omega) (by omega) (by omega) (by omega) (by omega)]; exact y5
    · exact (C.2.2.2.2.2.2.1 i hi).c (fun f' => AP 7 i f' (by omega) (by omega) (by omega) (by omega)) (fun f' => A 7 i f' (by omega) (by omega) (by omega) (by omega) (by omega) (by omega)) (fun n _ _ => A 11 n i (by omega) (by omega) (by omega) (by omega) (by omega) (by omega)) (A 12 0 i (by omega) (by omega) (by omega) (by omega) (by omega) (by omega)) (fun a' _ => ⟨A 11 15 a' (by omega) (by omega) (by omega) (by omega) (by omega) (by omega), A 12 0 a' (by omega) (by omega) (by omega) (by omega) (by omega) (by omega)⟩) (fun k _ => A 11 21 k (by omega) (by omega) (by omega) (by omega) (by omega) (by omega)) (Nat.le_refl _) (by omega)
  · by_cases q : k = nK
    · subst q
      have cell : ∀ f', hI (jtM hC0 k j (nI x)) 8 k f' = hI (jtX h k j (nI x)) 8 k f' := fun f' => R.1 8 _ f' (by omega) (by omega)
      have p2 : hP (jtM hC0 k j (nI x)) 8 k 2 = some (7, j) := (R.2.1 8 k 2 (by omega) (by omega)).trans ((hP_nk (by decide)).trans hP_eq)
      unfold mJe
      rw [b21, b22, b23, b12, p2, cell, cell, cell, cell]
      refine ⟨(hI_nf (by decide)).trans ((hI_nf (by decide)).trans ((hI_nf (h := setI (newC h 8 0) 8 k 0 (nI k)) (by decide)).trans hI_eq)), (hI_nf (by decide)).trans ((hI_nf (by decide)).trans (hI_eq (h := setI (newC h 8 0) 8 k 0 (nI k)))), ⟨j, hj, rfl, rfl, b20, b9⟩, ⟨x, h1, h2, (hI_nf (by decide)).trans hI_eq, rfl⟩, ⟨hI_eq, Or.inl rfl⟩, Or.inl rfl⟩
    · refine (C.2.2.2.2.2.2.2.1 k (by omega)).c (fun f' => A 8 k f' (by omega) (by omega) (by omega) (by omega) (by omega) (by omega)) (AP 8 k 2 (by omega) (by omega) (by omega) (by omega)) (fun n _ _ => A 11 n k (by omega) (by omega) (by omega) (by omega) (by omega) (by omega)) (A 12 1 k (by omega) (by omega) (by omega) (by omega) (by omega) (by omega)) (fun i _ e => ?_) (Nat.le_refl _)
      have ne : i ≠ j := fun z => by
        rw [z, a20] at e
        have : (-9 : Int32) < 0 := by decide
        rw [e] at this
        exact absurd this (nnneg (by omega))
      exact ⟨A 11 20 i (by omega) (by omega) (by omega) (by omega) (by omega) (by omega), AP 7 i 9 (by omega) (by omega) (by omega) (by omega)⟩
  · exact (C.2.2.2.2.2.2.2.2.1 v hv).c rfl (fun f' => A 9 (vs v) f' (by omega) (by omega) (by omega) (by omega) (by omega) (by omega)) (fun n u _ _ _ => A 11 n u (by omega) (by omega) (by omega) (by omega) (by omega) (by omega)) (by show hC h 9 ≤ hC hC0 9; omega) (by omega)
  · exact C.2.2.2.2.2.2.2.2.2.1.c (A 1 0 4 (by omega) (by omega) (by omega) (by omega) (by omega) (by omega)) (fun f' _ => A 10 0 f' (by omega) (by omega) (by omega) (by omega) (by omega) (by omega)) (A 0 0 6 (by omega) (by omega) (by omega) (by omega) (by omega) (by omega)) (A 5 0 1 (by omega) (by omega) (by omega) (by omega) (by omega) (by omega)) (fun n i _ => A 11 n i (by omega) (by omega) (by omega) (by omega) (by omega) (by omega))
  · rw [A 1 0 3 (by omega) (by omega) (by omega) (by omega) (by omega) (by omega), A 12 1 k (by omega) (by omega) (by omega) (by omega) (by omega) (by omega)]
    by_cases q : k = nK
    · rw [q]
      exact ⟨fun _ => F.2.2.1 nK (Nat.le_refl _), fun _ => C.2.2.2.2.2.2.2.2.2.2.2 nK (Nat.le_refl _) (by omega)⟩
    · exact C.2.2.2.2.2.2.2.2.2.2.1 k (by omega)
  · rw [A 1 0 3 (by omega) (by omega) (by omega) (by omega) (by omega) (by omega)]
    exact C.2.2.2.2.2.2.2.2.2.2.2 k (by omega) q2
  · rw [A 11 12 t (by omega) (by omega) (by omega) (by omega) (by omega) (by omega), A 11 13 t (by omega) (by omega) (by omega) (by omega) (by omega) (by omega)]
    exact F.1 t ht
  · rw [A 12 0 j (by omega) (by omega) (by omega) (by omega) (by omega) (by omega), A 11 19 j (by omega) (by omega) (by omega) (by omega) (by omega) (by omega)]
    exact F.2.1 j hj
  · rw [A 12 1 k (by omega) (by omega) (by omega) (by omega) (by omega) (by omega)]
    exact F.2.2.1 k (by omega)
  · rw [A 7 j 7 (by omega) (by omega) (by omega) (by omega) (by omega) (by omega)]
    exact F.2.2.2 j hj
  · have neg : ∀ k, nK ≤ k → k < nK + 1 → hI (jtM hC0 nK j (nI x)) 11 23 k < 0 := fun k q1 q2 => by
      rw [show k = nK by omega, b23]
      decide
    have own : ∀ (X : Nat → Nat) i, i < nJ → nOw (exH (jtM hC0 nK j (nI x)) nT nJ (nK + 1) X) i = nOw (exH h nT nJ nK X) i := by
      intro X i hi
      unfold nOw
      rw [exH_28 hi, exH_28 hi, show hI (exH (jtM hC0 nK j (nI x)) nT nJ (nK + 1) X) 11 20 i = hI (jtM hC0 nK j (nI x)) 11 20 i from rfl, show hI (exH h nT nJ nK X) 11 20 i = hI h 11 20 i from rfl]
      by_cases q : i = j
      · rw [q, b20, a20, if_neg (nnneg (by omega)), nc (by omega), exH_on (by omega), b12, if_pos rfl, if_pos (by decide)]
      · rw [A 11 20 i (by omega) (by omega) (by omega) (by omega) (by omega) (by omega)]
        obtain ⟨_, _, z, _⟩ := C.ms i hi
        rcases z with z | ⟨k, kl, z⟩
        · rw [z, if_pos (by decide), if_pos (by decide)]
        · rw [z, if_neg (nnneg (by omega)), if_neg (nnneg (by omega)), nc (by omega), exH_on kl, exH_on (by omega), A 12 1 k (by omega) (by omega) (by omega) (by omega) (by omega) (by omega)]
          show _ + (if _ then 0 else hI (jtM hC0 nK j (nI x)) 11 22 k) = _ + (if _ then 0 else hI h 11 22 k)
          rw [A 11 22 k (by omega) (by omega) (by omega) (by omega) (by omega) (by omega)]
    have e : lkE (jtM hC0 nK j (nI x)) nT nJ (nK + 1) = lkE h nT nJ nK := by
      funext X
      exact lkE_congr C (Nat.le_succ _) (Nat.le_refl _) (fun i _ => ⟨A 12 0 i (by omega) (by omega) (by omega) (by omega) (by omega) (by omega), A 11 14 i (by omega) (by omega) (by omega) (by omega) (by omega) (by omega), A 11 15 i (by omega) (by omega) (by omega) (by omega) (by omega) (by omega), A 11 16 i (by omega) (by omega) (by omega) (by omega) (by omega) (by omega), A 11 17 i (by omega) (by omega) (by omega) (by omega) (by omega) (by omega), A 11 18 i (by omega) (by omega) (by omega) (by omega) (by omega) (by omega)⟩) own (fun t _ => ⟨A 11 11 t (by omega) (by omega) (by omega) (by omega) (by omega) (by omega), A 11 7 t (by omega) (by omega) (by omega) (by omega) (by omega) (by omega), A 11 8 t (by omega) (by omega) (by omega) (by omega) (by omega) (by omega)⟩) (fun k _ => ⟨A 11 23 k (by omega) (by omega) (by omega) (by omega) (by omega) (by omega), A 12 1 k (by omega) (by omega) (by omega) (by omega) (by omega) (by omega), A 11 21 k (by omega) (by omega) (by omega) (by omega) (by omega) (by omega)⟩) neg (A 10 0 7 (by omega) (by omega) (by omega) (by omega) (by omega) (by omega)) X
    have e2 : lkN (jtM hC0 nK j (nI x)) (nK + 1) = lkN h nK := lkN_congr (Nat.le_succ _) (fun k _ => A 11 23 k (by omega) (by omega) (by omega) (by omega) (by omega) (by omega)) neg
    unfold mCa
    rw [e, e2, A 10 0 55 (by omega) (by omega) (by omega) (by omega) (by omega) (by omega), A 10 0 56 (by omega) (by omega) (by omega) (by omega) (by omega) (by omega), A 10 0 57 (by omega) (by omega) (by omega) (by omega) (by omega) (by omega), A 10 0 58 (by omega) (by omega) (by omega) (by omega) (by omega) (by omega), A 10 0 59 (by omega) (by omega) (by omega) (by omega) (by omega) (by omega), A 10 0 60 (by omega) (by omega) (by omega) (by omega) (by omega) (by omega), A 10 0 61 (by omega) (by omega) (by omega) (by omega) (by omega) (by omega)]
    exact ca
theorem op_jet {g : mG} {d : Nat} (I : mI h nT nJ nK nV vs) (x1 x2 : Int32) : mB g me_fn_jet me_fm_jet (d + 9) 2 79 [some (vr 0 0), some (vi x1), some (vi x2), none, none, none] [some (vr 10 0), some (vi x1), some (vi x2)] h := by
  have C := I.1
  have bJ := C.2.1.2.1
  have bK := C.2.1.2.2.1
  rcases ix_cases x1 (n := nJ) (by omega) with hx | ⟨j, hj, rfl⟩
  · refine mB.ref I rf1 (-1) (fun Q K => v_fn_jet_0 (d := d + 2) _ _ C.1 (sp_jointNo (d := d + 4) C hx ⟨none, rfl, C.1, fun _ => sp_refC (Q := fun y h => Q (some (vi y)) h) C.1 rf1 K, fun kq n3 z => (by cases z)⟩)) (fun Q s K => v_fm_jet_0 (d := d + 6) _ _ s ?_)
    rw [show hI (rfC h (-1)) 10 0 3 = nI nJ from C.k3]
    rcases hx with q | ⟨q1, q2⟩
    · exact ⟨fun _ => sp_refM (Q := fun y h => Q (some (vi y)) h) s rf1 K, fun z => absurd q z⟩
    · exact ⟨fun z => absurd z q1, fun _ => ⟨fun _ => sp_refM (Q := fun y h => Q (some (vi y)) h) s rf1 K, fun z => absurd q2 z⟩⟩
  have n0 : ¬ nI j < 0 := nnneg (by omega)
  have n1 : ¬ nI nJ ≤ nI j := nnle hj (by omega)
  have hin : vp_in (nI j) 30 := nin (by omega) (by omega)
  have cj : (nI j).toNatClampNeg = j := nc (by omega)
  have cK : hI h 2 2 1 = nI nK := C.2.2.1.2.2.1.1
  have Z := C.2.2.2.2.2.2.1 j hj
  rcases Z.2.2.2.2.2.2.2.2.2 with ⟨p9, a20⟩ | ⟨k, kl, p9, a20, _⟩
  case inr =>
    refine mB.ref I rf3 (-3) (fun Q K => v_fn_jet_0 (d := d + 2) _ _ C.1 (sp_joint (d := d + 4) C hj ⟨some (7, j), rfl, C.1, fun z => (by cases z), fun kq n3 z => (by cases z; exact ⟨rfl, fun y => (by rw [p9] at y; cases y), fun kq n6 y => (by rw [p9] at y; cases y; exact ⟨rfl, sp_refC (Q := fun y h => Q (some (vi y)) h) C.1 rf3 K⟩)⟩)⟩)) (fun Q s K => v_fm_jet_0 (d := d + 6) _ _ s ?_)
    rw [show hI (rfC h (-3)) 10 0 3 = nI nJ from C.k3, cj, show hI (rfC h (-3)) 11 20 j = nI k from a20]
    exact ⟨fun z => absurd z n0, fun _ => ⟨fun z => absurd z n1, fun _ => ⟨hin, fun z => absurd z (nnneg (by omega)), fun _ => sp_refM (Q := fun y h => Q (some (vi y)) h) s rf3 K⟩⟩⟩
  by_cases c2 : (1 : Int32) ≤ x2
  case neg => exact mB.ref I rf4 (-4) (fun Q K => v_fn_jet_0 (d := d + 2) _ _ C.1 (sp_joint (d := d + 4) C hj ⟨some (7, j), rfl, C.1, fun z => (by cases z), fun kq n3 z => (by cases z; exact ⟨rfl, fun _ => ⟨fun z => absurd z c2, fun _ => sp_refC (Q := fun y h => Q (some (vi y)) h) C.1 rf4 K⟩, fun kq n6 y => (by rw [p9] at y; cases y)⟩)⟩)) (fun Q s K => v_fm_jet_0 (d := d + 6) _ _ s (by rw [show hI (rfC h (-4)) 10 0 3 = nI nJ from C.k3, show hI (rfC h (-4)) 10 0 4 = nI nK from C.k4, cj, show hI (rfC h (-4)) 11 20 j = -9 from a20]; exact ⟨fun z => absurd z n0, fun _ => ⟨fun z => absurd z n1, fun _ => ⟨hin, fun _ => ⟨fun z => absurd z c2, fun _ => sp_refM (Q := fun y h => Q (some (vi y)) h) s rf4 K⟩, fun z => absurd (show (-9 : Int32) < 0 by decide) z⟩⟩⟩))
  by_cases c3 : 60 < x2
  case pos => exact mB.ref I rf6 (-6) (fun Q K => v_fn_jet_0 (d := d + 2) _ _ C.1 (sp_joint (d := d + 4) C hj ⟨some (7, j), rfl, C.1, fun z => (by cases z), fun kq n3 z => (by cases z; exact ⟨rfl, fun _ => ⟨fun _ => ⟨fun _ => sp_refC (Q := fun y h => Q (some (vi y)) h) C.1 rf6 K, fun z => absurd c3 z⟩, fun z => absurd c2 z⟩, fun kq n6 y => (by rw [p9] at y; cases y)⟩)⟩)) (fun Q s K => v_fm_jet_0 (d := d + 6) _ _ s (by rw [show hI (rfC h (-6)) 10 0 3 = nI nJ from C.k3, show hI (rfC h (-6)) 10 0 4 = nI nK from C.k4, cj, show hI (rfC h (-6)) 11 20 j = -9 from a20]; exact ⟨fun z => absurd z n0, fun _ => ⟨fun z => absurd z n1, fun _ => ⟨hin, fun _ => ⟨fun _ => ⟨fun _ => sp_refM (Q := fun y h => Q (some (vi y)) h) s rf6 K, fun z => absurd c3 z⟩, fun z => absurd c2 z⟩, fun z => absurd (show (-9 : Int32) < 0 by decide) z⟩⟩⟩))
  by_cases c9 : nK < 24
  case neg => exact mB.ref I rf6 (-6) (fun Q K => v_fn_jet_0 (d := d + 2) _ _ C.1 (sp_joint (d := d + 4) C hj ⟨some (7, j), rfl, C.1, fun z => (by cases z), fun kq n3 z => (by cases z; exact ⟨rfl, fun _ => ⟨fun _ => ⟨fun z => absurd z c3, fun _ => ⟨fun z => absurd z (by rw [cK]; exact nnlt (a := nK) (b := 24) (by omega) (by omega)), fun _ => sp_refC (Q := fun y h => Q (some (vi y)) h) C.1 rf6 K⟩⟩, fun z => absurd c2 z⟩, fun kq n6 y => (by rw [p9] at y; cases y)⟩)⟩)) (fun Q s K => v_fm_jet_0 (d := d + 6) _ _ s (by rw [show hI (rfC h (-6)) 10 0 3 = nI nJ from C.k3, show hI (rfC h (-6)) 10 0 4 = nI nK from C.k4, cj, show hI (rfC h (-6)) 11 20 j = -9 from a20]; exact ⟨fun z => absurd z n0, fun _ => ⟨fun z => absurd z n1, fun _ => ⟨hin, fun _ => ⟨fun _ => ⟨fun z => absurd z c3, fun _ => ⟨fun z => absurd (by rw [show nK = 24 by omega]; rfl) z, fun _ => sp_refM (Q := fun y h => Q (some (vi y)) h) s rf6 K⟩⟩, fun z => absurd c2 z⟩, fun z => absurd (show (-9 : Int32) < 0 by decide) z⟩⟩⟩))
  obtain ⟨x, h1, h2, rfl⟩ := rng (lo := 1) (hi := 60) c2 (Int32.not_lt.mp c3) (by omega) (by omega)
  have e8 : hC h 8 = nK := C.2.2.2.1.2.2
  have cT : (nI nK).toNatClampNeg = nK := nc (by omega)
  refine mB.mkR (nI nK) (fun hC0 => adR (jtX h nK j (nI x)) hC0 2 ∧ mSK hC0 ∧ mCl hC0 2 8 (nK + 1) id) (fun hC0 hM => hM = jtM hC0 nK j (nI x)) (fun Q K => ?_) (fun hC0 P => ⟨P.2.1, (P.1.2.2.2.2.1 14 0 (by decide)).trans (newC_L (h := h) (k := 8) (len := 0) (k' := 14) (n' := 0) (fun z => absurd z.1 (by decide))), fun f' => (P.1.1 14 0 f' (by decide) (by omega)).trans (jtX_I e8 14 0 f' (by omega))⟩) (fun hC0 P Q K => ?_) (fun hC0 hM P e => ⟨⟨nT, nJ, nK + 1, nV, vs, ?_⟩, by rw [e]; exact ⟨rfl, fun _ => rfl⟩⟩)
  · have go : mT g me_al_add (d + 2 + 6) 1 74 0 [some (vr 2 2), some (vr 8 (hC h 8))] [] (setP (setI (setI (setP (setI (setI (newC h 8 0) 8 (hC h 8) 0 (hI h 2 2 1)) 8 (hC h 8) 1 ((1 : Int32) <<< (hI h 2 2 1 &&& 31))) 8 (hC h 8) 2 (some (7, j))) 8 (hC h 8) 3 (nI x)) 8 (hC h 8) 4 (-1)) 7 j 9 (some (8, hC h 8))) (fun v h10 => ∃ y11, v = some (vi y11) ∧ mSK h10 ∧ Q (some (vi (hI h 2 2 1))) h10) := by
      rw [e8, cK]
      exact sp_add (d := d + 2) (jtX_S e8 C.1) (jtX_L e8 C.2.2.1).2.2.1 (by omega) (by omega) (by omega) (fun _ _ => rfl) rfl fun h' R S L => ⟨_, rfl, S, K h' ⟨R, S, L⟩⟩
    exact v_fn_jet_0 (d := d + 2) _ _ C.1 (sp_joint (d := d + 4) C hj ⟨some (7, j), rfl, C.1, fun z => (by cases z), fun kq n3 z => (by cases z; exact ⟨rfl, fun _ => ⟨fun _ => ⟨fun z => absurd z c3, fun _ => ⟨fun _ => go, fun z => absurd (by rw [cK]; exact nlt (b := 24) c9 (by omega)) z⟩⟩, fun z => absurd c2 z⟩, fun kq n6 y => (by rw [p9] at y; cases y)⟩)⟩)
  · have A := fun k n f qq z y => (P.1.1 k n f qq z).trans (jtX_I (h := h) (x2 := nI x) (j := j) e8 k n f y)
    have s := P.2.1
    have e3 : hI hC0 10 0 3 = nI nJ := (A 10 0 3 (by decide) (by omega) (by omega)).trans C.k3
    have e4 : hI hC0 10 0 4 = nI nK := (A 10 0 4 (by decide) (by omega) (by omega)).trans C.k4
    have e20 : hI hC0 11 20 j = -9 := (A 11 20 j (by decide) (by omega) (by omega)).trans a20
    have hk : vp_in (nI nK) 24 := nin c9 (by omega)
    refine v_fm_jet_0 (d := d + 6) _ _ s ?_
    rw [e3, e4, cj, e20]
    refine ⟨fun z => absurd z n0, fun _ => ⟨fun z => absurd z n1, fun _ => ⟨hin, fun _ => ⟨fun _ => ⟨fun z => absurd z c3, fun _ => ⟨fun _ => ?_, fun z => absurd z (nne (b := 24) c9 (by omega))⟩⟩, fun z => absurd c2 z⟩, fun z => absurd (show (-9 : Int32) < 0 by decide) z⟩⟩⟩
    rw [cT, nI_1, n_sub1, ← nI_1]
    exact ⟨hk, hk, hk, hin, K _ rfl⟩
  · rw [e]
    exact jt_new I c9 hj p9 a20 h1 h2 P.1 P.2.1 P.2.2
end CORE
