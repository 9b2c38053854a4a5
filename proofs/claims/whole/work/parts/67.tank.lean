/-! tank -/
theorem nne {a b : Nat} (h : a < b) (hb : b ≤ 1000000 := by omega) : ¬ nI a = nI b := fun z => by
  have e := congrArg Int32.toNatClampNeg z
  rw [nc (by omega), nc hb] at e
  omega
def tkX (h : mH) (n : Nat) (x1 x2 x3 x4 : Int32) : mH := setI (setI (setI (setI (setI (setI (newC h 6 0) 6 n 0 (nI n)) 6 n 1 x1) 6 n 2 x2) 6 n 3 x3) 6 n 4 x4) 6 n 5 (x2 * x3)
def tkM (h : mH) (n : Nat) (x1 x2 x3 x4 : Int32) : mH := setI (setI (setI (setI (setI (setI h 11 7 n x1) 11 8 n x2) 11 9 n x3) 11 10 n x4) 11 11 n (x2 * x3)) 10 0 2 (nI n + 1)
section CORE
variable {h h' hC0 hM : mH} {nT nJ nK nV nT' nJ' nK' : Nat} {vs : Nat → Nat}
theorem tkX_I {n : Nat} {x1 x2 x3 x4 : Int32} (e : hC h 6 = n) (k n' f : Nat) (q : ¬ (k = 6 ∧ n' = n)) : hI (tkX h n x1 x2 x3 x4) k n' f = hI h k n' f := by
  unfold tkX
  exact (hI_no fun z => q ⟨z.1, z.2.1⟩).trans ((hI_no fun z => q ⟨z.1, z.2.1⟩).trans ((hI_no fun z => q ⟨z.1, z.2.1⟩).trans ((hI_no fun z => q ⟨z.1, z.2.1⟩).trans ((hI_no fun z => q ⟨z.1, z.2.1⟩).trans ((hI_no fun z => q ⟨z.1, z.2.1⟩).trans (congrFun (newC_I (fun z => q ⟨z.1, z.2.trans e⟩)) f))))))
theorem tk_new (I : mI h nT nJ nK nV vs) (hT : nT < 4) {f a dp s : Nat} (h1 : f ≤ 500) (h2 : 1 ≤ a) (h3 : a ≤ 1000) (h4 : 1 ≤ dp) (h5 : dp ≤ 60) (h6 : s ≤ 500) (R : adR (tkX h nT (nI f) (nI a) (nI dp) (nI s)) hC0 0) (S : mSK hC0) (L : mCl hC0 0 6 (nT + 1) id) : mI (tkM hC0 nT (nI f) (nI a) (nI dp) (nI s)) (nT + 1) nJ nK nV vs := by
  obtain ⟨C, F, ca⟩ := I
  have e6 : hC h 6 = nT := C.2.2.2.1.1
  have X := fun k n f' q => tkX_I (h := h) (x1 := nI f) (x2 := nI a) (x3 := nI dp) (x4 := nI s) e6 k n f' q
  have A0 : ∀ k n f', k ≠ 13 → ¬ (k = 2 ∧ n = 0 ∧ (f' = 1 ∨ f' = 2)) → ¬ (k = 6 ∧ n = nT) → hI hC0 k n f' = hI h k n f' := fun k n f' q z y => (R.1 k n f' q z).trans (X k n f' y)
  have AP : ∀ k n f', k ≠ 13 → ¬ (k = 2 ∧ n = 0 ∧ f' = 0) → k ≠ 6 → hP hC0 k n f' = hP h k n f' := fun k n f' q z y => (R.2.1 k n f' q z).trans (hP_newk y)
  have A : ∀ k n f', k ≠ 13 → ¬ (k = 2 ∧ n = 0 ∧ (f' = 1 ∨ f' = 2)) → ¬ (k = 6 ∧ n = nT) → ¬ (k = 11 ∧ 7 ≤ n ∧ n ≤ 11 ∧ f' = nT) → ¬ (k = 10 ∧ n = 0 ∧ f' = 2) → hI (tkM hC0 nT (nI f) (nI a) (nI dp) (nI s)) k n f' = hI h k n f' := by
    intro k n f' q z y w u
    unfold tkM
    exact (hI_no fun z => u ⟨z.1, z.2.1, z.2.2⟩).trans ((hI_no fun z => w ⟨z.1, by omega, by omega, z.2.2⟩).trans ((hI_no fun z => w ⟨z.1, by omega, by omega, z.2.2⟩).trans ((hI_no fun z => w ⟨z.1, by omega, by omega, z.2.2⟩).trans ((hI_no fun z => w ⟨z.1, by omega, by omega, z.2.2⟩).trans ((hI_no fun z => w ⟨z.1, by omega, by omega, z.2.2⟩).trans (A0 k n f' q z y))))))
  have LX : mLi (tkX h nT (nI f) (nI a) (nI dp) (nI s)) nT nJ nK nV vs := mLi.nw C.2.2.1 (fun l => X 2 l 1 (by omega)) (fun l => hP_newk (by decide)) rfl (fun e => newC_L (h := h) (k := 6) (len := 0) (fun z => absurd z.1 (by decide))) (fun e i => hP_newk (by decide))
  obtain ⟨_, L1, L2, L3, LD⟩ := LX.ad (by omega) R
  have c7 : hC hC0 7 = nJ := (R.2.2.1 7 (by decide)).trans C.2.2.2.1.2.1
  have c8 : hC hC0 8 = nK := (R.2.2.1 8 (by decide)).trans C.2.2.2.1.2.2
  have c9 : hC hC0 9 = hC h 9 := R.2.2.1 9 (by decide)
  have c6 : hC hC0 6 = nT + 1 := (R.2.2.1 6 (by decide)).trans (show hC h 6 + 1 = nT + 1 by rw [e6])
  have D : mDj (tkM hC0 nT (nI f) (nI a) (nI dp) (nI s)) := LD
  have had : nI a * nI dp = nI (a * dp) := pk_mul _ _
  refine ⟨⟨S.of rfl, ⟨by omega, C.2.1.2⟩, ⟨L.of rfl rfl, (L1 (by decide)).of rfl rfl, (L2 (by decide)).of rfl rfl, (L3 (by decide)).of rfl rfl, D⟩, ⟨c6, c7, c8⟩, ⟨?_, ?_, ?_, ?_⟩, fun i hi => ?_, fun j hj => ?_, fun k hk => ?_, fun v hv => ?_, ?_, ⟨fun k hk => ?_, fun k q1 q2 => ?_⟩⟩, ⟨fun t ht => ?_, fun j hj => ?_, fun k hk => ?_, fun j hj => ?_⟩, ?_⟩
  · exact hI_eq.trans (nI_1 _)
  · exact (A 10 0 3 (by omega) (by omega) (by omega) (by omega) (by omega)).trans C.k3
  · exact (A 10 0 4 (by omega) (by omega) (by omega) (by omega) (by omega)).trans C.k4
  · exact (A 10 0 5 (by omega) (by omega) (by omega) (by omega) (by omega)).trans C.k5
  · by_cases q : i = nT
    · subst q
      have cell : ∀ f', f' < 8 → hI (tkM hC0 i (nI f) (nI a) (nI dp) (nI s)) 6 i f' = hI (tkX h i (nI f) (nI a) (nI dp) (nI s)) 6 i f' := fun f' _ => R.1 6 i f' (by omega) (by omega)
      have n0 : ∀ f', hI (newC h 6 0) 6 i f' = 0 := fun f' => by
        have := newC_I0 h 6 0 f'
        rw [e6] at this
        exact this
      have f0 := F.1 i (Nat.le_refl _)
      have a7 : hI (tkM hC0 i (nI f) (nI a) (nI dp) (nI s)) 11 7 i = nI f := (hI_nk (by decide)).trans ((hI_nn (by decide)).trans ((hI_nn (by decide)).trans ((hI_nn (by decide)).trans ((hI_nn (by decide)).trans hI_eq))))
      have a8 : hI (tkM hC0 i (nI f) (nI a) (nI dp) (nI s)) 11 8 i = nI a := (hI_nk (by decide)).trans ((hI_nn (by decide)).trans ((hI_nn (by decide)).trans ((hI_nn (by decide)).trans hI_eq)))
      have a9 : hI (tkM hC0 i (nI f) (nI a) (nI dp) (nI s)) 11 9 i = nI dp := (hI_nk (by decide)).trans ((hI_nn (by decide)).trans ((hI_nn (by decide)).trans hI_eq))
      have a10 : hI (tkM hC0 i (nI f) (nI a) (nI dp) (nI s)) 11 10 i = nI s := (hI_nk (by decide)).trans ((hI_nn (by decide)).trans hI_eq)
      have a11 : hI (tkM hC0 i (nI f) (nI a) (nI dp) (nI s)) 11 11 i = nI a * nI dp := (hI_nk (by decide)).trans hI_eq
      have a12 := (A 11 12 i (by omega) (by omega) (by omega) (by omega) (by omega)).trans f0.1
      have a13 := (A 11 13 i (by omega) (by omega) (by omega) (by omega) (by omega)).trans f0.2
      unfold mTk
      rw [a7, a8, a9, a10, a11, a12, a13, cell 0 (by omega), cell 1 (by omega), cell 2 (by omega), cell 3 (by omega), cell 4 (by omega), cell 5 (by omega), cell 6 (by omega), cell 7 (by omega)]
      refine ⟨(hI_nf (by decide)).trans ((hI_nf (by decide)).trans ((hI_nf (by decide)).trans ((hI_nf (by decide)).trans ((hI_nf (by decide)).trans hI_eq)))), ⟨(hI_nf (by decide)).trans ((hI_nf (by decide)).trans ((hI_nf (by decide)).trans ((hI_nf (by decide)).trans hI_eq))), (hI_nf (by decide)).trans ((hI_nf (by decide)).trans ((hI_nf (by decide)).trans hI_eq)), (hI_nf (by decide)).trans ((hI_nf (by decide)).trans hI_eq), (hI_nf (by decide)).trans hI_eq, hI_eq, ?_, ?_⟩, f, a, dp, s, a * dp, rfl, h1, rfl, h2, h3, rfl, h4, h5, rfl, h6, had, Nat.le_refl _⟩
      · exact (hI_nf (by decide)).trans ((hI_nf (by decide)).trans ((hI_nf (by decide)).trans ((hI_nf (by decide)).trans ((hI_nf (by decide)).trans ((hI_nf (by decide)).trans (n0 6))))))
      · exact (hI_nf (by decide)).trans ((hI_nf (by decide)).trans ((hI_nf (by decide)).trans ((hI_nf (by decide)).trans ((hI_nf (by decide)).trans ((hI_nf (by decide)).trans (n0 7))))))
    · exact (C.2.2.2.2.2.1 i (by omega)).c (fun f' => A 6 i f' (by omega) (by omega) (by omega) (by omega) (by omega)) (fun n _ _ => A 11 n i (by omega) (by omega) (by omega) (by omega) (by omega))
  · exact (C.2.2.2.2.2.2.1 j hj).c (fun f' => AP 7 j f' (by omega) (by omega) (by omega)) (fun f' => A 7 j f' (by omega) (by omega) (by omega) (by omega) (by omega)) (fun n _ _ => A 11 n j (by omega) (by omega) (by omega) (by omega) (by omega)) (A 12 0 j (by omega) (by omega) (by omega) (by omega) (by omega)) (fun a' _ => ⟨A 11 15 a' (by omega) (by omega) (by omega) (by omega) (by omega), A 12 0 a' (by omega) (by omega) (by omega) (by omega) (by omega)⟩) (fun k _ => A 11 21 k (by omega) (by omega) (by omega) (by omega) (by omega)) (by omega) (Nat.le_refl _)
  · exact (C.2.2.2.2.2.2.2.1 k hk).c (fun f' => A 8 k f' (by omega) (by omega) (by omega) (by omega) (by omega)) (AP 8 k 2 (by omega) (by omega) (by omega)) (fun n _ _ => A 11 n k (by omega) (by omega) (by omega) (by omega) (by omega)) (A 12 1 k (by omega) (by omega) (by omega) (by omega) (by omega)) (fun j _ _ => ⟨A 11 20 j (by omega) (by omega) (by omega) (by omega) (by omega), AP 7 j 9 (by omega) (by omega) (by omega)⟩) (Nat.le_refl _)
  · exact (C.2.2.2.2.2.2.2.2.1 v hv).c rfl (fun f' => A 9 (vs v) f' (by omega) (by omega) (by omega) (by omega) (by omega)) (fun n u _ _ _ => A 11 n u (by omega) (by omega) (by omega) (by omega) (by omega)) (by show hC h 9 ≤ hC hC0 9; omega) (Nat.le_refl _)
  · exact C.2.2.2.2.2.2.2.2.2.1.c (A 1 0 4 (by omega) (by omega) (by omega) (by omega) (by omega)) (fun f' _ => A 10 0 f' (by omega) (by omega) (by omega) (by omega) (by omega)) (A 0 0 6 (by omega) (by omega) (by omega) (by omega) (by omega)) (A 5 0 1 (by omega) (by omega) (by omega) (by omega) (by omega)) (fun n i _ => A 11 n i (by omega) (by omega) (by omega) (by omega) (by omega))
  · rw [A 1 0 3 (by omega) (by omega) (by omega) (by omega) (by omega), A 12 1 k (by omega) (by omega) (by omega) (by omega) (by omega)]
    exact C.2.2.2.2.2.2.2.2.2.2.1 k hk
  · rw [A 1 0 3 (by omega) (by omega) (by omega) (by omega) (by omega)]
    exact C.2.2.2.2.2.2.2.2.2.2.2 k q1 q2
  · rw [A 11 12 t (by omega) (by omega) (by omega) (by omega) (by omega), A 11 13 t (by omega) (by omega) (by omega) (by omega) (by omega)]
    exact F.1 t (by omega)
  · rw [A 12 0 j (by omega) (by omega) (by omega) (by omega) (by omega), A 11 19 j (by omega) (by omega) (by omega) (by omega) (by omega)]
    exact F.2.1 j hj
  · rw [A 12 1 k (by omega) (by omega) (by omega) (by omega) (by omega)]
    exact F.2.2.1 k hk
  · rw [A 7 j 7 (by omega) (by omega) (by omega) (by omega) (by omega)]
    exact F.2.2.2 j hj
  · have e : lkE (tkM hC0 nT (nI f) (nI a) (nI dp) (nI s)) (nT + 1) nJ nK = lkE h nT nJ nK := by
      funext X
      exact lkE_congr C (Nat.le_refl _) (Nat.le_succ _) (fun j _ => ⟨A 12 0 j (by omega) (by omega) (by omega) (by omega) (by omega), A 11 14 j (by omega) (by omega) (by omega) (by omega) (by omega), A 11 15 j (by omega) (by omega) (by omega) (by omega) (by omega), A 11 16 j (by omega) (by omega) (by omega) (by omega) (by omega), A 11 17 j (by omega) (by omega) (by omega) (by omega) (by omega), A 11 18 j (by omega) (by omega) (by omega) (by omega) (by omega)⟩) (fun X => nOw_same C (fun j _ => A 11 20 j (by omega) (by omega) (by omega) (by omega) (by omega)) (fun k _ => ⟨A 12 1 k (by omega) (by omega) (by omega) (by omega) (by omega), A 11 22 k (by omega) (by omega) (by omega) (by omega) (by omega)⟩) X) (fun t _ => ⟨A 11 11 t (by omega) (by omega) (by omega) (by omega) (by omega), A 11 7 t (by omega) (by omega) (by omega) (by omega) (by omega), A 11 8 t (by omega) (by omega) (by omega) (by omega) (by omega)⟩) (fun k _ => ⟨A 11 23 k (by omega) (by omega) (by omega) (by omega) (by omega), A 12 1 k (by omega) (by omega) (by omega) (by omega) (by omega), A 11 21 k (by omega) (by omega) (by omega) (by omega) (by omega)⟩) (fun k q1 q2 => by omega) (A 10 0 7 (by omega) (by omega) (by omega) (by omega) (by omega)) X
    have e2 : lkN (tkM hC0 nT (nI f) (nI a) (nI dp) (nI s)) nK = lkN h nK := lkN_congr (Nat.le_refl _) (fun k _ => A 11 23 k (by omega) (by omega) (by omega) (by omega) (by omega)) (fun k q1 q2 => by omega)
    unfold mCa
    rw [e, e2, A 10 0 55 (by omega) (by omega) (by omega) (by omega) (by omega), A 10 0 56 (by omega) (by omega) (by omega) (by omega) (by omega), A 10 0 57 (by omega) (by omega) (by omega) (by omega) (by omega), A 10 0 58 (by omega) (by omega) (by omega) (by omega) (by omega), A 10 0 59 (by omega) (by omega) (by omega) (by omega) (by omega), A 10 0 60 (by omega) (by omega) (by omega) (by omega) (by omega), A 10 0 61 (by omega) (by omega) (by omega) (by omega) (by omega)]
    exact ca
theorem op_tank {g : mG} {d : Nat} (I : mI h nT nJ nK nV vs) (x1 x2 x3 x4 : Int32) : mB g me_fn_tank me_fm_tank (d + 9) 2 84 [some (vr 0 0), some (vi x1), some (vi x2), some (vi x3), some (vi x4), none] [some (vr 10 0), some (vi x1), some (vi x2), some (vi x3), some (vi x4)] h := by
  have C := I.1
  have bT := C.2.1.1
  by_cases c1 : x1 < 0
  case pos => exact mB.ref I rf4 (-4) (fun Q K => v_fn_tank_0 (d := d + 2) _ _ _ _ C.1 ⟨fun _ => sp_refC (Q := fun y h => Q (some (vi y)) h) C.1 rf4 K, fun z => absurd c1 z⟩) (fun Q s K => v_fm_tank_0 (d := d + 7) _ _ _ _ s ⟨fun _ => sp_refM (Q := fun y h => Q (some (vi y)) h) s rf4 K, fun z => absurd c1 z⟩)
  by_cases c2 : x2 < 1
  case pos => exact mB.ref I rf4 (-4) (fun Q K => v_fn_tank_0 (d := d + 2) _ _ _ _ C.1 ⟨fun z => absurd z c1, fun _ => ⟨fun _ => sp_refC (Q := fun y h => Q (some (vi y)) h) C.1 rf4 K, fun z => absurd c2 z⟩⟩) (fun Q s K => v_fm_tank_0 (d := d + 7) _ _ _ _ s ⟨fun z => absurd z c1, fun _ => ⟨fun _ => sp_refM (Q := fun y h => Q (some (vi y)) h) s rf4 K, fun z => absurd c2 z⟩⟩)
  by_cases c3 : x3 < 1
  case pos => exact mB.ref I rf4 (-4) (fun Q K => v_fn_tank_0 (d := d + 2) _ _ _ _ C.1 ⟨fun z => absurd z c1, fun _ => ⟨fun z => absurd z c2, fun _ => ⟨fun _ => sp_refC (Q := fun y h => Q (some (vi y)) h) C.1 rf4 K, fun z => absurd c3 z⟩⟩⟩) (fun Q s K => v_fm_tank_0 (d := d + 7) _ _ _ _ s ⟨fun z => absurd z c1, fun _ => ⟨fun z => absurd z c2, fun _ => ⟨fun _ => sp_refM (Q := fun y h => Q (some (vi y)) h) s rf4 K, fun z => absurd c3 z⟩⟩⟩)
  by_cases c4 : 0 ≤ x4
  case neg => exact mB.ref I rf4 (-4) (fun Q K => v_fn_tank_0 (d := d + 2) _ _ _ _ C.1 ⟨fun z => absurd z c1, fun _ => ⟨fun z => absurd z c2, fun _ => ⟨fun z => absurd z c3, fun _ => ⟨fun z => absurd z c4, fun _ => sp_refC (Q := fun y h => Q (some (vi y)) h) C.1 rf4 K⟩⟩⟩⟩) (fun Q s K => v_fm_tank_0 (d := d + 7) _ _ _ _ s ⟨fun z => absurd z c1, fun _ => ⟨fun z => absurd z c2, fun _ => ⟨fun z => absurd z c3, fun _ => ⟨fun z => absurd z c4, fun _ => sp_refM (Q := fun y h => Q (some (vi y)) h) s rf4 K⟩⟩⟩⟩)
  by_cases c5 : 500 < x1
  case pos => exact mB.ref I rf6 (-6) (fun Q K => v_fn_tank_0 (d := d + 2) _ _ _ _ C.1 ⟨fun z => absurd z c1, fun _ => ⟨fun z => absurd z c2, fun _ => ⟨fun z => absurd z c3, fun _ => ⟨fun _ => ⟨fun _ => sp_refC (Q := fun y h => Q (some (vi y)) h) C.1 rf6 K, fun z => absurd c5 z⟩, fun z => absurd c4 z⟩⟩⟩⟩) (fun Q s K => v_fm_tank_0 (d := d + 7) _ _ _ _ s ⟨fun z => absurd z c1, fun _ => ⟨fun z => absurd z c2, fun _ => ⟨fun z => absurd z c3, fun _ => ⟨fun _ => ⟨fun _ => sp_refM (Q := fun y h => Q (some (vi y)) h) s rf6 K, fun z => absurd c5 z⟩, fun z => absurd c4 z⟩⟩⟩⟩)
  by_cases c6 : 1000 < x2
  case pos => exact mB.ref I rf6 (-6) (fun Q K => v_fn_tank_0 (d := d + 2) _ _ _ _ C.1 ⟨fun z => absurd z c1, fun _ => ⟨fun z => absurd z c2, fun _ => ⟨fun z => absurd z c3, fun _ => ⟨fun _ => ⟨fun z => absurd z c5, fun _ => ⟨fun _ => sp_refC (Q := fun y h => Q (some (vi y)) h) C.1 rf6 K, fun z => absurd c6 z⟩⟩, fun z => absurd c4 z⟩⟩⟩⟩) (fun Q s K => v_fm_tank_0 (d := d + 7) _ _ _ _ s ⟨fun z => absurd z c1, fun _ => ⟨fun z => absurd z c2, fun _ => ⟨fun z => absurd z c3, fun _ => ⟨fun _ => ⟨fun z => absurd z c5, fun _ => ⟨fun _ => sp_refM (Q := fun y h => Q (some (vi y)) h) s rf6 K, fun z => absurd c6 z⟩⟩, fun z => absurd c4 z⟩⟩⟩⟩)
  by_cases c7 : 60 < x3
  case pos => exact mB.ref I rf6 (-6) (fun Q K => v_fn_tank_0 (d := d + 2) _ _ _ _ C.1 ⟨fun z => absurd z c1, fun _ => ⟨fun z => absurd z c2, fun _ => ⟨fun z => absurd z c3, fun _ => ⟨fun _ => ⟨fun z => absurd z c5, fun _ => ⟨fun z => absurd z c6, fun _ => ⟨fun _ => sp_refC (Q := fun y h => Q (some (vi y)) h) C.1 rf6 K, fun z => absurd c7 z⟩⟩⟩, fun z => absurd c4 z⟩⟩⟩⟩) (fun Q s K => v_fm_tank_0 (d := d + 7) _ _ _ _ s ⟨fun z => absurd z c1, fun _ => ⟨fun z => absurd z c2, fun _ => ⟨fun z => absurd z c3, fun _ => ⟨fun _ => ⟨fun z => absurd z c5, fun _ => ⟨fun z => absurd z c6, fun _ => ⟨fun _ => sp_refM (Q := fun y h => Q (some (vi y)) h) s rf6 K, fun z => absurd c7 z⟩⟩⟩, fun z => absurd c4 z⟩⟩⟩⟩)
  by_cases c8 : x4 ≤ 500
  case neg => exact mB.ref I rf6 (-6) (fun Q K => v_fn_tank_0 (d := d + 2) _ _ _ _ C.1 ⟨fun z => absurd z c1, fun _ => ⟨fun z => absurd z c2, fun _ => ⟨fun z => absurd z c3, fun _ => ⟨fun _ => ⟨fun z => absurd z c5, fun _ => ⟨fun z => absurd z c6, fun _ => ⟨fun z => absurd z c7, fun _ => ⟨fun z => absurd z c8, fun _ => sp_refC (Q := fun y h => Q (some (vi y)) h) C.1 rf6 K⟩⟩⟩⟩, fun z => absurd c4 z⟩⟩⟩⟩) (fun Q s K => v_fm_tank_0 (d := d + 7) _ _ _ _ s ⟨fun z => absurd z c1, fun _ => ⟨fun z => absurd z c2, fun _ => ⟨fun z => absurd z c3, fun _ => ⟨fun _ => ⟨fun z => absurd z c5, fun _ => ⟨fun z => absurd z c6, fun _ => ⟨fun z => absurd z c7, fun _ => ⟨fun _ => sp_refM (Q := fun y h => Q (some (vi y)) h) s rf6 K, fun z => absurd (Int32.not_le.mp c8) z⟩⟩⟩⟩, fun z => absurd c4 z⟩⟩⟩⟩)
  by_cases c9 : nT < 4
  case neg => exact mB.ref I rf6 (-6) (fun Q K => v_fn_tank_0 (d := d + 2) _ _ _ _ C.1 ⟨fun z => absurd z c1, fun _ => ⟨fun z => absurd z c2, fun _ => ⟨fun z => absurd z c3, fun _ => ⟨fun _ => ⟨fun z => absurd z c5, fun _ => ⟨fun z => absurd z c6, fun _ => ⟨fun z => absurd z c7, fun _ => ⟨fun _ => ⟨fun z => absurd z (by rw [C.2.2.1.1.1]; exact nnlt (a := nT) (b := 4) (by omega) (by omega)), fun _ => sp_refC (Q := fun y h => Q (some (vi y)) h) C.1 rf6 K⟩, fun z => absurd c8 z⟩⟩⟩⟩, fun z => absurd c4 z⟩⟩⟩⟩) (fun Q s K => v_fm_tank_0 (d := d + 7) _ _ _ _ s ⟨fun z => absurd z c1, fun _ => ⟨fun z => absurd z c2, fun _ => ⟨fun z => absurd z c3, fun _ => ⟨fun _ => ⟨fun z => absurd z c5, fun _ => ⟨fun z => absurd z c6, fun _ => ⟨fun z => absurd z c7, fun _ => ⟨fun z => absurd z (Int32.not_lt.mpr c8), fun _ => ⟨fun z => absurd ((show hI (rfC h (-6)) 10 0 2 = nI nT from C.k2).trans (by rw [show nT = 4 by omega]; rfl)) z, fun _ => sp_refM (Q := fun y h => Q (some (vi y)) h) s rf6 K⟩⟩⟩⟩⟩, fun z => absurd c4 z⟩⟩⟩⟩)
  obtain ⟨f, _, h1, rfl⟩ := rng (lo := 0) (hi := 500) (Int32.not_lt.mp c1) (Int32.not_lt.mp c5) (by omega) (by omega)
  obtain ⟨a, h2, h3, rfl⟩ := rng (lo := 1) (hi := 1000) (Int32.not_lt.mp c2) (Int32.not_lt.mp c6) (by omega) (by omega)
  obtain ⟨dp, h4, h5, rfl⟩ := rng (lo := 1) (hi := 60) (Int32.not_lt.mp c3) (Int32.not_lt.mp c7) (by omega) (by omega)
  obtain ⟨s, _, h6, rfl⟩ := rng (lo := 0) (hi := 500) c4 c8 (by omega) (by omega)
  have e6 : hC h 6 = nT := C.2.2.2.1.1
  have cT : (nI nT).toNatClampNeg = nT := nc (by omega)
  have SX : mSK (tkX h nT (nI f) (nI a) (nI dp) (nI s)) := C.1.gen (fun k f r e => hP_newk (mst_no e).2.2.1) (fun k n l e => newC_L (h := h) fun z => (mln_no e).2.2.1 z.1) (fun k n f t r e p => Or.inl ((hP_newk (h := h) (mkn_no e).2.2.1).symm.trans p))
  have X := fun k n f' q => tkX_I (h := h) (x1 := nI f) (x2 := nI a) (x3 := nI dp) (x4 := nI s) e6 k n f' q
  have LX : mLi (tkX h nT (nI f) (nI a) (nI dp) (nI s)) nT nJ nK nV vs := mLi.nw C.2.2.1 (fun l => X 2 l 1 (by omega)) (fun l => hP_newk (by decide)) rfl (fun e => newC_L (h := h) (k := 6) (len := 0) (fun z => absurd z.1 (by decide))) (fun e i => hP_newk (by decide))
  refine mB.mkR (nI nT) (fun hC0 => adR (tkX h nT (nI f) (nI a) (nI dp) (nI s)) hC0 0 ∧ mSK hC0 ∧ mCl hC0 0 6 (nT + 1) id) (fun hC0 hM => hM = tkM hC0 nT (nI f) (nI a) (nI dp) (nI s)) (fun Q K => v_fn_tank_0 (d := d + 2) _ _ _ _ C.1 ⟨fun z => absurd z c1, fun _ => ⟨fun z => absurd z c2, fun _ => ⟨fun z => absurd z c3, fun _ => ⟨fun _ => ⟨fun z => absurd z c5, fun _ => ⟨fun z => absurd z c6, fun _ => ⟨fun z => absurd z c7, fun _ => ⟨fun _ => ⟨fun _ => ?_, fun z => absurd (by rw [C.2.2.1.1.1]; exact nlt (b := 4) c9 (by omega)) z⟩, fun z => absurd c8 z⟩⟩⟩⟩, fun z => absurd c4 z⟩⟩⟩⟩) (fun hC0 P => ⟨P.2.1, (P.1.2.2.2.2.1 14 0 (by decide)).trans (newC_L (h := h) (k := 6) (len := 0) (fun z => absurd z.1 (by decide))), fun f' => (P.1.1 14 0 f' (by decide) (by omega)).trans (X 14 0 f' (by omega))⟩) (fun hC0 P Q K => ?_) (fun hC0 hM P e => ⟨⟨nT + 1, nJ, nK, nV, vs, ?_⟩, by rw [e]; exact ⟨rfl, fun _ => rfl⟩⟩)
  · rw [e6, C.2.2.1.1.1]
    exact sp_add (d := d + 2) SX LX.1 (by omega) (by omega) (by omega) (fun _ _ => rfl) rfl fun h' R S L => ⟨_, rfl, S, K h' ⟨R, S, L⟩⟩
  · have e2 : hI hC0 10 0 2 = nI nT := ((P.1.1 10 0 2 (by decide) (by omega)).trans (X 10 0 2 (by omega))).trans C.k2
    have s := P.2.1
    refine v_fm_tank_0 (d := d + 7) _ _ _ _ s ⟨fun z => absurd z c1, fun _ => ⟨fun z => absurd z c2, fun _ => ⟨fun z => absurd z c3, fun _ => ⟨fun _ => ⟨fun z => absurd z c5, fun _ => ⟨fun z => absurd z c6, fun _ => ⟨fun z => absurd z c7, fun _ => ⟨fun z => absurd z (Int32.not_lt.mpr c8), fun _ => ⟨fun _ => ?_, fun z => absurd z (by rw [e2]; exact nne (b := 4) c9 (by omega))⟩⟩⟩⟩⟩, fun z => absurd c4 z⟩⟩⟩⟩
    have hin : vp_in (nI nT) 4 := nin c9 (by omega)
    rw [e2, cT, nI_1, n_sub1, ← nI_1]
    exact ⟨hin, hin, hin, hin, hin, K _ rfl⟩
  · rw [e]
    exact tk_new I c9 h1 h2 h3 h4 h5 h6 P.1 P.2.1 P.2.2
end CORE
