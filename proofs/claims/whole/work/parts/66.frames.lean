/-! the parts of the invariant, cell by cell; lists -/
section CORE
variable {h h' hx : mH} {nT nJ nK nV nT' nJ' nK' : Nat} {vs : Nat → Nat}
theorem mTk.c {i : Nat} (Z : mTk h i) (e6 : ∀ f, hI h' 6 i f = hI h 6 i f) (e11 : ∀ n, 7 ≤ n → n ≤ 13 → hI h' 11 n i = hI h 11 n i) : mTk h' i := by
  unfold mTk
  rw [e6 0, e6 1, e6 2, e6 3, e6 4, e6 5, e6 6, e6 7, e11 7 (by omega) (by omega), e11 8 (by omega) (by omega), e11 9 (by omega) (by omega), e11 10 (by omega) (by omega), e11 11 (by omega) (by omega), e11 12 (by omega) (by omega), e11 13 (by omega) (by omega)]
  exact Z
theorem mJn.c {j : Nat} (Z : mJn h nT nK j) (eP : ∀ f, hP h' 7 j f = hP h 7 j f) (e7 : ∀ f, hI h' 7 j f = hI h 7 j f) (e11 : ∀ n, 14 ≤ n → n ≤ 20 → hI h' 11 n j = hI h 11 n j) (e0 : hI h' 12 0 j = hI h 12 0 j) (ea : ∀ a, a < j → hI h' 11 15 a = hI h 11 15 a ∧ hI h' 12 0 a = hI h 12 0 a) (ek : ∀ k, k < nK → hI h' 11 21 k = hI h 11 21 k) (hT : nT ≤ nT') (hK : nK ≤ nK') : mJn h' nT' nK' j := by
  unfold mJn at Z ⊢
  rw [e7 0, e7 3, e7 4, e7 5, e7 6, e7 8, e11 14 (by omega) (by omega), e11 15 (by omega) (by omega), e11 16 (by omega) (by omega), e11 17 (by omega) (by omega), e11 18 (by omega) (by omega), e11 19 (by omega) (by omega), e11 20 (by omega) (by omega), e0, eP, eP, eP]
  obtain ⟨z0, ⟨t, t1, t2, t3⟩, za, z3, z4, z5, z6, zt, z8, zk⟩ := Z
  refine ⟨z0, ⟨t, by omega, t2, t3⟩, ?_, z3, z4, z5, z6, zt, z8, ?_⟩
  · rcases za with z | ⟨a, y1, y2, y3, y4, y5⟩
    · exact Or.inl z
    · exact Or.inr ⟨a, y1, y2, y3, by rw [(ea a y1).1]; exact y4, by rw [(ea a y1).2]; exact y5⟩
  · rcases zk with z | ⟨k, y1, y2, y3, y4⟩
    · exact Or.inl z
    · exact Or.inr ⟨k, by omega, y2, y3, by rw [ek k y1]; exact y4⟩
theorem mJe.c {k : Nat} (Z : mJe h nJ k) (e8 : ∀ f, hI h' 8 k f = hI h 8 k f) (p8 : hP h' 8 k 2 = hP h 8 k 2) (e11 : ∀ n, 21 ≤ n → n ≤ 23 → hI h' 11 n k = hI h 11 n k) (e1 : hI h' 12 1 k = hI h 12 1 k) (ej : ∀ j, j < nJ → hI h 11 20 j = nI k → hI h' 11 20 j = hI h 11 20 j ∧ hP h' 7 j 9 = hP h 7 j 9) (hJ : nJ ≤ nJ') : mJe h' nJ' k := by
  unfold mJe at Z ⊢
  rw [e8 0, e8 1, e8 3, e8 4, p8, e11 21 (by omega) (by omega), e11 22 (by omega) (by omega), e11 23 (by omega) (by omega), e1]
  obtain ⟨z0, z1, ⟨j, y1, y2, y3, y4, y5⟩, z⟩ := Z
  obtain ⟨w1, w2⟩ := ej j y1 y4
  exact ⟨z0, z1, ⟨j, by omega, y2, y3, w1.trans y4, w2.trans y5⟩, z⟩
theorem mVw.c {v : Nat} {vs' : Nat → Nat} (Z : mVw h nK vs v) (ev : vs' v = vs v) (e9 : ∀ f, hI h' 9 (vs v) f = hI h 9 (vs v) f) (e11 : ∀ n u, 24 ≤ n → n ≤ 27 → u ≤ v → hI h' 11 n u = hI h 11 n u) (hc : hC h 9 ≤ hC h' 9) (hK : nK ≤ nK') : mVw h' nK' vs' v := by
  unfold mVw at Z ⊢
  rw [ev, e9, e9, e9, e9, e11 24 v (by omega) (by omega) (Nat.le_refl _), e11 25 v (by omega) (by omega) (Nat.le_refl _), e11 26 v (by omega) (by omega) (Nat.le_refl _), e11 27 v (by omega) (by omega) (Nat.le_refl _)]
  obtain ⟨z1, z2, z3, z4, z5, z6, z7, z8, b, z9, z10⟩ := Z
  refine ⟨z1, z2, z3, z4, z5, fun u hu => ?_, by omega, z8, b, by omega, z10⟩
  rw [e11 26 u (by omega) (by omega) (by omega)]
  exact z6 u hu
theorem mSc.c (Z : mSc h) (a : hI h' 1 0 4 = hI h 1 0 4) (b : ∀ f, f = 1 ∨ f = 6 ∨ f = 7 → hI h' 10 0 f = hI h 10 0 f) (c : hI h' 0 0 6 = hI h 0 0 6) (e : hI h' 5 0 1 = hI h 5 0 1) (r : ∀ n i, n = 5 ∨ n = 6 → hI h' 11 n i = hI h 11 n i) : mSc h' := by
  unfold mSc at Z ⊢
  rw [a, b 1 (by omega), c, b 6 (by omega), e, b 7 (by omega)]
  exact ⟨Z.1, Z.2.1, Z.2.2.1, fun i hi => by rw [r 5 i (by omega), r 6 i (by omega)]; exact Z.2.2.2 i hi⟩
def mLi (h : mH) (nT nJ nK nV : Nat) (vs : Nat → Nat) : Prop := mCl h 0 6 nT id ∧ mCl h 1 7 nJ id ∧ mCl h 2 8 nK id ∧ mCl h 3 9 nV vs ∧ mDj h
theorem mCl.nw {l k n : Nat} {f : Nat → Nat} (C : mCl h l k n f) (eI : ∀ l, hI hx 2 l 1 = hI h 2 l 1) (eP : ∀ l, hP hx 2 l 0 = hP h 2 l 0) (eC : hC hx 13 = hC h 13) (eL : ∀ e, hL hx 13 e = hL h 13 e) (eR : ∀ e i, hP hx 13 e i = hP h 13 e i) : mCl hx l k n f := by
  unfold mCl at C ⊢
  rw [eI, eP, eC]
  refine ⟨C.1, C.2.1, ?_⟩
  rcases C.2.2 with q | ⟨e, q1, q2, q3, q4⟩
  · exact Or.inl q
  · exact Or.inr ⟨e, q1, q2, by rw [eL]; exact q3, fun i hi => by rw [eR]; exact q4 i hi⟩
theorem mLi.nw (L : mLi h nT nJ nK nV vs) (eI : ∀ l, hI hx 2 l 1 = hI h 2 l 1) (eP : ∀ l, hP hx 2 l 0 = hP h 2 l 0) (eC : hC hx 13 = hC h 13) (eL : ∀ e, hL hx 13 e = hL h 13 e) (eR : ∀ e i, hP hx 13 e i = hP h 13 e i) : mLi hx nT nJ nK nV vs :=
  ⟨L.1.nw eI eP eC eL eR, L.2.1.nw eI eP eC eL eR, L.2.2.1.nw eI eP eC eL eR, L.2.2.2.1.nw eI eP eC eL eR, fun l l' e e' a b c d => by
    rw [eP] at c d
    exact L.2.2.2.2 l l' e e' a b c d⟩
theorem mCl.row {l k n e : Nat} {f : Nat → Nat} (C : mCl h l k n f) (p : hP h 2 l 0 = some (13, e)) : e < hC h 13 := by
  rcases C.2.2 with ⟨_, q⟩ | ⟨e', q1, q2, _⟩
  · rw [q] at p; cases p
  · rw [q1] at p; cases p; exact q2
theorem mLi.row (L : mLi h nT nJ nK nV vs) {l e : Nat} (hl : l < 4) (p : hP h 2 l 0 = some (13, e)) : e < hC h 13 := by
  have : l = 0 ∨ l = 1 ∨ l = 2 ∨ l = 3 := by omega
  rcases this with rfl | rfl | rfl | rfl
  · exact L.1.row p
  · exact L.2.1.row p
  · exact L.2.2.1.row p
  · exact L.2.2.2.1.row p
theorem mCl.ad {l l' k n : Nat} {f : Nat → Nat} (C : mCl h l' k n f) (R : adR h h' l) (hne : l' ≠ l) (dj : ∀ e, hP h 2 l' 0 = some (13, e) → hP h 2 l 0 ≠ some (13, e)) : mCl h' l' k n f := by
  obtain ⟨r1, r2, r3, r4, r5, r6, r7, r8⟩ := R
  unfold mCl at C ⊢
  rw [r1 2 l' 1 (by omega) (by omega), r2 2 l' 0 (by omega) (by omega)]
  refine ⟨C.1, C.2.1, ?_⟩
  rcases C.2.2 with q | ⟨e, q1, q2, q3, q4⟩
  · exact Or.inl q
  · exact Or.inr ⟨e, q1, by omega, by rw [r6 e q2]; exact q3, fun i hi => by rw [r7 e i q2 (dj e q1)]; exact q4 i hi⟩
theorem mLi.ad (L : mLi h nT nJ nK nV vs) {l : Nat} (hl : l < 4) (R : adR h h' l) : (l ≠ 0 → mCl h' 0 6 nT id) ∧ (l ≠ 1 → mCl h' 1 7 nJ id) ∧ (l ≠ 2 → mCl h' 2 8 nK id) ∧ (l ≠ 3 → mCl h' 3 9 nV vs) ∧ mDj h' := by
  have dj : ∀ l', l' < 4 → l' ≠ l → ∀ e, hP h 2 l' 0 = some (13, e) → hP h 2 l 0 ≠ some (13, e) := fun l' a b e p q => L.2.2.2.2 l' l e e a hl p q b rfl
  refine ⟨fun q => L.1.ad R (fun z => q z.symm) (dj 0 (by omega) (fun z => q z.symm)), fun q => L.2.1.ad R (fun z => q z.symm) (dj 1 (by omega) (fun z => q z.symm)), fun q => L.2.2.1.ad R (fun z => q z.symm) (dj 2 (by omega) (fun z => q z.symm)), fun q => L.2.2.2.1.ad R (fun z => q z.symm) (dj 3 (by omega) (fun z => q z.symm)), ?_⟩
  have D := L.2.2.2.2
  have row := fun {l' e} (a : l' < 4) (p : hP h 2 l' 0 = some (13, e)) => L.row a p
  obtain ⟨r1, r2, r3, r4, r5, r6, r7, r8⟩ := R
  intro a b e e' ha hb p p' ne
  by_cases qa : a = l
  · subst qa
    rw [r2 2 b 0 (by omega) (by omega)] at p'
    have eb := row hb p'
    rcases r8 e p with z | z
    · exact D a b e e' ha hb z p' ne
    · omega
  · rw [r2 2 a 0 (by omega) (by omega)] at p
    have ea := row ha p
    by_cases qb : b = l
    · subst qb
      rcases r8 e' p' with z | z
      · exact D a b e e' ha hb p z ne
      · omega
    · rw [r2 2 b 0 (by omega) (by omega)] at p'
      exact D a b e e' ha hb p p' ne
theorem mLi.of (L : mLi h nT nJ nK nV vs) (e : h'.1 = h.1) (eI : ∀ l, hI h' 2 l 1 = hI h 2 l 1) : mLi h' nT nJ nK nV vs := L.nw eI (fun _ => hP_of e _ _ _) (hC_of e _) (fun _ => by unfold hL; rw [e]) (fun _ _ => hP_of e _ _ _)
/-- the cells that the class touches when it builds one -/
def nwA (kx l k n0 n f : Nat) : Prop := k ≠ 13 ∧ ¬ (k = 2 ∧ n = l ∧ (f = 1 ∨ f = 2)) ∧ ¬ (k = kx ∧ n = n0)
end CORE
