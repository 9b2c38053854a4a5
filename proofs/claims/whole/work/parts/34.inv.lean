/-! what a look at the leaks finds; the invariant -/
theorem bld_congr {F G : (Nat → Int32) → Nat → Int32} : ∀ n, (∀ X j, j < n → F X j = G X j) → bld F n = bld G n
  | 0, _ => rfl
  | n + 1, h => by
    unfold bld
    rw [bld_congr n (fun X j hj => h X j (by omega)), h _ n (by omega)]
/-- two heaps in which the model runs alike -/
def mEq (a b : mH) (nJ : Nat) : Prop := ∀ j, j < nJ → (hI a 12 0 j = hI b 12 0 j ∧ hI a 11 14 j = hI b 11 14 j ∧ hI a 11 15 j = hI b 11 15 j ∧ hI a 11 16 j = hI b 11 16 j ∧ hI a 11 17 j = hI b 11 17 j ∧ hI a 11 18 j = hI b 11 18 j) ∧ nOw a j = nOw b j ∧ hI a 11 33 (nF b j) = hI b 11 33 (nF b j) ∧ hI a 11 7 (nF b j) = hI b 11 7 (nF b j) ∧ hI a 11 8 (nF b j) = hI b 11 8 (nF b j)
theorem mEq.fl {a b : mH} {nJ : Nat} (E : mEq a b nJ) : mFlw a nJ = mFlw b nJ := by
  unfold mFlw
  refine flR_congr nJ _ fun j hj => ?_
  obtain ⟨⟨e1, e2, e3, e4, e5, e6⟩, e7, _⟩ := E j hj
  exact ⟨by unfold nEm; rw [e1], by unfold nA; rw [e2], by unfold nF; rw [e3], e7⟩
theorem mEq.ls {a b : mH} {nJ : Nat} (E : mEq a b nJ) (fl : Nat → Int32) : mLs a fl nJ = mLs b fl nJ := by
  unfold mLs
  refine bld_congr nJ fun X j hj => ?_
  obtain ⟨⟨e1, e2, e3, e4, e5, e6⟩, _⟩ := E j hj
  unfold nLo nLs nEm nA
  rw [e1, e2, e5, e6]
theorem mEq.hd {a b : mH} {nT nT' nJ j : Nat} (E : mEq a b nJ) (hj : j < nJ) : hI (rnC a nT nJ) 11 31 j = hI (rnC b nT' nJ) 11 31 j := by
  unfold rnC
  rw [rnH_31 hj, rnH_31 hj, E.fl, E.ls]
  obtain ⟨⟨e1, e2, e3, e4, e5, e6⟩, e7, e8, e9, e10⟩ := E j hj
  have eF : nF a j = nF b j := by unfold nF; rw [e3]
  unfold nHd nEm
  rw [eF, e1, e4, e8, e9, e10]
theorem mEq.rs {a b : mH} {nT nT' nJ k : Nat} (E : mEq a b nJ) (h1 : hI a 12 2 k = hI b 12 2 k) (h2 : hI a 11 21 k = hI b 11 21 k) (hk : nP b k < nJ) : nRs (rnC a nT nJ) k = nRs (rnC b nT' nJ) k := by
  have e1 : nP (rnC a nT nJ) k = nP b k := by unfold nP; rw [show hI (rnC a nT nJ) 11 21 k = hI a 11 21 k from rfl, h2]
  have e2 : nP (rnC b nT' nJ) k = nP b k := rfl
  unfold nRs
  rw [e1, e2, E.hd (nT' := nT') hk, show hI (rnC a nT nJ) 12 2 k = hI a 12 2 k from rfl, show hI (rnC b nT' nJ) 12 2 k = hI b 12 2 k from rfl, h1]
/-- leaks as tried, all else as it is -/
def exH (h : mH) (nT nJ nK : Nat) (X : Nat → Nat) : mH := fillI (asIs h nT nJ nK) 11 28 nJ (fun j => nI (X j))
def iAb (x : Int32) : Int32 := if 0 ≤ x then x else 0 - x
def lkE (h : mH) (nT nJ nK : Nat) (X : Nat → Nat) : Bool := decide (∀ k, k < nK → hI h 11 23 k < 0 ∨ ¬ hI h 10 0 7 < iAb (nRs (rnC (exH h nT nJ nK X) nT nJ) k - hI h 11 23 k))
def lkN (h : mH) (nK : Nat) : Bool := decide (∃ k, k < nK ∧ ¬ hI h 11 23 k < 0)
/-- the first that is so -/
def fsN (p : Nat → Bool) : Nat → Nat → Option Nat
  | _, 0 => none
  | lo, n + 1 => if p lo = true then some lo else fsN p (lo + 1) n
def cnt (p : Nat → Bool) : Nat → Nat
  | 0 => 0
  | n + 1 => cnt p n + (if p n = true then 1 else 0)
def oneX (j v : Nat) : Nat → Nat := fun a => if a = j then v else 0
def twoX (i j v w : Nat) : Nat → Nat := fun a => if a = i then v else if a = j then w else 0
def alV (E : (Nat → Nat) → Bool) (j : Nat) : Option Nat := fsN (fun v => E (oneX j v)) 1 60
def al1 (E : (Nat → Nat) → Bool) (nJ : Nat) : Option Nat := fsN (fun j => (alV E j).isSome) 0 nJ
def twV (E : (Nat → Nat) → Bool) (i j v : Nat) : Option Nat := fsN (fun w => E (twoX i j v w)) 1 12
def tw2 (E : (Nat → Nat) → Bool) (i j : Nat) : Option Nat := fsN (fun v => (twV E i j v).isSome) 1 12
def pr2 (E : (Nat → Nat) → Bool) (nJ i : Nat) : Option Nat := fsN (fun j => (tw2 E i j).isSome) (i + 1) (nJ - (i + 1))
def pr1 (E : (Nat → Nat) → Bool) (nJ : Nat) : Option Nat := fsN (fun i => (pr2 E nJ i).isSome) 0 nJ
abbrev L5 : Type := Int32 × Int32 × Int32 × Int32 × Int32
def lk5 (E : (Nat → Nat) → Bool) (nJ : Nat) : L5 :=
  if E (fun _ => 0) = true then (0, -9, -9, -9, -9) else match al1 E nJ with
    | some j => (1, nI j, nI ((alV E j).getD 0), -9, -9)
    | none => match pr1 E nJ with
      | some i => (2, nI i, nI ((tw2 E i ((pr2 E nJ i).getD 0)).getD 0), nI ((pr2 E nJ i).getD 0), nI ((twV E i ((pr2 E nJ i).getD 0) ((tw2 E i ((pr2 E nJ i).getD 0)).getD 0)).getD 0))
      | none => (3, -9, -9, -9, -9)
def lkF (E : (Nat → Nat) → Bool) (nJ : Nat) (any : Bool) : L5 × Int32 :=
  if any = true then (lk5 E nJ, nI (cnt (fun j => (alV E j).isSome) nJ)) else ((4, -9, -9, -9, -9), 0)
def mCa (h : mH) (nT nJ nK : Nat) : Prop := hI h 10 0 55 = 0 ∨ (¬ hI h 10 0 55 = 0 ∧ ((hI h 10 0 56, hI h 10 0 57, hI h 10 0 58, hI h 10 0 59, hI h 10 0 60), hI h 10 0 61) = lkF (lkE h nT nJ nK) nJ (lkN h nK))
def mFr (h : mH) (nT nJ nK : Nat) : Prop := (∀ t, nT ≤ t → hI h 11 12 t = 0 ∧ hI h 11 13 t = 0) ∧ (∀ j, nJ ≤ j → hI h 12 0 j = 0 ∧ hI h 11 19 j = 0) ∧ (∀ k, nK ≤ k → hI h 12 1 k = 0) ∧ ∀ j, j < nJ → hI h 7 j 7 = 0
/-- THE INVARIANT -/
def mI (h : mH) (nT nJ nK nV : Nat) (vs : Nat → Nat) : Prop := mCore h nT nJ nK nV vs ∧ mFr h nT nJ nK ∧ mCa h nT nJ nK
def mInv (h : mH) : Prop := ∃ nT nJ nK nV vs, mI h nT nJ nK nV vs
/-- all of the invariant is kept -/
def relA (k n f : Nat) : Bool := rel k n f || (match k with
  | 7 => f == 7
  | 10 => Nat.ble 55 f && Nat.ble f 61
  | _ => false)
def sameA (h h' : mH) : Prop := h'.1 = h.1 ∧ ∀ k n f, relA k n f = true → hI h' k n f = hI h k n f
theorem sameA.R {h h' : mH} (x : sameA h h') : sameR h h' := ⟨x.1, fun k n f r => x.2 k n f (by unfold relA; rw [r]; rfl)⟩
theorem sameA.rf {h : mH} : sameA h h := ⟨rfl, fun _ _ _ _ => rfl⟩
theorem sameA.tr {a b c : mH} (x : sameA a b) (y : sameA b c) : sameA a c := ⟨y.1.trans x.1, fun k n f r => (y.2 k n f r).trans (x.2 k n f r)⟩
theorem sameA.fI {a h : mH} {k n m : Nat} {F : Nat → Int32} (x : sameA a h) (hn : ∀ f, relA k n f = false) : sameA a (fillI h k n m F) := x.tr ⟨rfl, fun k' n' f' r => if_neg (fun z => by rw [z.1, z.2.1, hn] at r; cases r)⟩
theorem sameA.fF {a h : mH} {k f m : Nat} {F : Nat → Int32} (x : sameA a h) (hn : ∀ n, relA k n f = false) : sameA a (fillF h k f m F) := x.tr ⟨rfl, fun k' n' f' r => if_neg (fun z => by rw [z.1, z.2.1, hn] at r; cases r)⟩
theorem sameA.sI {a h : mH} {k n f : Nat} {v : Int32} (x : sameA a h) (hn : relA k n f = false) : sameA a (setI h k n f v) := x.tr ⟨rfl, fun k' n' f' r => if_neg (fun z => by rw [z.1, z.2.1, z.2.2, hn] at r; cases r)⟩
theorem sameA.rk (h : mH) (nT nJ : Nat) (js tr : Int32) : sameA h (rkH h nT nJ js tr) := by
  unfold rkH wF
  exact ((sameA.rf.fF (fun n => rfl)).fF (fun n => rfl)).fF (fun n => rfl)
theorem sameA.rn (h : mH) (nT nJ : Nat) (s : (Nat → Int32) × (Nat → Int32)) (L : Nat → Int32) : sameA h (rnH h nT nJ s L) := by
  unfold rnH m2H mW
  exact ((((sameA.rf.fI (fun n => rfl)).fI (fun n => rfl)).fI (fun n => rfl)).fI (fun n => rfl)).fI (fun n => rfl)
theorem sameA.as (h : mH) (nT nJ nK : Nat) : sameA h (asIs h nT nJ nK) := by
  unfold asIs
  exact ((sameA.rf.fI (fun n => rfl)).fI (fun n => rfl)).fI (fun n => rfl)
theorem sameA.se (h : mH) (nT nJ nK : Nat) : sameA h (seH h nT nJ nK) := (sameA.as h nT nJ nK).tr (sameA.rn _ _ _ _ _)
section CORE
variable {h hm : mH} {nT nJ nK nV : Nat} {vs : Nat → Nat}
theorem exH_28 {X : Nat → Nat} {j : Nat} (hj : j < nJ) : hI (exH h nT nJ nK X) 11 28 j = nI (X j) := if_pos ⟨rfl, rfl, hj⟩
theorem exH_on {X : Nat → Nat} {k : Nat} (hk : k < nK) : hI (exH h nT nJ nK X) 12 2 k = hI h 12 1 k := if_pos ⟨rfl, rfl, hk⟩
theorem exH_33 {X : Nat → Nat} {t : Nat} (ht : t < nT) : hI (exH h nT nJ nK X) 11 33 t = hI h 11 11 t := if_pos ⟨rfl, rfl, ht⟩
/-- what is explained stays so where the gardens are alike -/
theorem lkE_congr {h' : mH} {nT' nK' : Nat} (C : mCore h nT nJ nK nV vs) (hK : nK ≤ nK') (hT : nT ≤ nT')
    (hj : ∀ j, j < nJ → hI h' 12 0 j = hI h 12 0 j ∧ hI h' 11 14 j = hI h 11 14 j ∧ hI h' 11 15 j = hI h 11 15 j ∧ hI h' 11 16 j = hI h 11 16 j ∧ hI h' 11 17 j = hI h 11 17 j ∧ hI h' 11 18 j = hI h 11 18 j)
    (hd : ∀ (X : Nat → Nat) j, j < nJ → nOw (exH h' nT' nJ nK' X) j = nOw (exH h nT nJ nK X) j)
    (ht : ∀ t, t < nT → hI h' 11 11 t = hI h 11 11 t ∧ hI h' 11 7 t = hI h 11 7 t ∧ hI h' 11 8 t = hI h 11 8 t)
    (hk : ∀ k, k < nK → hI h' 11 23 k = hI h 11 23 k ∧ hI h' 12 1 k = hI h 12 1 k ∧ hI h' 11 21 k = hI h 11 21 k) (hk2 : ∀ k, nK ≤ k → k < nK' → hI h' 11 23 k < 0) (hto : hI h' 10 0 7 = hI h 10 0 7) (X : Nat → Nat) : lkE h' nT' nJ nK' X = lkE h nT nJ nK X := by
  have E : mEq (exH h' nT' nJ nK' X) (exH h nT nJ nK X) nJ := by
    intro j hj1
    have f1 := (C.nF_lt hj1).1
    have f2 : nF (exH h nT nJ nK X) j = nF h j := rfl
    obtain ⟨t1, t2, t3⟩ := ht _ f1
    refine ⟨hj j hj1, hd X j hj1, ?_, ?_, ?_⟩
    · rw [f2, exH_33 f1, exH_33 (by omega), t1]
    · rw [f2]; exact t2
    · rw [f2]; exact t3
  have key : ∀ k, k < nK → nRs (rnC (exH h' nT' nJ nK' X) nT' nJ) k = nRs (rnC (exH h nT nJ nK X) nT nJ) k := by
    intro k kl
    obtain ⟨k1, k2, k3⟩ := hk k kl
    refine E.rs ?_ k3 (C.nP_lt kl).1
    rw [exH_on kl, exH_on (by omega), k2]
  unfold lkE
  refine decide_eq_decide.mpr ⟨fun z k kl => ?_, fun z k kl => ?_⟩
  · have := z k (by omega)
    rw [key k kl, (hk k kl).1, hto] at this
    exact this
  · by_cases q : k < nK
    · rw [key k q, (hk k q).1, hto]
      exact z k q
    · exact Or.inl (hk2 k (by omega) kl)
theorem lkN_congr {h' : mH} {nK' : Nat} (hK : nK ≤ nK') (hk : ∀ k, k < nK → hI h' 11 23 k = hI h 11 23 k) (hk2 : ∀ k, nK ≤ k → k < nK' → hI h' 11 23 k < 0) : lkN h' nK' = lkN h nK := by
  unfold lkN
  refine decide_eq_decide.mpr ⟨fun ⟨k, k1, k2⟩ => ?_, fun ⟨k, k1, k2⟩ => ⟨k, by omega, by rw [hk k k1]; exact k2⟩⟩
  by_cases q : k < nK
  · exact ⟨k, q, by rw [← hk k q]; exact k2⟩
  · exact absurd (hk2 k (by omega) k1) k2
theorem nOw_same {h' : mH} {nT' : Nat} (C : mCore h nT nJ nK nV vs) (h20 : ∀ j, j < nJ → hI h' 11 20 j = hI h 11 20 j) (hk : ∀ k, k < nK → hI h' 12 1 k = hI h 12 1 k ∧ hI h' 11 22 k = hI h 11 22 k) (X : Nat → Nat) : ∀ j, j < nJ → nOw (exH h' nT' nJ nK X) j = nOw (exH h nT nJ nK X) j := by
  intro j hj
  have bK := C.2.1.2.2.1
  unfold nOw
  rw [exH_28 hj, exH_28 hj, show hI (exH h' nT' nJ nK X) 11 20 j = hI h' 11 20 j from rfl, show hI (exH h nT nJ nK X) 11 20 j = hI h 11 20 j from rfl, h20 j hj]
  obtain ⟨_, _, q, _⟩ := C.ms j hj
  rcases q with q | ⟨k, kl, q⟩
  · rw [q, if_pos (by decide), if_pos (by decide)]
  · rw [q, if_neg (nnneg (by omega)), if_neg (nnneg (by omega)), nc (by omega), exH_on kl, exH_on kl, (hk k kl).1]
    show _ + (if _ then 0 else hI h' 11 22 k) = _ + (if _ then 0 else hI h 11 22 k)
    rw [(hk k kl).2]
/-- what the rest of the invariant looks at -/
def relB (k n f : Nat) : Bool := match k with
  | 7 => f == 7
  | 10 => f == 7 || (Nat.ble 55 f && Nat.ble f 61)
  | 11 => Nat.ble 7 n && Nat.ble n 23
  | 12 => Nat.ble n 1
  | _ => false
def sameB (h h' : mH) : Prop := ∀ k n f, relB k n f = true → hI h' k n f = hI h k n f
theorem sameB.rf {h : mH} : sameB h h := fun _ _ _ _ => rfl
theorem sameB.sI {a h : mH} {k n f : Nat} {v : Int32} (x : sameB a h) (hn : relB k n f = false) : sameB a (setI h k n f v) := fun k' n' f' r => (if_neg (fun z => by rw [z.1, z.2.1, z.2.2, hn] at r; cases r)).trans (x k' n' f' r)
theorem sameB.sP {a h : mH} {k n f : Nat} {v : Option (Nat × Nat)} (x : sameB a h) : sameB a (setP h k n f v) := x
theorem relB_A {k n f : Nat} (h : relB k n f = true) : relA k n f = true := by
  unfold relB at h
  unfold relA rel
  split at h
  · rw [h]; simp
  · simp only [Bool.or_eq_true, Bool.and_eq_true, beq_iff_eq, Nat.ble_eq, Nat.blt_eq] at h ⊢
    omega
  · simp only [Bool.or_eq_true, Bool.and_eq_true, beq_iff_eq, Nat.ble_eq, Nat.blt_eq] at h ⊢
    omega
  · rw [h]; rfl
  · cases h
theorem sameA.B {h h' : mH} (x : sameA h h') : sameB h h' := fun k n f r => x.2 k n f (relB_A r)
theorem lkE_same (C : mCore h nT nJ nK nV vs) (R : sameB h hm) (X : Nat → Nat) : lkE hm nT nJ nK X = lkE h nT nJ nK X := by
  refine lkE_congr C (Nat.le_refl _) (Nat.le_refl _) (fun j _ => ⟨R 12 0 j rfl, R 11 14 j rfl, R 11 15 j rfl, R 11 16 j rfl, R 11 17 j rfl, R 11 18 j rfl⟩) (fun X => nOw_same C (fun j _ => R 11 20 j rfl) (fun k _ => ⟨R 12 1 k rfl, R 11 22 k rfl⟩) X) (fun t _ => ⟨R 11 11 t rfl, R 11 7 t rfl, R 11 8 t rfl⟩) (fun k _ => ⟨R 11 23 k rfl, R 12 1 k rfl, R 11 21 k rfl⟩) (fun k q1 q2 => by omega) (R 10 0 7 rfl) X
theorem mFr.of (F : mFr h nT nJ nK) (R : sameB h hm) : mFr hm nT nJ nK := by
  obtain ⟨f1, f2, f3, f4⟩ := F
  refine ⟨fun t ht => ?_, fun j hj => ?_, fun k hk => ?_, fun j hj => ?_⟩
  · rw [R 11 12 t rfl, R 11 13 t rfl]; exact f1 t ht
  · rw [R 12 0 j rfl, R 11 19 j rfl]; exact f2 j hj
  · rw [R 12 1 k rfl]; exact f3 k hk
  · rw [R 7 j 7 rfl]; exact f4 j hj
theorem mI.to (I : mI h nT nJ nK nV vs) (C' : mCore hm nT nJ nK nV vs) (R : sameB h hm) : mI hm nT nJ nK nV vs := by
  obtain ⟨C, F, ca⟩ := I
  refine ⟨C', F.of R, ?_⟩
  unfold mCa
  rw [R 10 0 55 rfl, R 10 0 56 rfl, R 10 0 57 rfl, R 10 0 58 rfl, R 10 0 59 rfl, R 10 0 60 rfl, R 10 0 61 rfl, show lkE hm nT nJ nK = lkE h nT nJ nK from funext (lkE_same C R), lkN_congr (Nat.le_refl _) (fun k _ => R 11 23 k rfl) (fun k q1 q2 => by omega)]
  exact ca
theorem mI.of (I : mI h nT nJ nK nV vs) (R : sameA h hm) : mI hm nT nJ nK nV vs := I.to (I.1.of R.R) R.B
end CORE
