/-! what may change without touching the core; runs on a core heap -/
def rel (k n f : Nat) : Bool := match k with
  | 0 => f == 6
  | 1 => f == 3 || f == 4
  | 2 => f == 1
  | 5 => f == 1
  | 6 => Nat.blt f 8
  | 7 => Nat.blt f 7 || f == 8
  | 8 => true
  | 9 => true
  | 10 => Nat.blt f 8
  | 11 => Nat.ble 5 n && Nat.ble n 27
  | 12 => Nat.ble n 1
  | 14 => true
  | _ => false
def sameR (h h' : mH) : Prop := h'.1 = h.1 ∧ ∀ k n f, rel k n f = true → hI h' k n f = hI h k n f
theorem sameR.rf {h : mH} : sameR h h := ⟨rfl, fun _ _ _ _ => rfl⟩
theorem sameR.tr {a b c : mH} (x : sameR a b) (y : sameR b c) : sameR a c := ⟨y.1.trans x.1, fun k n f r => (y.2 k n f r).trans (x.2 k n f r)⟩
theorem sameR.fI {a h : mH} {k n m : Nat} {F : Nat → Int32} (x : sameR a h) (hn : ∀ f, rel k n f = false) : sameR a (fillI h k n m F) := x.tr ⟨rfl, fun k' n' f' r => if_neg (fun z => by rw [z.1, z.2.1, hn] at r; cases r)⟩
theorem sameR.fF {a h : mH} {k f m : Nat} {F : Nat → Int32} (x : sameR a h) (hn : ∀ n, rel k n f = false) : sameR a (fillF h k f m F) := x.tr ⟨rfl, fun k' n' f' r => if_neg (fun z => by rw [z.1, z.2.1, hn] at r; cases r)⟩
theorem sameR.sI {a h : mH} {k n f : Nat} {v : Int32} (x : sameR a h) (hn : rel k n f = false) : sameR a (setI h k n f v) := x.tr ⟨rfl, fun k' n' f' r => if_neg (fun z => by rw [z.1, z.2.1, z.2.2, hn] at r; cases r)⟩
theorem hP_of {h h' : mH} (e : h'.1 = h.1) (k n f : Nat) : hP h' k n f = hP h k n f := by unfold hP; rw [e]
theorem hC_of {h h' : mH} (e : h'.1 = h.1) (k : Nat) : hC h' k = hC h k := by unfold hC; rw [e]
theorem mCore.of {h h' : mH} {nT nJ nK nV : Nat} {vs : Nat → Nat} (C : mCore h nT nJ nK nV vs) (R : sameR h h') : mCore h' nT nJ nK nV vs := by
  obtain ⟨e, r⟩ := R
  obtain ⟨c1, c2, ⟨l0, l1, l2, l3, dj⟩, ⟨n6, n7, n8⟩, ⟨m2, m3, m4, m5⟩, ct, cj, ck, cv, ⟨s1, s2, s3, s4⟩, ⟨p1, p2⟩⟩ := C
  refine ⟨c1.of e, c2, ⟨l0.of e (r 2 0 1 rfl), l1.of e (r 2 1 1 rfl), l2.of e (r 2 2 1 rfl), l3.of e (r 2 3 1 rfl), ?_⟩, ⟨by rw [hC_of e]; exact n6, by rw [hC_of e]; exact n7, by rw [hC_of e]; exact n8⟩, ⟨(r 10 0 2 rfl).trans m2, (r 10 0 3 rfl).trans m3, (r 10 0 4 rfl).trans m4, (r 10 0 5 rfl).trans m5⟩, ?_, ?_, ?_, ?_, ⟨?_, ?_, ?_, ?_⟩, ?_, ?_⟩
  · intro l l' x x' a b hx hx'
    rw [hP_of e] at hx hx'
    exact dj l l' x x' a b hx hx'
  · intro i hi
    unfold mTk
    rw [r 6 i 0 rfl, r 6 i 1 rfl, r 6 i 2 rfl, r 6 i 3 rfl, r 6 i 4 rfl, r 6 i 5 rfl, r 6 i 6 rfl, r 6 i 7 rfl, r 11 7 i rfl, r 11 8 i rfl, r 11 9 i rfl, r 11 10 i rfl, r 11 11 i rfl, r 11 12 i rfl, r 11 13 i rfl]
    exact ct i hi
  · intro j hj
    have q := cj j hj
    unfold mJn at q ⊢
    rw [r 7 j 0 rfl, r 7 j 3 rfl, r 7 j 4 rfl, r 7 j 5 rfl, r 7 j 6 rfl, r 7 j 8 rfl, r 11 14 j rfl, r 11 15 j rfl, r 11 16 j rfl, r 11 17 j rfl, r 11 18 j rfl, r 11 19 j rfl, r 11 20 j rfl, r 12 0 j rfl, hP_of e, hP_of e, hP_of e]
    refine ⟨q.1, q.2.1, ?_, q.2.2.2.1, q.2.2.2.2.1, q.2.2.2.2.2.1, q.2.2.2.2.2.2.1, q.2.2.2.2.2.2.2.1, q.2.2.2.2.2.2.2.2.1, ?_⟩
    · rcases q.2.2.1 with z | ⟨a, z1, z2, z3, z4, z5⟩
      · exact Or.inl z
      · refine Or.inr ⟨a, z1, z2, z3, ?_, ?_⟩
        · rw [r 11 15 a rfl]; exact z4
        · rw [r 12 0 a rfl]; exact z5
    · rcases q.2.2.2.2.2.2.2.2.2 with z | ⟨k, z1, z2, z3, z4⟩
      · exact Or.inl z
      · refine Or.inr ⟨k, z1, z2, z3, ?_⟩
        rw [r 11 21 k rfl]; exact z4
  · intro k hk
    have q := ck k hk
    unfold mJe at q ⊢
    rw [r 8 k 0 rfl, r 8 k 1 rfl, r 8 k 3 rfl, r 8 k 4 rfl, r 11 21 k rfl, r 11 22 k rfl, r 11 23 k rfl, r 12 1 k rfl, hP_of e]
    refine ⟨q.1, q.2.1, ?_, q.2.2.2⟩
    obtain ⟨j, z1, z2, z3, z4, z5⟩ := q.2.2.1
    refine ⟨j, z1, z2, z3, ?_, ?_⟩
    · rw [r 11 20 j rfl]; exact z4
    · rw [hP_of e]; exact z5
  · intro v hv
    have q := cv v hv
    unfold mVw at q ⊢
    rw [r 9 (vs v) 0 rfl, r 9 (vs v) 1 rfl, r 9 (vs v) 2 rfl, r 9 (vs v) 3 rfl, r 11 24 v rfl, r 11 25 v rfl, r 11 26 v rfl, r 11 27 v rfl, hC_of e]
    refine ⟨q.1, q.2.1, q.2.2.1, q.2.2.2.1, q.2.2.2.2.1, fun u hu => ?_, q.2.2.2.2.2.2⟩
    rw [r 11 26 u rfl]
    exact q.2.2.2.2.2.1 u hu
  · rw [r 1 0 4 rfl, r 10 0 1 rfl]; exact s1
  · rw [r 0 0 6 rfl, r 10 0 6 rfl]; exact s2
  · rw [r 5 0 1 rfl, r 10 0 7 rfl]; exact s3
  · intro i hi
    rw [r 11 5 i rfl, r 11 6 i rfl]; exact s4 i hi
  · intro k hk
    rw [r 1 0 3 rfl, r 12 1 k rfl]; exact p1 k hk
  · intro k h1 h2
    rw [r 1 0 3 rfl]; exact p2 k h1 h2
/-- the flows as the model has them -/
def mFlw (h : mH) (nJ : Nat) : (Nat → Int32) × (Nat → Int32) := flR (nEm h) (nA h) (nF h) (nOw h) nJ (fun _ => 0, fun _ => 0)
