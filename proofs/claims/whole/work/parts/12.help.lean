/-! what stays: where the fixed pointers point, how long the fixed rows are, of which kind the others are; and the helpers of the printed walks -/
def mst : Nat → Nat → Option (Nat × Nat)
  | 0, 0 => some (1, 0)
  | 0, 1 => some (2, 3)
  | 0, 2 => some (3, 0)
  | 0, 3 => some (4, 0)
  | 0, 4 => some (5, 0)
  | 0, 5 => some (11, 5)
  | 1, 0 => some (2, 0)
  | 1, 1 => some (2, 1)
  | 1, 2 => some (2, 2)
  | 3, 0 => some (1, 0)
  | 3, 1 => some (2, 3)
  | 4, 0 => some (1, 0)
  | 4, 1 => some (2, 3)
  | 4, 2 => some (11, 0)
  | 4, 3 => some (11, 1)
  | 4, 4 => some (11, 2)
  | 4, 5 => some (11, 3)
  | 4, 6 => some (11, 4)
  | 5, 0 => some (1, 0)
  | 10, 0 => some (11, 6)
  | 10, 8 => some (11, 7)
  | 10, 9 => some (11, 8)
  | 10, 10 => some (11, 9)
  | 10, 11 => some (11, 10)
  | 10, 12 => some (11, 11)
  | 10, 13 => some (11, 12)
  | 10, 14 => some (11, 13)
  | 10, 15 => some (11, 14)
  | 10, 16 => some (11, 15)
  | 10, 17 => some (11, 16)
  | 10, 18 => some (11, 17)
  | 10, 19 => some (11, 18)
  | 10, 20 => some (11, 19)
  | 10, 21 => some (11, 20)
  | 10, 22 => some (12, 0)
  | 10, 23 => some (11, 21)
  | 10, 24 => some (11, 22)
  | 10, 25 => some (11, 23)
  | 10, 26 => some (12, 1)
  | 10, 27 => some (11, 24)
  | 10, 28 => some (11, 25)
  | 10, 29 => some (11, 26)
  | 10, 30 => some (11, 27)
  | 10, 31 => some (11, 28)
  | 10, 32 => some (11, 29)
  | 10, 33 => some (11, 30)
  | 10, 34 => some (11, 31)
  | 10, 35 => some (11, 32)
  | 10, 36 => some (11, 33)
  | 10, 37 => some (11, 34)
  | 10, 38 => some (12, 2)
  | 10, 39 => some (11, 35)
  | 10, 49 => some (11, 36)
  | 10, 50 => some (11, 37)
  | 10, 51 => some (11, 38)
  | 10, 53 => some (11, 39)
  | 10, 54 => some (12, 3)
  | 10, 62 => some (12, 4)
  | _, _ => none
def mln : Nat → Nat → Option Nat
  | 11, 0 => some 576
  | 11, 1 => some 576
  | 11, 2 => some 576
  | 11, 3 => some 576
  | 11, 4 => some 576
  | 11, 5 => some 7
  | 11, 6 => some 7
  | 11, 7 => some 4
  | 11, 8 => some 4
  | 11, 9 => some 4
  | 11, 10 => some 4
  | 11, 11 => some 4
  | 11, 12 => some 4
  | 11, 13 => some 4
  | 11, 14 => some 30
  | 11, 15 => some 30
  | 11, 16 => some 30
  | 11, 17 => some 30
  | 11, 18 => some 30
  | 11, 19 => some 30
  | 11, 20 => some 30
  | 11, 21 => some 24
  | 11, 22 => some 24
  | 11, 23 => some 24
  | 11, 24 => some 12
  | 11, 25 => some 12
  | 11, 26 => some 12
  | 11, 27 => some 12
  | 11, 28 => some 30
  | 11, 29 => some 30
  | 11, 30 => some 30
  | 11, 31 => some 30
  | 11, 32 => some 4
  | 11, 33 => some 4
  | 11, 34 => some 4
  | 11, 35 => some 30
  | 11, 36 => some 576
  | 11, 37 => some 576
  | 11, 38 => some 576
  | 11, 39 => some 60
  | 12, 0 => some 30
  | 12, 1 => some 24
  | 12, 2 => some 24
  | 12, 3 => some 60
  | 12, 4 => some 30
  | _, _ => none
def mkn : Nat → Nat → Option Nat
  | 7, 1 => some 6
  | 7, 2 => some 7
  | 7, 9 => some 8
  | 8, 2 => some 7
  | _, _ => none
def mSK (h : mH) : Prop := (∀ k f r, mst k f = some r → hP h k 0 f = some r) ∧ (∀ k n l, mln k n = some l → hL h k n = l) ∧ (∀ k n f t r, mkn k f = some t → hP h k n f = some r → r.1 = t)
theorem mSK.of {h h' : mH} (S : mSK h) (e : h'.1 = h.1) : mSK h' := by
  obtain ⟨s, i⟩ := h
  obtain ⟨s', i'⟩ := h'
  cases e
  exact S
/-- a place of a list -/
def mGet (h : mH) (l : Nat) (i : Int32) (r : Option (Nat × Nat)) : Prop := ∃ ed : Nat, hP h 2 l 0 = some (13, ed) ∧ ¬ i < 0 ∧ i < hI h 2 l 1 ∧ vp_in i (hL h 13 ed) ∧ hP h 13 ed i.toNatClampNeg = r
theorem mGet.up {h h' : mH} {l : Nat} {i : Int32} {r : Option (Nat × Nat)} (G : mGet h l i r) (e : h'.1 = h.1) (e2 : hI h' 2 l 1 = hI h 2 l 1) : mGet h' l i r := by
  obtain ⟨s, j⟩ := h
  obtain ⟨s', j'⟩ := h'
  cases e
  obtain ⟨ed, a, b, c, d, f⟩ := G
  exact ⟨ed, a, b, by rw [e2]; exact c, d, f⟩
theorem hI_nk {h : mH} {k n f : Nat} {v : Int32} {k' n' f' : Nat} (q : k' ≠ k) : hI (setI h k n f v) k' n' f' = hI h k' n' f' := if_neg (fun z => q z.1)
theorem hI_nf {h : mH} {k n f : Nat} {v : Int32} {k' n' f' : Nat} (q : f' ≠ f) : hI (setI h k n f v) k' n' f' = hI h k' n' f' := if_neg (fun z => q z.2.2)
theorem hI_nn {h : mH} {k n f : Nat} {v : Int32} {k' n' f' : Nat} (q : n' ≠ n) : hI (setI h k n f v) k' n' f' = hI h k' n' f' := if_neg (fun z => q z.2.1)
theorem hI_eq {h : mH} {k n f : Nat} {v : Int32} : hI (setI h k n f v) k n f = v := if_pos ⟨rfl, rfl, rfl⟩
theorem hI_setP {h : mH} {k n f : Nat} {v : Option (Nat × Nat)} {k' n' f' : Nat} : hI (setP h k n f v) k' n' f' = hI h k' n' f' := rfl
theorem hI_newk {h : mH} {k l k' n' f' : Nat} (q : k' ≠ k) : hI (newC h k l) k' n' f' = hI h k' n' f' := if_neg (fun z => q z.1)
theorem hP_setI {h : mH} {k n f : Nat} {v : Int32} {k' n' f' : Nat} : hP (setI h k n f v) k' n' f' = hP h k' n' f' := rfl
theorem hP_nk {h : mH} {k n f : Nat} {v : Option (Nat × Nat)} {k' n' f' : Nat} (q : k' ≠ k) : hP (setP h k n f v) k' n' f' = hP h k' n' f' := if_neg (fun z => q z.1)
theorem hP_nf {h : mH} {k n f : Nat} {v : Option (Nat × Nat)} {k' n' f' : Nat} (q : f' ≠ f) : hP (setP h k n f v) k' n' f' = hP h k' n' f' := if_neg (fun z => q z.2.2)
theorem hP_eq {h : mH} {k n f : Nat} {v : Option (Nat × Nat)} : hP (setP h k n f v) k n f = v := if_pos ⟨rfl, rfl, rfl⟩
theorem hP_newk {h : mH} {k l k' n' f' : Nat} (q : k' ≠ k) : hP (newC h k l) k' n' f' = hP h k' n' f' := if_neg (fun z => q z.1)
theorem mvin {h : mH} {k n l : Nat} {i : Int32} (e : hL h k n = l) (o : vp_in i l) : vp_in i (hL h k n) := by rw [e]; exact o
theorem mzret {x : Int32} (h : vp_nar .boolean x = x) : narrow .boolean (.int x) = .int x := by
  unfold vp_nar at h
  cases hn : narrow .boolean (.int x) with
  | int y => rw [hn] at h; dsimp only at h; rw [h]
  | _ => simp [narrow] at hn
theorem mzput {x : Int32} (h : vp_nar .boolean x = x) : narrow .boolean (.int x) = .int x ∧ fits .boolean (.int x) = true := by
  refine ⟨mzret h, ?_⟩
  have h2 := mzret h
  rw [← h2]
  obtain ⟨j, hj, hj2⟩ := pk_andE x (m := 1) 1 rfl
  have h3 : x &&& 1 = 0 ∨ x &&& 1 = 1 := by
    rw [hj2]
    rcases (show j = 0 ∨ j = 1 by omega) with rfl | rfl
    · exact Or.inl rfl
    · exact Or.inr rfl
  simpa [narrow, fits] using h3
theorem mtoI {x c : Int32} (h : x.toInt = c.toInt) : x = c := Int32.toInt_inj.mp h
section TR
variable {g : mG} {m : mMe} {d mc ms pc : Nat} {L : List (Option mV)} {st : List mV} {h : mH} {Q : Option mV → mH → Prop}
theorem tr_getIx {k n f idx : Nat} {x : Int32} (hc : decode m.2.1 pc = .ok (.getfield idx, 3)) (hf : mFl m.1.cls idx k f) (ht : misR (mty k f) = false) (hx : hI h k n f = x) (kk : mT g m d mc ms (pc + 3) L (vi x :: st) h Q) : mT g m d mc ms pc L (vr k n :: st) h Q := tr_getI hc hf ht (by rw [hx]; exact kk)
theorem tr_ialdx {n : Nat} {i x : Int32} (hc : decode m.2.1 pc = .ok (.iaload, 1)) (hin : vp_in i (hL h 11 n)) (hx : hI h 11 n i.toNatClampNeg = x) (kk : mT g m d mc ms (pc + 1) L (vi x :: st) h Q) : mT g m d mc ms pc L (vi i :: vr 11 n :: st) h Q := tr_iald hc hin (by rw [hx]; exact kk)
theorem tr_zaldx {n : Nat} {i x : Int32} (hc : decode m.2.1 pc = .ok (.baload, 1)) (hin : vp_in i (hL h 12 n)) (hx : hI h 12 n i.toNatClampNeg = x) (kk : mT g m d mc ms (pc + 1) L (vi x :: st) h Q) : mT g m d mc ms pc L (vi i :: vr 12 n :: st) h Q := tr_zald hc hin (by rw [hx]; exact kk)
end TR
