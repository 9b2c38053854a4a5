/-! a list is added to -/
theorem mst_no {k f : Nat} {r : Nat × Nat} (h : mst k f = some r) : k ≠ 2 ∧ k ≠ 13 ∧ k ≠ 6 ∧ k ≠ 7 ∧ k ≠ 8 ∧ k ≠ 9 := by
  refine ⟨?_, ?_, ?_, ?_, ?_, ?_⟩ <;> (intro q; subst q; cases (show (none : Option (Nat × Nat)) = some r from h))
theorem mln_no {k n l : Nat} (h : mln k n = some l) : k ≠ 2 ∧ k ≠ 13 ∧ k ≠ 6 ∧ k ≠ 7 ∧ k ≠ 8 ∧ k ≠ 9 := by
  refine ⟨?_, ?_, ?_, ?_, ?_, ?_⟩ <;> (intro q; subst q; cases (show (none : Option Nat) = some l from h))
theorem mkn_no {k f t : Nat} (h : mkn k f = some t) : k ≠ 2 ∧ k ≠ 13 ∧ k ≠ 6 ∧ k ≠ 9 := by
  refine ⟨?_, ?_, ?_, ?_⟩ <;> (intro q; subst q; cases (show (none : Option Nat) = some t from h))
theorem mSK.gen {h h' : mH} (S : mSK h) (a : ∀ k f r, mst k f = some r → hP h' k 0 f = hP h k 0 f) (b : ∀ k n l, mln k n = some l → hL h' k n = hL h k n) (c : ∀ k n f t r, mkn k f = some t → hP h' k n f = some r → hP h k n f = some r ∨ r.1 = t) : mSK h' := by
  refine ⟨fun k f r e => (a k f r e).trans (S.1 k f r e), fun k n l e => (b k n l e).trans (S.2.1 k n l e), fun k n f t r e p => ?_⟩
  rcases c k n f t r e p with q | q
  · exact S.2.2 k n f t r e q
  · exact q
def adR (h h' : mH) (l : Nat) : Prop :=
  (∀ k n f, k ≠ 13 → ¬ (k = 2 ∧ n = l ∧ (f = 1 ∨ f = 2)) → hI h' k n f = hI h k n f) ∧ (∀ k n f, k ≠ 13 → ¬ (k = 2 ∧ n = l ∧ f = 0) → hP h' k n f = hP h k n f) ∧
  (∀ k, k ≠ 13 → hC h' k = hC h k) ∧ hC h 13 ≤ hC h' 13 ∧ (∀ k n, k ≠ 13 → hL h' k n = hL h k n) ∧ (∀ e, e < hC h 13 → hL h' 13 e = hL h 13 e) ∧
  (∀ e f, e < hC h 13 → hP h 2 l 0 ≠ some (13, e) → hP h' 13 e f = hP h 13 e f) ∧ ∀ e, hP h' 2 l 0 = some (13, e) → hP h 2 l 0 = some (13, e) ∨ e = hC h 13
theorem mSK.ad {h h' : mH} {l : Nat} (S : mSK h) (R : adR h h' l) : mSK h' := by
  refine S.gen (fun k f r e => ?_) (fun k n l e => ?_) (fun k n f t r e p => Or.inl ?_)
  · obtain ⟨q1, q2, _⟩ := mst_no e
    exact R.2.1 k 0 f q2 fun z => q1 z.1
  · obtain ⟨q1, q2, _⟩ := mln_no e
    exact R.2.2.2.2.1 k n q2
  · obtain ⟨q1, q2, _⟩ := mkn_no e
    rw [← R.2.1 k n f q2 fun z => q1 z.1]
    exact p
def gw (n : Nat) : Int32 := nI n + (if (nI n + 1) - nI n < nI n >>> ((1 : Int32) &&& 31) then nI n >>> ((1 : Int32) &&& 31) else (nI n + 1) - nI n)
set_option maxRecDepth 100000 in
theorem gw_d : ∀ n, n < 31 → (n + 1 ≤ (gw n).toNatClampNeg ∧ (gw n).toNatClampNeg ≤ 74 ∧ gw n = nI (gw n).toNatClampNeg) := by decide
theorem gw_n {n : Nat} (hn : n ≤ 30) : ∃ c, n + 1 ≤ c ∧ c ≤ 74 ∧ gw n = nI c := ⟨_, (gw_d n (by omega)).1, (gw_d n (by omega)).2.1, (gw_d n (by omega)).2.2⟩
theorem ad_grow {h W : mH} {l k n a c : Nat} {f f' : Nat → Nat} {v : Int32} (hl : l < 4) (hn : n ≤ 30) (hc : n + 1 ≤ c) (wI : ∀ k n f, k ≠ 13 → ¬ (k = 2 ∧ n = l ∧ (f = 1 ∨ f = 2)) → hI W k n f = hI h k n f) (wP : ∀ k n f, k ≠ 13 → hP W k n f = hP h k n f)
    (wC : ∀ k, k ≠ 13 → hC W k = hC h k) (wC2 : hC W 13 = hC h 13 + 1) (wL : ∀ k n, ¬ (k = 13 ∧ n = hC h 13) → hL W k n = hL h k n) (wL2 : hL W 13 (hC h 13) = c) (wR : ∀ e f, e < hC h 13 → hP W 13 e f = hP h 13 e f) (wN : ∀ i, i < n → hP W 13 (hC h 13) i = some (k, f i)) (e1 : ∀ i, i < n → f' i = f i) (e2 : f' n = a) (ev : v = nI (n + 1)) :
    adR h (setI (setP (setP W 2 l 0 (some (13, hC h 13))) 13 (hC h 13) n (some (k, a))) 2 l 1 v) l ∧ mCl (setI (setP (setP W 2 l 0 (some (13, hC h 13))) 13 (hC h 13) n (some (k, a))) 2 l 1 v) l k (n + 1) f' := by
  have p0 : hP (setI (setP (setP W 2 l 0 (some (13, hC h 13))) 13 (hC h 13) n (some (k, a))) 2 l 1 v) 2 l 0 = some (13, hC h 13) := (hP_nk (h := setP W 2 l 0 (some (13, hC h 13))) (by decide)).trans hP_eq
  refine ⟨⟨fun k' n' f' q z => (hI_no (fun y => z ⟨y.1, y.2.1, Or.inl y.2.2⟩)).trans (wI k' n' f' q z), fun k' n' f' q z => ?_, wC, by show hC h 13 ≤ hC W 13; omega, fun k' n' q => wL k' n' fun z => q z.1, fun e he => wL 13 e fun z => absurd z.2 (by omega), fun e f' he z => ?_, fun e he => ?_⟩, ?_⟩
  · exact (hP_nk (h := setP W 2 l 0 (some (13, hC h 13))) q).trans ((if_neg z).trans (wP k' n' f' q))
  · exact (if_neg (fun y => absurd y.2.1 (by omega))).trans ((hP_nk (h := W) (by decide)).trans (wR e f' he))
  · rw [p0] at he
    cases he
    exact Or.inr rfl
  · refine ⟨hI_eq.trans ev, by omega, Or.inr ⟨hC h 13, p0, by show hC h 13 < hC W 13; omega, by rw [show hL (setI (setP (setP W 2 l 0 (some (13, hC h 13))) 13 (hC h 13) n (some (k, a))) 2 l 1 v) 13 (hC h 13) = c from wL2]; exact hc, fun i hi => ?_⟩⟩
    by_cases q : i = n
    · subst q
      rw [e2]
      exact hP_eq (h := setP W 2 l 0 (some (13, hC h 13)))
    · rw [e1 i (by omega)]
      exact (hP_nf (h := setP W 2 l 0 (some (13, hC h 13))) q).trans ((hP_nk (h := W) (by decide)).trans (wN i (by omega)))
theorem sp_add {g : mG} {d l k n a : Nat} {f f' : Nat → Nat} {h : mH} {Q : Option mV → mH → Prop} (S : mSK h) (C : mCl h l k n f) (hn : n ≤ 30) (hl : l < 4) (hk : k < 11) (e1 : ∀ i, i < n → f' i = f i) (e2 : f' n = a) (K : ∀ h', adR h h' l → mSK h' → mCl h' l k (n + 1) f' → Q (some (vi 1)) h') : mT g me_al_add (d + 6) 1 74 0 [some (vr 2 l), some (vr k a)] [] h Q := by
  have cn : (nI n).toNatClampNeg = n := nc (by omega)
  have wI0 : ∀ {c : Nat} {x : Int32} k n f, k ≠ 13 → ¬ (k = 2 ∧ n = l ∧ (f = 1 ∨ f = 2)) → hI (newC (setI h 2 l 2 x) 13 c) k n f = hI h k n f := fun k n f q z => (hI_newk q).trans (hI_no fun y => z ⟨y.1, y.2.1, Or.inr y.2.2⟩)
  obtain ⟨c1, _, ⟨c2, c3⟩ | ⟨ed, c2, c3, c4, c5⟩⟩ := C
  · subst c2
    refine v_al_add_0_d l a k hk c3 ⟨fun q => q c1, fun _ => ?_⟩
    rw [c1, show (if (10 : Int32) < nI 0 + 1 then nI 0 + 1 else 10) = nI 10 by decide]
    have G := ad_grow (h := h) (W := newC (setI h 2 l 2 (hI h 2 l 2 + 1)) 13 (nI 10).toNatClampNeg) (l := l) (k := k) (n := 0) (a := a) (c := 10) (f := f) (f' := f') (v := nI 0 + 1) hl hn (by omega) wI0 (fun k' n' f' q => hP_newk q) (fun k' q => if_neg q) rfl (fun k' n' z => newC_L (h := setI h 2 l 2 (hI h 2 l 2 + 1)) z) (newC_L0 _ _ _) (fun e f' he => congrFun (newC_P (h := setI h 2 l 2 (hI h 2 l 2 + 1)) (fun z => absurd z.2 (Nat.ne_of_lt he))) f') (fun i hi => absurd hi (Nat.not_lt_zero _)) e1 e2 rfl
    exact ⟨by decide, by decide, mvin (l := 10) (newC_L0 _ _ _) (nin (by omega) (by omega)), K _ G.1 (S.ad G.1) G.2⟩
  · refine v_al_add_0_r l a k hk ed c2 (Nat.ne_of_lt c3) ⟨fun q => ?_, fun q => ?_⟩
    · have lt : n < hL h 13 ed := Nat.lt_of_le_of_ne c4 fun z => q (by rw [c1, ← z]; rfl)
      rw [c1, cn]
      have p0 : hP (setI (setP (setI h 2 l 2 (hI h 2 l 2 + 1)) 13 ed n (some (k, a))) 2 l 1 (nI n + 1)) 2 l 0 = some (13, ed) := (hP_nk (h := setI h 2 l 2 (hI h 2 l 2 + 1)) (by decide)).trans c2
      have R : adR h (setI (setP (setI h 2 l 2 (hI h 2 l 2 + 1)) 13 ed n (some (k, a))) 2 l 1 (nI n + 1)) l := by
        refine ⟨fun k' n' f' q z => (hI_no (fun y => z ⟨y.1, y.2.1, Or.inl y.2.2⟩)).trans (hI_no (fun y => z ⟨y.1, y.2.1, Or.inr y.2.2⟩)), fun k' n' f' q z => hP_nk (h := setI h 2 l 2 (hI h 2 l 2 + 1)) q, fun _ _ => rfl, Nat.le_refl _, fun _ _ _ => rfl, fun _ _ => rfl, fun e f' he z => ?_, fun e he => Or.inl ?_⟩
        · exact if_neg (fun y => z (by rw [y.2.1]; exact c2))
        · rw [p0] at he; rw [← he]; exact c2
      refine ⟨?_, K _ R (S.ad R) ⟨hI_eq.trans (nI_1 _), by omega, Or.inr ⟨ed, p0, c3, lt, fun i hi => ?_⟩⟩⟩
      · exact vp_in_iff.mpr ⟨by rw [nI_toInt (by omega)]; omega, by rw [nI_toInt (by omega)]; exact Int.ofNat_lt.mpr lt⟩
      · by_cases q : i = n
        · subst q
          rw [e2]
          exact hP_eq (h := setI h 2 l 2 (hI h 2 l 2 + 1))
        · rw [e1 i (by omega)]
          exact (hP_nf (h := setI h 2 l 2 (hI h 2 l 2 + 1)) q).trans (c5 i (by omega))
    · have eo : Int32.ofNat (hL h 13 ed) = nI n := q.symm.trans c1
      obtain ⟨c, g1, g2, g3⟩ := gw_n hn
      have b0 : (nI n + (if (nI n + 1) - nI n < nI n >>> ((1 : Int32) &&& 31) then nI n >>> ((1 : Int32) &&& 31) else (nI n + 1) - nI n)) = nI c := g3
      rw [eo, c1, b0, cn]
      have b1 : ¬ nI c ≤ 0 := nnle (b := 0) (by omega) (by omega)
      have b2 : ¬ (2147483639 : Int32) < nI c := fun z => by
        rw [ilt, nI_toInt (by omega)] at z
        have : (2147483639 : Int32).toInt = 2147483639 := by decide
        omega
      have b3 : ¬ nI c < 0 := nnneg (by omega)
      have cc : (nI c).toNatClampNeg = c := nc (by omega)
      have b4 : (if nI c < nI n then nI c else nI n) = nI n := if_neg (nnlt (by omega) (by omega))
      rw [b4, cn, cc]
      have lo : ∀ {x : Int32}, hL (newC (setI h 2 l 2 x) 13 c) 13 ed = hL h 13 ed := newC_L (fun z => absurd z.2 (Nat.ne_of_lt c3))
      have po : ∀ {x : Int32} i, hP (newC (setI h 2 l 2 x) 13 c) 13 ed i = hP h 13 ed i := fun {x} i => congrFun (newC_P (h := setI h 2 l 2 x) (fun z => absurd z.2 (Nat.ne_of_lt c3))) i
      have G := ad_grow (h := h) (W := cpyP (newC (setI h 2 l 2 (hI h 2 l 2 + 1)) 13 c) ed (hC h 13) n) (l := l) (k := k) (n := n) (a := a) (c := c) (f := f) (f' := f') (v := nI n + 1) hl hn g1 (wI0 (c := c)) (fun k' n' f' q => (hP_cpyk q).trans (hP_newk q)) (fun k' q => if_neg q) rfl (fun k' n' z => newC_L (h := setI h 2 l 2 (hI h 2 l 2 + 1)) z) (newC_L0 _ _ _) (fun e f' he => (if_neg (fun z => absurd z.2.1 (Nat.ne_of_lt he))).trans (congrFun (newC_P (h := setI h 2 l 2 (hI h 2 l 2 + 1)) (fun z => absurd z.2 (Nat.ne_of_lt he))) f')) (fun i hi => (if_pos ⟨rfl, rfl, hi⟩).trans ((po i).trans (c5 i hi))) e1 e2 (nI_1 _)
      have rest := K _ G.1 (S.ad G.1) G.2
      have tl : (¬ nI c < 0) ∧ c ≤ 74 ∧ (¬ nI n < 0) ∧ n ≤ hL (newC (setI h 2 l 2 (hI h 2 l 2 + 1)) 13 c) 13 ed ∧ n ≤ hL (newC (setI h 2 l 2 (hI h 2 l 2 + 1)) 13 c) 13 (hC h 13) ∧ (∀ i, i < n → ∀ r, hP (newC (setI h 2 l 2 (hI h 2 l 2 + 1)) 13 c) 13 ed i = some r → r.1 < 11) ∧ vp_in (nI n) (hL (setP (cpyP (newC (setI h 2 l 2 (hI h 2 l 2 + 1)) 13 c) ed (hC h 13) n) 2 l 0 (some (13, hC h 13))) 13 (hC h 13)) := by
        refine ⟨b3, g2, nnneg (by omega), by rw [lo]; exact c4, ?_, fun i hi r e => ?_, mvin (l := c) (newC_L0 _ _ _) (nin (by omega) (by omega))⟩
        · exact Nat.le_trans (by omega) (Nat.le_of_eq (newC_L0 (setI h 2 l 2 (hI h 2 l 2 + 1)) 13 c).symm)
        · rw [po i, c5 i hi] at e
          cases e
          exact hk
      obtain ⟨t1, t2, t3, t4, t5, t6, t7⟩ := tl
      exact ⟨fun _ => ⟨fun z => absurd z b1, fun _ => ⟨fun z => absurd z b2, fun _ => ⟨t1, t2, t3, t4, t5, t6, t7, rest⟩⟩⟩, fun _ => ⟨fun z => absurd z b1, fun _ => ⟨fun z => absurd z b2, fun _ => ⟨t1, t2, t3, t4, t5, t6, t7, rest⟩⟩⟩⟩
