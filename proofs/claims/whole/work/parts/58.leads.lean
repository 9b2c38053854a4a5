/-! a search for who leads, in sets and matchings alone -/
def updO (f : Nat → Option Nat) (j : Nat) (x : Option Nat) : Nat → Option Nat := fun i => if i = j then x else f i
theorem updO_s (f : Nat → Option Nat) (j : Nat) (x : Option Nat) : updO f j x j = x := if_pos rfl
theorem updO_n {f : Nat → Option Nat} {j i : Nat} {x : Option Nat} (h : i ≠ j) : updO f j x i = f i := if_neg h
def ldP (n : Nat) (c : Nat → Nat → Bool) (seen : Nat → Bool) (bh : Nat → Option Nat) (a : Nat) : Prop :=
  (∀ j, j < n → seen j = false → bh j ≠ some a) ∧ (∀ j k u, j < n → k < n → seen j = false → seen k = false → bh j = some u → bh k = some u → j = k) ∧ (∀ j u, j < n → seen j = false → bh j = some u → c u j = true ∧ u < n)
/-- it has found: a leads too, one more is led -/
def ldT (n : Nat) (c : Nat → Nat → Bool) (seen : Nat → Bool) (bh : Nat → Option Nat) (a : Nat) (b2 : Nat → Option Nat) : Prop :=
  ((∀ j, seen j = true → b2 j = bh j) ∧ ∀ j, n ≤ j → b2 j = bh j) ∧
  (∀ u, (∃ j, j < n ∧ seen j = false ∧ b2 j = some u) ↔ ((∃ j, j < n ∧ seen j = false ∧ bh j = some u) ∨ u = a)) ∧
  (∀ j k u, j < n → k < n → seen j = false → seen k = false → b2 j = some u → b2 k = some u → j = k) ∧
  (∀ j u, j < n → seen j = false → b2 j = some u → c u j = true ∧ u < n) ∧
  (∃ r, r < n ∧ seen r = false ∧ bh r = none ∧ ∀ j, j < n → seen j = false → (b2 j = none ↔ (bh j = none ∧ j ≠ r))) ∧
  (∀ A B : Nat → Bool, (∀ u, u < n → A u = true → ∀ k, k < n → c u k = true → B k = true) → (∀ k, k < n → B k = true → ∃ b, b < n ∧ bh k = some b ∧ A b = true) → A a = false ∧ ∀ k, k < n → B k = true → b2 k = bh k)
/-- it has not found: what it has seen is closed -/
def ldF (n : Nat) (c : Nat → Nat → Bool) (seen : Nat → Bool) (bh : Nat → Option Nat) (a : Nat) (s2 : Nat → Bool) : Prop :=
  (∀ j, seen j = true → s2 j = true) ∧ (∀ j, j < n → c a j = true → s2 j = true) ∧ ∀ j, j < n → s2 j = true → seen j = false → ∃ b, b < n ∧ bh j = some b ∧ ∀ k, k < n → c b k = true → s2 k = true
theorem ldT_free {n : Nat} {c : Nat → Nat → Bool} {seen : Nat → Bool} {bh : Nat → Option Nat} {a j : Nat} (P : ldP n c seen bh a) (ha : a < n) (hj : j < n) (hs : seen j = false) (hc : c a j = true) (hb : bh j = none) : ldT n c seen bh a (updO bh j (some a)) := by
  obtain ⟨p1, p2, p3⟩ := P
  refine ⟨⟨fun i hi => updO_n (fun z => by rw [z, hs] at hi; cases hi), fun i hi => updO_n (by omega)⟩, fun u => ⟨fun ⟨i, i1, i2, i3⟩ => ?_, fun z => ?_⟩, fun i k u i1 k1 i2 k2 i3 k3 => ?_, fun i u i1 i2 i3 => ?_, ⟨j, hj, hs, hb, fun i i1 i2 => ?_⟩, fun A B h1 h2 => ⟨?_, fun k k1 k2 => ?_⟩⟩
  · by_cases q : i = j
    · subst q
      rw [updO_s] at i3
      cases i3
      exact Or.inr rfl
    · rw [updO_n q] at i3
      exact Or.inl ⟨i, i1, i2, i3⟩
  · rcases z with ⟨i, i1, i2, i3⟩ | rfl
    · refine ⟨i, i1, i2, ?_⟩
      rw [updO_n (fun q => by rw [q, hb] at i3; cases i3)]
      exact i3
    · exact ⟨j, hj, hs, updO_s _ _ _⟩
  · by_cases q : i = j
    · by_cases q2 : k = j
      · rw [q, q2]
      · rw [q, updO_s] at i3
        rw [updO_n q2] at k3
        cases i3
        exact absurd k3 (p1 k k1 k2)
    · rw [updO_n q] at i3
      by_cases q2 : k = j
      · rw [q2, updO_s] at k3
        cases k3
        exact absurd i3 (p1 i i1 i2)
      · rw [updO_n q2] at k3
        exact p2 i k u i1 k1 i2 k2 i3 k3
  · by_cases q : i = j
    · rw [q, updO_s] at i3
      cases i3
      rw [q]
      exact ⟨hc, ha⟩
    · rw [updO_n q] at i3
      exact p3 i u i1 i2 i3
  · by_cases q : i = j
    · rw [q, updO_s]
      exact ⟨fun z => (by cases z), fun z => absurd rfl z.2⟩
    · rw [updO_n q]
      exact ⟨fun z => ⟨z, q⟩, fun z => z.1⟩
  · cases e : A a with
    | false => rfl
    | true =>
      obtain ⟨b, _, b2, _⟩ := h2 j hj (h1 a ha e j hj hc)
      rw [hb] at b2; cases b2
  · refine updO_n fun q => ?_
    obtain ⟨b, _, b2, _⟩ := h2 k k1 k2
    rw [q, hb] at b2; cases b2
def seJ (seen : Nat → Bool) (j : Nat) : Nat → Bool := fun i => if i = j then true else seen i
theorem seJ_f {seen : Nat → Bool} {j i : Nat} (h : seJ seen j i = false) : i ≠ j ∧ seen i = false := by
  unfold seJ at h
  by_cases q : i = j
  · rw [if_pos q] at h; cases h
  · rw [if_neg q] at h; exact ⟨q, h⟩
theorem seJ_n {seen : Nat → Bool} {j i : Nat} (h : i ≠ j) : seJ seen j i = seen i := if_neg h
theorem seJ_s {seen : Nat → Bool} {j : Nat} : seJ seen j j = true := if_pos rfl
theorem ldP_next {n : Nat} {c : Nat → Nat → Bool} {seen : Nat → Bool} {bh : Nat → Option Nat} {a j b : Nat} (P : ldP n c seen bh a) (hj : j < n) (hs : seen j = false) (hb : bh j = some b) : ldP n c (seJ seen j) bh b := by
  obtain ⟨p1, p2, p3⟩ := P
  refine ⟨fun i i1 i2 z => ?_, fun i k u i1 k1 i2 k2 => p2 i k u i1 k1 (seJ_f i2).2 (seJ_f k2).2, fun i u i1 i2 => p3 i u i1 (seJ_f i2).2⟩
  exact (seJ_f i2).1 (p2 i j b i1 hj (seJ_f i2).2 hs z hb)
theorem ldT_next {n : Nat} {c : Nat → Nat → Bool} {seen : Nat → Bool} {bh b1 : Nat → Option Nat} {a j b : Nat} (P : ldP n c seen bh a) (ha : a < n) (hj : j < n) (hs : seen j = false) (hc : c a j = true) (hb : bh j = some b) (T : ldT n c (seJ seen j) bh b b1) : ldT n c seen bh a (updO b1 j (some a)) := by
  obtain ⟨p1, p2, p3⟩ := P
  obtain ⟨⟨t1, t1'⟩, t2, t3, t4, ⟨r, r1, r2, r3, r4⟩, t6⟩ := T
  have hba : b ≠ a := fun z => p1 j hj hs (by rw [hb, z])
  refine ⟨⟨fun i hi => ?_, fun i hi => ?_⟩, fun u => ⟨fun ⟨i, i1, i2, i3⟩ => ?_, fun z => ?_⟩, fun i k u i1 k1 i2 k2 i3 k3 => ?_, fun i u i1 i2 i3 => ?_, ⟨r, r1, (seJ_f r2).2, r3, fun i i1 i2 => ?_⟩, fun A B h1 h2 => ?_⟩
  · have ij : i ≠ j := fun z => by rw [z, hs] at hi; cases hi
    rw [updO_n ij]
    exact t1 i (by rw [seJ_n ij]; exact hi)
  · rw [updO_n (by omega)]
    exact t1' i hi
  · by_cases q : i = j
    · rw [q, updO_s] at i3
      cases i3
      exact Or.inr rfl
    · rw [updO_n q] at i3
      rcases (t2 u).mp ⟨i, i1, by rw [seJ_n q]; exact i2, i3⟩ with ⟨k, k1, k2, k3⟩ | rfl
      · exact Or.inl ⟨k, k1, (seJ_f k2).2, k3⟩
      · exact Or.inl ⟨j, hj, hs, hb⟩
  · rcases z with ⟨i, i1, i2, i3⟩ | rfl
    · have : (∃ k, k < n ∧ seJ seen j k = false ∧ bh k = some u) ∨ u = b := by
        by_cases q : i = j
        · rw [q, hb] at i3
          cases i3
          exact Or.inr rfl
        · exact Or.inl ⟨i, i1, by rw [seJ_n q]; exact i2, i3⟩
      obtain ⟨k, k1, k2, k3⟩ := (t2 u).mpr this
      exact ⟨k, k1, (seJ_f k2).2, by rw [updO_n (seJ_f k2).1]; exact k3⟩
    · exact ⟨j, hj, hs, updO_s _ _ _⟩
  · have na : ∀ k, k < n → seJ seen j k = false → b1 k = some a → False := fun k k1 k2 k3 => by
      rcases (t2 a).mp ⟨k, k1, k2, k3⟩ with ⟨l, l1, l2, l3⟩ | z
      · exact p1 l l1 (seJ_f l2).2 l3
      · exact hba z.symm
    by_cases q : i = j
    · by_cases q2 : k = j
      · rw [q, q2]
      · rw [q, updO_s] at i3
        cases i3
        rw [updO_n q2] at k3
        exact (na k k1 (by rw [seJ_n q2]; exact k2) k3).elim
    · rw [updO_n q] at i3
      by_cases q2 : k = j
      · rw [q2, updO_s] at k3
        cases k3
        exact (na i i1 (by rw [seJ_n q]; exact i2) i3).elim
      · rw [updO_n q2] at k3
        exact t3 i k u i1 k1 (by rw [seJ_n q]; exact i2) (by rw [seJ_n q2]; exact k2) i3 k3
  · by_cases q : i = j
    · rw [q, updO_s] at i3
      cases i3
      rw [q]
      exact ⟨hc, ha⟩
    · rw [updO_n q] at i3
      exact t4 i u i1 (by rw [seJ_n q]; exact i2) i3
  · by_cases q : i = j
    · rw [q, updO_s]
      exact ⟨fun z => (by cases z), fun z => (by rw [hb] at z; cases z.1)⟩
    · rw [updO_n q]
      exact r4 i i1 (by rw [seJ_n q]; exact i2)
  · obtain ⟨s1, s2⟩ := t6 A B h1 h2
    have nB : B j = false := by
      cases e : B j with
      | false => rfl
      | true =>
        obtain ⟨b', _, e2, e3⟩ := h2 j hj e
        rw [hb] at e2
        cases e2
        rw [s1] at e3
        cases e3
    refine ⟨?_, fun k k1 k2 => ?_⟩
    · cases e : A a with
      | false => rfl
      | true => rw [h1 a ha e j hj hc] at nB; cases nB
    · rw [updO_n (fun q => by rw [q, nB] at k2; cases k2)]
      exact s2 k k1 k2
theorem ldT_wk {n : Nat} {c : Nat → Nat → Bool} {seen s : Nat → Bool} {bh b2 : Nat → Option Nat} {a : Nat} (P : ldP n c seen bh a) (hs : ∀ j, seen j = true → s j = true) (hm : ∀ k, k < n → s k = true → seen k = false → bh k ≠ none) (T : ldT n c s bh a b2) : ldT n c seen bh a b2 := by
  obtain ⟨p1, p2, p3⟩ := P
  obtain ⟨⟨t1, t1'⟩, t2, t3, t4, ⟨r, r1, r2, r3, r4⟩, t6⟩ := T
  have sf : ∀ j, s j = false → seen j = false := fun j z => by
    cases e : seen j with
    | false => rfl
    | true => rw [hs j e] at z; cases z
  have cases_s : ∀ j, s j = true ∨ s j = false := fun j => by cases s j <;> simp
  -- who is led by u, in the row of those seen since
  have old : ∀ k l u, k < n → l < n → s k = true → seen k = false → s l = false → bh k = some u → b2 l = some u → False := fun k l u k1 l1 k2 k3 l2 k4 l3 => by
    rcases (t2 u).mp ⟨l, l1, l2, l3⟩ with ⟨m, m1, m2, m3⟩ | z
    · have := p2 k m u k1 m1 k3 (sf m m2) k4 m3
      rw [this, m2] at k2
      cases k2
    · exact p1 k k1 k3 (by rw [k4, z])
  refine ⟨⟨fun j hj => t1 j (hs j hj), t1'⟩, fun u => ⟨fun ⟨j, j1, j2, j3⟩ => ?_, fun z => ?_⟩, fun j k u j1 k1 j2 k2 j3 k3 => ?_, fun j u j1 j2 j3 => ?_, ⟨r, r1, sf r r2, r3, fun j j1 j2 => ?_⟩, t6⟩
  · rcases cases_s j with q | q
    · rw [t1 j q] at j3
      exact Or.inl ⟨j, j1, j2, j3⟩
    · rcases (t2 u).mp ⟨j, j1, q, j3⟩ with ⟨k, k1, k2, k3⟩ | z
      · exact Or.inl ⟨k, k1, sf k k2, k3⟩
      · exact Or.inr z
  · rcases z with ⟨j, j1, j2, j3⟩ | rfl
    · rcases cases_s j with q | q
      · exact ⟨j, j1, j2, by rw [t1 j q]; exact j3⟩
      · obtain ⟨k, k1, k2, k3⟩ := (t2 u).mpr (Or.inl ⟨j, j1, q, j3⟩)
        exact ⟨k, k1, sf k k2, k3⟩
    · obtain ⟨k, k1, k2, k3⟩ := (t2 u).mpr (Or.inr rfl)
      exact ⟨k, k1, sf k k2, k3⟩
  · rcases cases_s j with q | q
    · rcases cases_s k with q2 | q2
      · rw [t1 j q] at j3
        rw [t1 k q2] at k3
        exact p2 j k u j1 k1 j2 k2 j3 k3
      · rw [t1 j q] at j3
        exact (old j k u j1 k1 q j2 q2 j3 k3).elim
    · rcases cases_s k with q2 | q2
      · rw [t1 k q2] at k3
        exact (old k j u k1 j1 q2 k2 q k3 j3).elim
      · exact t3 j k u j1 k1 q q2 j3 k3
  · rcases cases_s j with q | q
    · rw [t1 j q] at j3
      exact p3 j u j1 j2 j3
    · exact t4 j u j1 q j3
  · rcases cases_s j with q | q
    · rw [t1 j q]
      exact ⟨fun z => absurd z (hm j j1 q j2), fun z => z.1⟩
    · exact r4 j j1 q
/-! and on the heap of the model -/
def oI (o : Option Nat) : Int32 := match o with
  | none => -1
  | some i => nI i
def bR (hB hX : mH) (n : Nat) (seen : Nat → Bool) (bh : Nat → Option Nat) : Prop := hX.1 = hB.1 ∧ (∀ k m f, ¬ (k = 11 ∧ m = 39) → ¬ (k = 12 ∧ m = 3) → hI hX k m f = hI hB k m f) ∧ (∀ j, j < n → hI hX 11 39 j = oI (bh j)) ∧ ∀ j, j < n → hI hX 12 3 j = bI (seen j)
theorem bR.see {hB hX : mH} {n j : Nat} {seen : Nat → Bool} {bh : Nat → Option Nat} (R : bR hB hX n seen bh) : bR hB (setI hX 12 3 j 1) n (seJ seen j) bh := by
  refine ⟨R.1, fun k m f z1 z2 => (hI_no (fun y => z2 ⟨y.1, y.2.1⟩)).trans (R.2.1 k m f z1 z2), fun i hi => R.2.2.1 i hi, fun i hi => ?_⟩
  rw [hI_setI2]
  unfold seJ
  by_cases q : i = j
  · rw [if_pos q, if_pos q]; rfl
  · rw [if_neg q, if_neg q]; exact R.2.2.2 i hi
theorem bR.led {hB hX : mH} {n j a : Nat} {seen : Nat → Bool} {bh : Nat → Option Nat} (R : bR hB hX n seen bh) : bR hB (setI hX 11 39 j (nI a)) n seen (updO bh j (some a)) := by
  refine ⟨R.1, fun k m f z1 z2 => (hI_no (fun y => z1 ⟨y.1, y.2.1⟩)).trans (R.2.1 k m f z1 z2), fun i hi => ?_, fun i hi => R.2.2.2 i hi⟩
  rw [hI_setI2]
  unfold updO
  by_cases q : i = j
  · rw [if_pos q, if_pos q]; rfl
  · rw [if_neg q, if_neg q]; exact R.2.2.1 i hi
/-- what the search looks at: the tasks, the pace -/
def bB (h hB : mH) (nK p : Nat) (L : List Tk) : Prop := mSK hB ∧ tMr hB L ∧ (∀ k, k < nK → hI hB 11 21 k = nI (nP h k)) ∧ hI hB 10 0 6 = nI p
section CORE
variable {h h' hm : mH} {nT nJ nK nV nT' nJ' nK' : Nat} {vs : Nat → Nat}
theorem sp_canFollow {g : mG} {d p i j n : Nat} {hB hX : mH} {seen : Nat → Bool} {bh : Nat → Option Nat} {Q : Option mV → mH → Prop} (C : mCore h nT nJ nK nV vs) (B : bB h hB nK p (tkL h nK nV)) (R : bR hB hX n seen bh) (bn : (tkL h nK nV).length ≤ 60) (bp : p ≤ 30) (hi : i < (tkL h nK nV).length) (hj : j < (tkL h nK nV).length)
    (K : Q (some (vi (bI (cF (Mf (tkL h nK nV)) (Jf h (tkL h nK nV)) p i j)))) hX) : mT g me_fm_canFollow (d + 1) 0 0 0 [some (vr 10 0), some (vi (nI i)), some (vi (nI j))] [] hX Q := by
  have bK := C.2.1.2.2.1
  have bJ := C.2.1.2.1
  have hs : mSK hX := B.1.of R.1
  obtain ⟨x, ex, x1, x2, x3, x4, x5⟩ := tk_at C hi
  obtain ⟨y, ey, y1, y2, y3, y4, y5⟩ := tk_at C hj
  obtain ⟨a1, a2, _⟩ := B.2.1.1 i x ex
  obtain ⟨b1, b2, _⟩ := B.2.1.1 j y ey
  have ecF : cF (Mf (tkL h nK nV)) (Jf h (tkL h nK nV)) p i j = decide (i < j ∧ x.1 + dst (nP h x.2.1) (nP h y.2.1) * p ≤ y.1) := by unfold cF; rw [x1, x2, y1, y2]
  rw [ecF] at K
  refine v_fm_canFollow_0 _ _ hs ⟨fun q => ?_, fun q => ?_⟩
  · have : ¬ i < j := fun z => nnle z (by omega) q
    rw [decide_eq_false (fun z => this z.1)] at K
    exact K
  · have hij : i < j := Nat.lt_of_not_le fun z => q (nle z (by omega))
    have ii : vp_in (nI i) 576 := nin (by omega) (by omega)
    have jj : vp_in (nI j) 576 := nin (by omega) (by omega)
    have hd : dst (nP h x.2.1) (nP h y.2.1) * p ≤ 60 * 30 := Nat.mul_le_mul (by unfold dst; omega) bp
    rw [nc (by omega : i ≤ 1000000), nc (by omega : j ≤ 1000000), R.2.1 11 37 i (by omega) (by omega), R.2.1 11 37 j (by omega) (by omega), R.2.1 11 36 i (by omega) (by omega), R.2.1 11 36 j (by omega) (by omega), a1, a2, b1, b2, nc (by omega : x.2.1 ≤ 1000000), nc (by omega : y.2.1 ≤ 1000000), R.2.1 11 21 _ (by omega) (by omega), R.2.1 11 21 _ (by omega) (by omega), B.2.2.1 _ x4, B.2.2.1 _ y4, R.2.1 10 0 6 (by omega) (by omega), B.2.2.2, abs_n (by omega) (by omega), pk_mul, nI_add, nlt_iff (by omega) (by rw [Nat.mul_comm]; omega)]
    refine ⟨jj, ii, ii, nin (by omega) (by omega), jj, nin (by omega) (by omega), fun q2 => ?_, fun q2 => ?_⟩
    · rw [decide_eq_false (fun z => by have := z.2; rw [Nat.mul_comm] at this; omega)] at K
      exact K
    · rw [decide_eq_true ⟨hij, by rw [Nat.mul_comm]; omega⟩] at K
      exact K
end CORE
