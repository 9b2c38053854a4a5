/-! the flows: what reckon of the class does -/
theorem fillF_u {h : mH} {k f m : Nat} {F : Nat → Int32} {n : Nat} {v : Int32} (hn : n < m) : setI (fillF h k f m F) k n f v = fillF h k f m (upd F n v) := by
  refine Prod.ext rfl ?_
  funext a b c
  show (if a = k ∧ b = n ∧ c = f then v else if a = k ∧ c = f ∧ b < m then F b else h.2 a b c) = if a = k ∧ c = f ∧ b < m then (if b = n then v else F b) else h.2 a b c
  by_cases q : a = k ∧ c = f
  · obtain ⟨rfl, rfl⟩ := q
    by_cases q2 : b = n
    · subst q2
      rw [if_pos ⟨rfl, rfl, rfl⟩, if_pos ⟨rfl, rfl, hn⟩, if_pos rfl]
    · rw [if_neg (fun z => q2 z.2.1), if_neg q2]
  · rw [if_neg (fun z => q ⟨z.1, z.2.2⟩), if_neg (fun z => q ⟨z.1, z.2.1⟩), if_neg (fun z => q ⟨z.1, z.2.1⟩)]
theorem fillI_u {h : mH} {k n m : Nat} {F : Nat → Int32} {f : Nat} {v : Int32} (hn : f < m) : setI (fillI h k n m F) k n f v = fillI h k n m (upd F f v) := by
  refine Prod.ext rfl ?_
  funext a b c
  show (if a = k ∧ b = n ∧ c = f then v else if a = k ∧ b = n ∧ c < m then F c else h.2 a b c) = if a = k ∧ b = n ∧ c < m then (if c = f then v else F c) else h.2 a b c
  by_cases q : a = k ∧ b = n
  · obtain ⟨rfl, rfl⟩ := q
    by_cases q2 : c = f
    · subst q2
      rw [if_pos ⟨rfl, rfl, rfl⟩, if_pos ⟨rfl, rfl, hn⟩, if_pos rfl]
    · rw [if_neg (fun z => q2 z.2.2), if_neg q2]
  · rw [if_neg (fun z => q ⟨z.1, z.2.1⟩), if_neg (fun z => q ⟨z.1, z.2.1⟩), if_neg (fun z => q ⟨z.1, z.2.1⟩)]
theorem setF_c {h : mH} {k f m : Nat} {F : Nat → Int32} {k' n' f' : Nat} {v : Int32} (hn : k' ≠ k ∨ f' ≠ f) : setI (fillF h k f m F) k' n' f' v = fillF (setI h k' n' f' v) k f m F := by
  refine Prod.ext rfl ?_
  funext a b c
  show (if a = k' ∧ b = n' ∧ c = f' then v else if a = k ∧ c = f ∧ b < m then F b else h.2 a b c) = if a = k ∧ c = f ∧ b < m then F b else if a = k' ∧ b = n' ∧ c = f' then v else h.2 a b c
  by_cases q : a = k' ∧ b = n' ∧ c = f'
  · rw [if_pos q, if_neg (fun z => by rcases hn with hn | hn; exact hn (q.1.symm.trans z.1); exact hn (q.2.2.symm.trans z.2.1)), if_pos q]
  · rw [if_neg q, if_neg q]
theorem fillF_z {h : mH} {k f m : Nat} {F : Nat → Int32} {v : Int32} : setI (fillF h k f m F) k m f v = fillF h k f (m + 1) (upd F m v) := by
  refine Prod.ext rfl ?_
  funext a b c
  show (if a = k ∧ b = m ∧ c = f then v else if a = k ∧ c = f ∧ b < m then F b else h.2 a b c) = if a = k ∧ c = f ∧ b < m + 1 then (if b = m then v else F b) else h.2 a b c
  by_cases q : a = k ∧ c = f
  · obtain ⟨rfl, rfl⟩ := q
    by_cases q2 : b = m
    · subst q2
      rw [if_pos ⟨rfl, rfl, rfl⟩, if_pos ⟨rfl, rfl, by omega⟩, if_pos rfl]
    · rw [if_neg (fun z => q2 z.2.1), if_neg q2]
      by_cases q3 : b < m
      · rw [if_pos ⟨rfl, rfl, q3⟩, if_pos ⟨rfl, rfl, by omega⟩]
      · rw [if_neg (fun z => q3 z.2.2), if_neg (fun z => by omega)]
  · rw [if_neg (fun z => q ⟨z.1, z.2.2⟩), if_neg (fun z => q ⟨z.1, z.2.1⟩), if_neg (fun z => q ⟨z.1, z.2.1⟩)]
theorem fillI_z {h : mH} {k n m : Nat} {F : Nat → Int32} {v : Int32} : setI (fillI h k n m F) k n m v = fillI h k n (m + 1) (upd F m v) := by
  refine Prod.ext rfl ?_
  funext a b c
  show (if a = k ∧ b = n ∧ c = m then v else if a = k ∧ b = n ∧ c < m then F c else h.2 a b c) = if a = k ∧ b = n ∧ c < m + 1 then (if c = m then v else F c) else h.2 a b c
  by_cases q : a = k ∧ b = n
  · obtain ⟨rfl, rfl⟩ := q
    by_cases q2 : c = m
    · subst q2
      rw [if_pos ⟨rfl, rfl, rfl⟩, if_pos ⟨rfl, rfl, by omega⟩, if_pos rfl]
    · rw [if_neg (fun z => q2 z.2.2), if_neg q2]
      by_cases q3 : c < m
      · rw [if_pos ⟨rfl, rfl, q3⟩, if_pos ⟨rfl, rfl, by omega⟩]
      · rw [if_neg (fun z => q3 z.2.2), if_neg (fun z => by omega)]
  · rw [if_neg (fun z => q ⟨z.1, z.2.1⟩), if_neg (fun z => q ⟨z.1, z.2.1⟩), if_neg (fun z => q ⟨z.1, z.2.1⟩)]
/-- list l holds n cells of kind k, the i-th being f i -/
def mCl (h : mH) (l k n : Nat) (f : Nat → Nat) : Prop := hI h 2 l 1 = nI n ∧ n ≤ 1000 ∧ ((n = 0 ∧ hP h 2 l 0 = some (15, 0)) ∨ ∃ ed, hP h 2 l 0 = some (13, ed) ∧ ed < hC h 13 ∧ n ≤ hL h 13 ed ∧ ∀ i, i < n → hP h 13 ed i = some (k, f i))
theorem mCl.get {h : mH} {l k n : Nat} {f : Nat → Nat} (C : mCl h l k n f) {i : Nat} (hi : i < n) : mGet h l (nI i) (some (k, f i)) := by
  obtain ⟨h1, h2, h3 | ⟨ed, h3, h4, h5, h6⟩⟩ := C
  · omega
  · refine ⟨ed, h3, nnneg (by omega), by rw [h1]; exact nlt hi (by omega), ?_, by rw [nc (by omega)]; exact h6 i hi⟩
    exact vp_in_iff.mpr ⟨by rw [nI_toInt (by omega)]; omega, by rw [nI_toInt (by omega)]; omega⟩
theorem mCl.of {h h' : mH} {l k n : Nat} {f : Nat → Nat} (C : mCl h l k n f) (e : h'.1 = h.1) (e2 : hI h' 2 l 1 = hI h 2 l 1) : mCl h' l k n f := by
  obtain ⟨s, i⟩ := h
  obtain ⟨s', i'⟩ := h'
  cases e
  exact ⟨e2.trans C.1, C.2⟩
/-- the pipes' pointers -/
def mJs (h : mH) (nT nJ nK : Nat) : Prop := ∀ j, j < nJ → (∃ t, t < nT ∧ hP h 7 j 1 = some (6, t)) ∧ (hP h 7 j 2 = none ∨ ∃ a, a < j ∧ hP h 7 j 2 = some (7, a)) ∧ (hP h 7 j 9 = none ∨ ∃ k, k < nK ∧ hP h 7 j 9 = some (8, k))
def jA (h : mH) (j : Nat) : Option Nat := (hP h 7 j 2).map (·.2)
def jF (h : mH) (j : Nat) : Nat := ((hP h 7 j 1).map (·.2)).getD 0
def jK (h : mH) (j : Nat) : Option Nat := (hP h 7 j 9).map (·.2)
/-- one step of the flows: flows of the pipes, flows out of the tanks -/
def flS (emp : Nat → Bool) (ah : Nat → Option Nat) (fd : Nat → Nat) (own : Nat → Int32) (j : Nat) (s : (Nat → Int32) × (Nat → Int32)) : (Nat → Int32) × (Nat → Int32) :=
  if emp j = true then s else match ah j with
    | none => (upd s.1 j (s.1 j + own j), upd s.2 (fd j) (s.2 (fd j) + (s.1 j + own j)))
    | some a => (upd (upd s.1 j (s.1 j + own j)) a (upd s.1 j (s.1 j + own j) a + (s.1 j + own j)), s.2)
def flR (emp : Nat → Bool) (ah : Nat → Option Nat) (fd : Nat → Nat) (own : Nat → Int32) : Nat → (Nat → Int32) × (Nat → Int32) → (Nat → Int32) × (Nat → Int32)
  | 0, s => s
  | j + 1, s => flR emp ah fd own j (flS emp ah fd own j s)
/-- a row that is built up from its first places -/
def bld (F : (Nat → Int32) → Nat → Int32) : Nat → Nat → Int32
  | 0 => fun _ => 0
  | n + 1 => upd (bld F n) n (F (bld F n) n)
def lossO (f l s : Int32) : Int32 := Int64.toInt32 (((Int32.toInt64 f * Int32.toInt64 f) * Int32.toInt64 l) / (((100 : Int64) * Int32.toInt64 s) * Int32.toInt64 s))
def lsF (ah : Nat → Option Nat) (ls : Nat → Int32) (L : Nat → Int32) (j : Nat) : Int32 := ls j + (match ah j with
  | none => 0
  | some a => L a)
def drawO (h : mH) (js : Int32) (j : Nat) : Int32 := match jK h j with
  | none => 0
  | some k => if js &&& hI h 8 k 1 = 0 then 0 else hI h 8 k 3
def cEmp (h : mH) (j : Nat) : Bool := decide (¬ hI h 7 j 8 = 0)
def cOwn (h : mH) (js tr : Int32) (j : Nat) : Int32 := drawO h js j + (if tr = 0 then hI h 7 j 6 else hI h 7 j 7)
def wF (h : mH) (nT nJ : Nat) (s : (Nat → Int32) × (Nat → Int32)) : mH := fillF (fillF h 6 8 nT s.2) 7 10 nJ s.1
theorem sp_forget {g : mG} {d nT nJ : Nat} {h : mH} {Q : Option mV → mH → Prop} (hsk : mSK h) (hT : mCl h 0 6 nT id) (hJ : mCl h 1 7 nJ id) (K : Q none (wF h nT nJ (fun _ => 0, fun _ => 0))) : mT g me_ga_forgetFlows (d + 4) 0 0 0 [some (vr 1 0), none] [] h Q := by
  refine v_ga_forgetFlows_0 hsk ?_
  have w2 : ∀ i, i ≤ nJ → mT g me_ga_forgetFlows (d + 4) 0 0 36 [some (vr 1 0), some (vi (nI i))] [] (fillF (fillF h 6 8 nT (fun _ => 0)) 7 10 i (fun _ => 0)) Q := by
    refine upTo ?_ fun i hi ih => ?_
    · exact v_ga_forgetFlows_36 _ (hsk.of rfl) ⟨fun _ => K, fun q => absurd (by show hI h 2 1 1 ≤ nI nJ; rw [hJ.1]; exact Int32.le_refl _) q⟩
    · refine v_ga_forgetFlows_36 _ (hsk.of rfl) ⟨fun q => absurd (show hI h 2 1 1 ≤ nI i from q) (by rw [hJ.1]; exact nnle hi (by have := hJ.2.1; omega)), fun _ => ⟨i, (hJ.of (h' := (fillF (fillF h 6 8 nT (fun _ => 0)) 7 10 i (fun _ => 0))) rfl rfl).get hi, ?_⟩⟩
      rw [nI_1]
      exact mT.hp (fillF_s rfl) ih
  have w1 : ∀ i, i ≤ nT → mT g me_ga_forgetFlows (d + 4) 0 0 2 [some (vr 1 0), some (vi (nI i))] [] (fillF h 6 8 i (fun _ => 0)) Q := by
    refine upTo ?_ fun i hi ih => ?_
    · refine v_ga_forgetFlows_2 _ (hsk.of rfl) ⟨fun _ => ?_, fun q => absurd (by show hI h 2 0 1 ≤ nI nT; rw [hT.1]; exact Int32.le_refl _) q⟩
      have := w2 0 (Nat.zero_le _)
      rw [fillF_0] at this
      exact this
    · refine v_ga_forgetFlows_2 _ (hsk.of rfl) ⟨fun q => absurd (show hI h 2 0 1 ≤ nI i from q) (by rw [hT.1]; exact nnle hi (by have := hT.2.1; omega)), fun _ => ⟨i, (hT.of (h' := fillF h 6 8 i (fun _ => 0)) rfl rfl).get hi, ?_⟩⟩
      rw [nI_1]
      exact mT.hp (fillF_s rfl) ih
  have := w1 0 (Nat.zero_le _)
  rw [fillF_0] at this
  exact this
theorem sp_draw {g : mG} {d j : Nat} {js : Int32} {h : mH} {Q : Option mV → mH → Prop} (hsk : mSK h) (K : Q (some (vi (drawO h js j))) h) : mT g me_jn_drawAmong (d + 2) 0 0 0 [some (vr 7 j), some (vi js)] [] h Q := by
  refine v_jn_drawAmong_0 j js hsk ⟨fun e => ?_, fun kq n e => ⟨hsk.2.2 7 j 9 8 _ rfl e, fun q => ?_, fun q => ?_⟩⟩
  · unfold drawO jK at K
    rw [e] at K
    exact K
  · unfold drawO jK at K
    rw [e] at K
    dsimp only [Option.map_some] at K
    rw [if_pos q] at K
    exact K
  · unfold drawO jK at K
    rw [e] at K
    dsimp only [Option.map_some] at K
    rw [if_neg q] at K
    exact K
theorem s_size {s : Nat} (h1 : 1 ≤ s) (h9 : s ≤ 9) : ((100 : Int64) * Int32.toInt64 (nI s)) * Int32.toInt64 (nI s) = lN (100 * s * s) ∧ 100 * s * s ≤ 8100 ∧ 100 ≤ 100 * s * s := by
  rcases (show s = 1 ∨ s = 2 ∨ s = 3 ∨ s = 4 ∨ s = 5 ∨ s = 6 ∨ s = 7 ∨ s = 8 ∨ s = 9 by omega) with rfl | rfl | rfl | rfl | rfl | rfl | rfl | rfl | rfl <;> exact ⟨by decide, by decide, by decide⟩
theorem sp_loss {g : mG} {d j s : Nat} {h : mH} {Q : Option mV → mH → Prop} (hsk : mSK h) (hs : hI h 7 j 5 = nI s) (h1 : 1 ≤ s) (h9 : s ≤ 9) (K : Q (some (vi (lossO (hI h 7 j 10) (hI h 7 j 4) (hI h 7 j 5)))) h) : mT g me_jn_lossNow (d + 1) 0 0 0 [some (vr 7 j), none, none] [] h Q := by
  have hz : ¬ ((100 : Int64) * Int32.toInt64 (hI h 7 j 5)) * Int32.toInt64 (hI h 7 j 5) = 0 := by
    rw [hs]
    rcases (show s = 1 ∨ s = 2 ∨ s = 3 ∨ s = 4 ∨ s = 5 ∨ s = 6 ∨ s = 7 ∨ s = 8 ∨ s = 9 by omega) with rfl | rfl | rfl | rfl | rfl | rfl | rfl | rfl | rfl <;> decide
  have hc : 0 ≤ lg_cmp (((100 : Int64) * Int32.toInt64 (hI h 7 j 5)) * Int32.toInt64 (hI h 7 j 5)) (1 : Int64) := by
    rw [hs]
    rcases (show s = 1 ∨ s = 2 ∨ s = 3 ∨ s = 4 ∨ s = 5 ∨ s = 6 ∨ s = 7 ∨ s = 8 ∨ s = 9 by omega) with rfl | rfl | rfl | rfl | rfl | rfl | rfl | rfl | rfl <;> decide
  exact v_jn_lossNow_0 j hsk ⟨fun _ => ⟨hz, K⟩, fun q => absurd hc q⟩
