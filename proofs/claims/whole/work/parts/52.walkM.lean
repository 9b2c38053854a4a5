/-! the model's going of the walk -/
theorem sm_31 : ∀ k, k < 32 → ((nI k &&& 31).toBitVec.smod 32).toNat = k := by decide +kernel
theorem shr_bit {x : Int32} {k : Nat} (hx : ¬ x < 0) (hk : k < 31) : (x >>> (nI k &&& 31)) &&& 1 = 1 ↔ tB x k = true := by
  obtain ⟨n, n1, rfl⟩ := nI_of hx
  have e : (nI n >>> (nI k &&& 31)) &&& 1 = nI (n / 2 ^ k % 2) := by
    rw [pk_shrN n1 _ k (sm_31 k (by omega)), show (1 : Int32) = nI (2 ^ 1 - 1) from rfl, nI_and, Nat.and_two_pow_sub_one_eq_mod]
  have hm : n / 2 ^ k % 2 < 2 := Nat.mod_lt _ (by omega)
  rw [e, show (1 : Int32) = nI 1 from rfl, nI_eq (by omega) (by omega)]
  have et : tB (nI n) k = n.testBit k := by
    show (nI n).toBitVec.toNat.testBit k = _
    rw [pk_tn (by omega)]
  rw [et, Nat.testBit_eq_decide_div_mod_eq, decide_eq_true_iff]
section CORE
variable {h h' hm : mH} {nT nJ nK nV nT' nJ' nK' : Nat} {vs : Nat → Nat}
/-- the model on the walk -/
def mWk (h hx : mH) (nT nJ : Nat) (s : WS) : Prop := sameA h hx ∧ (∀ t, t < nT → hI hx 11 33 t = nI (s.1 t)) ∧ (hI hx 10 0 46 = s.2.1 ∧ hI hx 10 0 47 = s.2.2.1 ∧ hI hx 10 0 48 = s.2.2.2 ∧ hI hx 10 0 43 = -9 ∧ hI hx 10 0 44 = -9 ∧ hI hx 10 0 45 = -9) ∧ ∀ j, j < nJ → hI hx 11 28 j = hI h 11 19 j
def mWr (h2 : mH) (r : R6) : Prop := hI h2 10 0 43 = r.1.1 ∧ hI h2 10 0 44 = r.1.2.1 ∧ hI h2 10 0 45 = r.1.2.2 ∧ hI h2 10 0 46 = r.2.1 ∧ hI h2 10 0 47 = r.2.2.1 ∧ hI h2 10 0 48 = r.2.2.2
def oV (o : Option Nat) : Int32 := match o with
  | none => -9
  | some v => nI v
theorem sp_viewAt {g : mG} {d m : Nat} {Q : Option mV → mH → Prop} (C : mCore h nT nJ nK nV vs) (R : sameA h hm) (bm : m ≤ 1441) (K : Q (some (vi (oV (vwA h nV m)))) hm) : mT g me_fm_viewAt (d + 1) 0 0 0 [some (vr 10 0), some (vi (nI m)), none] [] hm Q := by
  have bV := C.2.1.2.2.2
  have hs := C.1.of R.1
  have c5 : hI hm 10 0 5 = nI nV := (R.2 10 0 5 rfl).trans C.k5
  have w : ∀ v, v ≤ nV → (∀ u, u < v → ¬ (vF h u ≤ m ∧ m ≤ vT h u)) → mT g me_fm_viewAt (d + 1) 0 0 2 [some (vr 10 0), some (vi (nI m)), some (vi (nI v))] [] hm Q := by
    refine upTo ?_ fun v hv ih => ?_
    · intro hu
      refine v_fm_viewAt_2 _ _ hs ⟨fun _ => ?_, fun q => absurd (by rw [c5]; exact Int32.le_refl _) q⟩
      have e : vwA h nV m = none := (fsN_none nV 0).mpr fun u _ b => decide_eq_false (hu u (by omega))
      rw [e] at K
      exact K
    · intro hu
      obtain ⟨n1, n2, n3, n4, n5, n6, n7⟩ := C.vn hv
      refine v_fm_viewAt_2 _ _ hs ⟨fun q => absurd q (by rw [c5]; exact nnle hv (by omega)), fun _ => ⟨nin (by omega) (by omega), ?_⟩⟩
      rw [nc (by omega : v ≤ 1000000), R.2 11 25 v rfl, R.2 11 26 v rfl, n1, n4, nI_1]
      have nx : ¬ (vF h v ≤ m ∧ m ≤ vT h v) → ∀ u, u < v + 1 → ¬ (vF h u ≤ m ∧ m ≤ vT h u) := fun z u b => by
        by_cases q : u = v
        · rw [q]; exact z
        · exact hu u (by omega)
      refine ⟨fun q => ih (nx fun z => ?_), fun q => ⟨nin (by omega) (by omega), fun q2 => ih (nx fun z => ?_), fun q2 => ?_⟩⟩
      · have := (nlt_iff (by omega) (by omega)).mp q; omega
      · have := (nlt_iff (by omega) (by omega)).mp q2; omega
      · have e : vwA h nV m = some v := by
          refine fsN_is (Nat.zero_le _) (by omega) (decide_eq_true ⟨?_, ?_⟩) fun u _ b => decide_eq_false (hu u b)
          · exact Nat.le_of_not_lt fun z => q (nlt z (by omega))
          · exact Nat.le_of_not_lt fun z => q2 (nlt z (by omega))
        rw [e] at K
        exact K
  exact v_fm_viewAt_0 _ hs (w 0 (Nat.zero_le _) (fun u z => absurd z (Nat.not_lt_zero _)))
/-- the least water, looked at -/
theorem sp_looks {g : mG} {d : Nat} {Q : Option mV → mH → Prop} {W : Nat → Nat} {l : Int32} (hs : mSK hm) (bT : nT ≤ 4) (c2 : hI hm 10 0 2 = nI nT) (hl : 0 ≤ l) (bW : ∀ t, t < nT → W t ≤ 100000) (hW : ∀ t, t < nT → hI hm 11 33 t = nI (W t)) (K : Q none (setI hm 10 0 47 (lowT W l nT))) : ∀ i, i ≤ nT → mT g me_fm_looksAt (d + 1) 0 0 2 [some (vr 10 0), some (vi (nI i))] [] (setI hm 10 0 47 (lowT W l i)) Q := by
  refine upTo ?_ fun i hi ih => ?_
  · exact v_fm_looksAt_2 _ (hs.of rfl) ⟨fun _ => K, fun q => absurd (by show hI hm 10 0 2 ≤ nI nT; rw [c2]; exact Int32.le_refl _) q⟩
  · refine v_fm_looksAt_2 _ (hs.of rfl) ⟨fun q => absurd (show hI hm 10 0 2 ≤ nI i from q) (by rw [c2]; exact nnle hi (by omega)), fun _ => ?_⟩
    have hp : 0 ≤ lowT W l i := lowT_pos i hl fun t ht => bW t (by omega)
    rw [hI_eq, nc (by omega : i ≤ 1000000), nI_1]
    refine ⟨fun _ => ⟨nin (by omega) (by omega), ?_⟩, fun q => absurd hp q⟩
    refine mT.hp ?_ ih
    have e : hI (setI hm 10 0 47 (lowT W l i)) 11 33 i = nI (W i) := hW i hi
    rw [e]
    refine Prod.ext rfl ?_
    funext a b c
    show (if a = 10 ∧ b = 0 ∧ c = 47 then (if nI (W i) < lowT W l i then nI (W i) else lowT W l i) else if a = 10 ∧ b = 0 ∧ c = 47 then lowT W l i else hm.2 a b c) = if a = 10 ∧ b = 0 ∧ c = 47 then lowT W l (i + 1) else hm.2 a b c
    by_cases q : a = 10 ∧ b = 0 ∧ c = 47
    · rw [if_pos q, if_pos q]; rfl
    · rw [if_neg q, if_neg q, if_neg q]
theorem sp_walk48 {g : mG} {d last : Nat} {may : Int32} {Q : Option mV → mH → Prop} (C : mCore h nT nJ nK nV vs) (h0V : 0 < nV) (hlast : vT h (nV - 1) = last) : ∀ n m, (m + n = last + 1 ∨ (n = 0 ∧ last < m)) → m ≤ 1441 → ∀ hx s o3 o4 o5, mWk h hx nT nJ s → (∀ t, t < nT → s.1 t ≤ cp h t) → 0 ≤ s.2.2.1 → (∀ h2, sameA h h2 → mWr h2 (wk h nT nJ nK nV (decide (¬ may = 0)) n m s) → Q none h2) →
    mT g me_fm_walks (d + 3) 0 0 48 [some (vr 10 0), some (vi may), some (vi (nI m)), o3, o4, o5] [] hx Q := by
  have bV := C.2.1.2.2.2
  have bK := C.2.1.2.2.1
  have bT := C.2.1.1
  have bl : last ≤ 1440 := by rw [← hlast]; exact (C.vn (v := nV - 1) (by omega)).2.2.2.2.2.1
  intro n
  induction n with
  | zero =>
    intro m hm hm2 hx s o3 o4 o5 S bw hlow K
    have c5 : hI hx 10 0 5 = nI nV := (S.1.2 10 0 5 rfl).trans C.k5
    refine v_fm_walks_48 _ _ _ _ _ (C.1.of S.1.1) ?_
    rw [c5, show (1 : Int32) = nI 1 from rfl, pk_sub (by omega), nc (by omega), S.1.2 11 26 _ rfl, (C.vn (v := nV - 1) (by omega)).2.2.2.1, hlast]
    exact ⟨nin (by omega) (by omega), fun _ => K hx S.1 ⟨S.2.2.1.2.2.2.1, S.2.2.1.2.2.2.2.1, S.2.2.1.2.2.2.2.2, S.2.2.1.1, S.2.2.1.2.1, S.2.2.1.2.2.1⟩, fun q => absurd (nlt (by omega) (by omega)) q⟩
  | succ n ih =>
    intro m hm hm2 hx s o3 o4 o5 S bw hlow K
    have c5 : hI hx 10 0 5 = nI nV := (S.1.2 10 0 5 rfl).trans C.k5
    refine v_fm_walks_48 _ _ _ _ _ (C.1.of S.1.1) ?_
    rw [c5, show (1 : Int32) = nI 1 from rfl, pk_sub (by omega), nc (by omega), S.1.2 11 26 _ rfl, (C.vn (v := nV - 1) (by omega)).2.2.2.1, hlast]
    refine ⟨nin (by omega) (by omega), fun q => absurd q (nnlt (by omega) (by omega)), fun _ => ?_⟩
    refine sp_viewAt (d := d + 1) C S.1 (by omega) ⟨_, rfl, C.1.of S.1.1, ?_⟩
    have hm' : m + 1 + n = last + 1 ∨ (n = 0 ∧ last < m + 1) := Or.inl (by omega)
    have ew : wk h nT nJ nK nV (decide (¬ may = 0)) (n + 1) m s = (match vwA h nV m with
      | none => wk h nT nJ nK nV (decide (¬ may = 0)) n (m + 1) (psW h nT nJ 0 s)
      | some v => match lkR h nT nJ (hI h 11 24 v) (hI h 11 27 v) (decide (¬ may = 0)) s.1 nK 0 s.2.2.2 with
        | (l, some k) => ((nI m, nI v, nI k), s.2.1, s.2.2.1, l)
        | (l, none) => wk h nT nJ nK nV (decide (¬ may = 0)) n (m + 1) (psW h nT nJ (hI h 11 24 v) (s.1, s.2.1, s.2.2.1, l))) := rfl
    rw [ew] at K
    clear ew
    have hvw : ∀ v, vwA h nV m = some v → v < nV := fun v e => by
      have := fsN_some nV 0 v e
      omega
    generalize hjs : (match vwA h nV m with
      | none => (0 : Int32)
      | some v => hI h 11 24 v) = js
    -- behind runs: the minute passes
    have pas : ∀ h3, sameA h h3 → mAg h h3 nJ nK js 0 → ∀ h4 l x3 o5, h4.1 = h3.1 → (∀ k n f, ¬ (k = 10 ∧ f = 48) → hI h4 k n f = hI (rnC h3 nT nJ) k n f) → (∀ t, t < nT → hI h3 11 33 t = nI (s.1 t)) → (hI h3 10 0 46 = s.2.1 ∧ hI h3 10 0 47 = s.2.2.1 ∧ hI h4 10 0 48 = l ∧ hI h3 10 0 43 = -9 ∧ hI h3 10 0 44 = -9 ∧ hI h3 10 0 45 = -9) → (∀ j, j < nJ → hI h3 11 28 j = hI h 11 19 j) → (∀ h2, sameA h h2 → mWr h2 (wk h nT nJ nK nV (decide (¬ may = 0)) n (m + 1) (psW h nT nJ js (s.1, s.2.1, s.2.2.1, l))) → Q none h2) → mT g me_fm_walks (d + 3) 0 0 216 [some (vr 10 0), some (vi may), some (vi (nI m)), some (vi x3), some (vi 0), o5] [] h4 Q := by
      intro h3 R3 A h4 l x3 o5 e4 R4 hW hS hk K
      have rnA := sameA.rn h3 nT nJ (mFlw h3 nJ) (mLs h3 (mFlw h3 nJ).1 nJ)
      have R34 : sameA h h4 := R3.tr (rnA.tr ⟨e4, fun k n f r => R4 k n f (fun z => by rw [z.1, z.2] at r; exact absurd (show false = true from r) (by decide))⟩)
      have lp : ∀ i, i ≤ nT → ∀ h5, h5.1 = h4.1 → (∀ k n f, ¬ (k = 10 ∧ 40 ≤ f ∧ f ≤ 46) → ¬ (k = 11 ∧ n = 33) → hI h5 k n f = hI h4 k n f) → (∀ t, t < nT → hI h5 11 33 t = nI (if t < i then psN h nJ js s.1 t else s.1 t)) → hI h5 10 0 46 = usT h nJ js s.1 s.2.1 i → (hI h5 10 0 43 = -9 ∧ hI h5 10 0 44 = -9 ∧ hI h5 10 0 45 = -9) → mT g me_fm_walks (d + 3) 0 0 216 [some (vr 10 0), some (vi may), some (vi (nI m)), some (vi x3), some (vi (nI i)), o5] [] h5 Q := by
        refine upTo ?_ fun i hi ihp => ?_
        · intro h5 e5 R5 hW5 h46 h43
          have R45 : sameA h h5 := R34.tr ⟨e5, fun k n f r => R5 k n f (fun z => by rw [z.1] at r; unfold relA rel at r; simp at r; omega) (fun z => by rw [z.1, z.2] at r; exact absurd (show false = true from r) (by decide))⟩
          have c2 : hI h5 10 0 2 = nI nT := (R45.2 10 0 2 rfl).trans C.k2
          refine v_fm_walks_216 _ _ _ _ _ (C.1.of R45.1) ⟨fun _ => ?_, fun q => absurd (by rw [c2]; exact Int32.le_refl _) q⟩
          have e47 : hI h5 10 0 47 = s.2.2.1 := (R5 10 0 47 (by omega) (by omega)).trans ((R4 10 0 47 (by omega)).trans hS.2.1)
          refine v_fm_looksAt_0 (d := d + 1) (C.1.of R45.1) ?_
          have fin := sp_looks (g := g) (d := d + 1) (Q := fun w h1 => w = none ∧ mSK h1 ∧ mT g me_fm_walks (d + 3) 0 0 48 [some (vr 10 0), some (vi may), some (vi (nI m + 1)), some (vi x3), some (vi (nI nT)), o5] [] h1 Q) (W := psN h nJ js s.1) (l := s.2.2.1) (C.1.of R45.1) bT c2 hlow (fun t ht => by
            have := psN_le (h := h) (nJ := nJ) js s.1 t
            have := (C.num ht).2.2.1
            omega) (fun t ht => by rw [hW5 t ht, if_pos ht]) ⟨rfl, (C.1.of R45.1).of rfl, ?_⟩ 0 (Nat.zero_le _)
          · rw [show lowT (psN h nJ js s.1) s.2.2.1 0 = s.2.2.1 from rfl, setI_id e47] at fin
            exact fin
          · rw [nI_1]
            refine ih (m + 1) hm' (by omega) _ _ _ _ _ ⟨R45.sI rfl, fun t ht => ?_, ⟨?_, hI_eq, ?_, ?_, ?_, ?_⟩, fun j hj => ?_⟩ (fun t _ => psN_le _ s.1 t) (lowT_pos nT hlow fun t ht => by
              show psN h nJ js s.1 t ≤ 100000
              have := psN_le (h := h) (nJ := nJ) js s.1 t
              have := (C.num ht).2.2.1
              omega) K
            · show hI h5 11 33 t = _
              rw [hW5 t ht, if_pos ht]
              rfl
            · exact (hI_nf (by decide)).trans h46
            · exact (hI_nf (by decide)).trans ((R5 10 0 48 (by omega) (by omega)).trans hS.2.2.1)
            · exact (hI_nf (by decide)).trans h43.1
            · exact (hI_nf (by decide)).trans h43.2.1
            · exact (hI_nf (by decide)).trans h43.2.2
            · show hI h5 11 28 j = _
              rw [R5 11 28 j (by omega) (by omega), R4 11 28 j (by omega)]
              exact hk j hj
        · intro h5 e5 R5 hW5 h46 h43
          have R45 : sameA h h5 := R34.tr ⟨e5, fun k n f r => R5 k n f (fun z => by rw [z.1] at r; unfold relA rel at r; simp at r; omega) (fun z => by rw [z.1, z.2] at r; exact absurd (show false = true from r) (by decide))⟩
          have c2 : hI h5 10 0 2 = nI nT := (R45.2 10 0 2 rfl).trans C.k2
          refine v_fm_walks_216 _ _ _ _ _ (C.1.of R45.1) ⟨fun q => absurd q (by rw [c2]; exact nnle hi (by omega)), fun _ => ?_⟩
          obtain ⟨a1, a2, a3, a4, a5, a6, a7, a8, a9⟩ := C.num hi
          obtain ⟨o1, o2⟩ := C.outJ js hi
          have hw := bw i hi
          have v33 : hI h5 11 33 i = nI (s.1 i) := by rw [hW5 i hi, if_neg (by omega)]
          have v34 : hI h5 11 34 i = nI (fo h nJ js i) := by
            rw [R5 11 34 i (by omega) (by omega), R4 11 34 i (by omega)]
            unfold rnC
            rw [rnH_34 hi, ← C.flE R3.R A, o1]
          have ec : hI h5 11 8 i * hI h5 11 9 i = nI (cp h i) := by rw [R45.2 11 8 i rfl, R45.2 11 9 i rfl]; exact a1
          have es : hI h5 11 10 i = nI (sg h i) := (R45.2 11 10 i rfl).trans a4
          refine sp_passes (d := d + 1) (C.1.of R45.1) (by omega) v33 es ec v34 (by omega) (by omega) (by omega) (by omega) fun h6 p => ⟨rfl, C.1.of (p.1.trans R45.1), ?_⟩
          rw [nI_1]
          refine ihp _ (p.1.trans e5) (fun k n f z1 z2 => (hI_no (fun y => z1 ⟨y.1, by omega⟩)).trans ((p.2.1 k n f (fun y => z1 ⟨y.1, by omega⟩) (fun y => z2 ⟨y.1, y.2.1⟩)).trans (R5 k n f z1 z2))) (fun t ht => ?_) ?_ ⟨?_, ?_, ?_⟩
          · show hI h6 11 33 t = _
            by_cases q : t = i
            · subst q
              rw [if_pos (by omega)]
              exact p.2.2.2.2.2
            · rw [p.2.1 11 33 t (by omega) (by omega), hW5 t ht]
              have ec : (t < i + 1) = (t < i) := propext ⟨fun y => by omega, fun y => by omega⟩
              simp only [ec]
          · refine hI_eq.trans ?_
            rw [p.2.1 10 0 46 (by omega) (by omega), h46, p.2.2.2.1]
            rfl
          · exact (hI_nf (by decide)).trans ((p.2.1 10 0 43 (by omega) (by omega)).trans h43.1)
          · exact (hI_nf (by decide)).trans ((p.2.1 10 0 44 (by omega) (by omega)).trans h43.2.1)
          · exact (hI_nf (by decide)).trans ((p.2.1 10 0 45 (by omega) (by omega)).trans h43.2.2)
      exact lp 0 (Nat.zero_le _) h4 rfl (fun _ _ _ _ _ => rfl) (fun t ht => by
        rw [if_neg (by omega), R4 11 33 t (by omega)]
        exact hW t ht) ((R4 10 0 46 (by omega)).trans hS.1) ⟨(R4 10 0 43 (by omega)).trans hS.2.2.2.1, (R4 10 0 44 (by omega)).trans hS.2.2.2.2.1, (R4 10 0 45 (by omega)).trans hS.2.2.2.2.2⟩
    -- who plays
    have w : ∀ i, i ≤ nK → ∀ h3 o5, h3.1 = hx.1 → (∀ k n f, ¬ (k = 12 ∧ n = 2) → hI h3 k n f = hI hx k n f) → (∀ k, k < i → hI h3 12 2 k = bI (tB js k)) → mT g me_fm_walks (d + 3) 0 0 72 [some (vr 10 0), some (vi may), some (vi (nI m)), some (vi (oV (vwA h nV m))), some (vi (nI i)), o5] [] h3 Q := by
      refine upTo ?_ fun i hi ihk => ?_
      · intro h3 o5 e3 R3 hon
        have R : sameA h h3 := S.1.tr ⟨e3, fun k n f r => R3 k n f (fun z => by rw [z.1, z.2] at r; exact absurd (show false = true from r) (by decide))⟩
        have C3 := C.of R.R
        have c4 : hI h3 10 0 4 = nI nK := C3.k4
        have A : mAg h h3 nJ nK js 0 := by
          refine ⟨fun k hk => ?_, fun j hj => ?_⟩
          · rw [hon k hk, tB_bit _ (by omega), bI_0]
          · rw [R3 11 28 j (by omega), S.2.2.2 j hj, if_pos rfl]
            exact ((C.jn hj).b6.e).symm
        refine v_fm_walks_72 _ _ _ _ _ C3.1 ⟨fun _ => ?_, fun q => absurd (by rw [c4]; exact Int32.le_refl _) q⟩
        refine sp_runsC (d := d + 1) C3 (fun k hk => by rw [hon k hk]; cases tB js k <;> decide) (fun j hj => ?_) ⟨rfl, C3.1.of (sameA.rn h3 nT nJ _ _).1, ?_⟩
        · obtain ⟨l, l1, _, l2⟩ := C.lk hj
          exact ⟨l, l1, by rw [R3 11 28 j (by omega), S.2.2.2 j hj]; exact l2⟩
        have rnA := sameA.rn h3 nT nJ (mFlw h3 nJ) (mLs h3 (mFlw h3 nJ).1 nJ)
        have RA : sameA h (rnC h3 nT nJ) := R.tr rnA
        have hW3 : ∀ t, t < nT → hI h3 11 33 t = nI (s.1 t) := fun t ht => (R3 11 33 t (by omega)).trans (S.2.1 t ht)
        have hS3 : hI h3 10 0 46 = s.2.1 ∧ hI h3 10 0 47 = s.2.2.1 ∧ hI h3 10 0 48 = s.2.2.2 ∧ hI h3 10 0 43 = -9 ∧ hI h3 10 0 44 = -9 ∧ hI h3 10 0 45 = -9 := by
          rw [R3 10 0 46 (by omega), R3 10 0 47 (by omega), R3 10 0 48 (by omega), R3 10 0 43 (by omega), R3 10 0 44 (by omega), R3 10 0 45 (by omega)]
          exact S.2.2.1
        have hk3 : ∀ j, j < nJ → hI h3 11 28 j = hI h 11 19 j := fun j hj => (R3 11 28 j (by omega)).trans (S.2.2.2 j hj)
        cases ev : vwA h nV m with
        | none =>
          rw [ev] at K hjs
          dsimp only at K hjs
          subst hjs
          -- no view: to the minute at once
          have cA : hI (rnC h3 nT nJ) 10 0 4 = nI nK := c4
          refine v_fm_walks_125 _ _ _ _ _ (C.1.of RA.1) ⟨fun _ => ?_, fun _ => ⟨fun _ => ?_, fun q => absurd (by decide) q⟩⟩
          · exact pas h3 R A _ s.2.2.2 _ _ rfl (fun _ _ _ _ => rfl) hW3 ⟨hS3.1, hS3.2.1, hS3.2.2.1, hS3.2.2.2⟩ hk3 K
          · exact pas h3 R A _ s.2.2.2 _ _ rfl (fun _ _ _ _ => rfl) hW3 ⟨hS3.1, hS3.2.1, hS3.2.2.1, hS3.2.2.2⟩ hk3 K
        | some v =>
          rw [ev] at K hjs
          dsimp only at K hjs
          have hv := hvw v ev
          rw [hjs] at K
          have ers : ∀ k, k < nK → nRs (rnC h3 nT nJ) k = rsW h nT nJ js k s.1 := fun k hk => by
            have f1 := (C.nF_lt (C.nP_lt hk).1).1
            exact (C.rsE R.R A hk (hW3 _ f1)).symm
          have lp : ∀ i, i ≤ nK → ∀ h4 l o5, lkR h nT nJ js (hI h 11 27 v) (decide (¬ may = 0)) s.1 (nK - i) i l = lkR h nT nJ js (hI h 11 27 v) (decide (¬ may = 0)) s.1 nK 0 s.2.2.2 → h4.1 = h3.1 → (∀ k n f, ¬ (k = 10 ∧ f = 48) → hI h4 k n f = hI (rnC h3 nT nJ) k n f) → hI h4 10 0 48 = l → mT g me_fm_walks (d + 3) 0 0 125 [some (vr 10 0), some (vi may), some (vi (nI m)), some (vi (nI v)), some (vi (nI i)), o5] [] h4 Q := by
            refine upTo ?_ fun i hi ihl => ?_
            · intro h4 l o5 e e4 R4 e48
              have R34 : sameA h h4 := RA.tr ⟨e4, fun k n f r => R4 k n f (fun z => by rw [z.1, z.2] at r; exact absurd (show false = true from r) (by decide))⟩
              have c44 : hI h4 10 0 4 = nI nK := (R34.2 10 0 4 rfl).trans C.k4
              refine v_fm_walks_125 _ _ _ _ _ (C.1.of R34.1) ⟨fun _ => ?_, fun q => absurd (by rw [c44]; exact Int32.le_refl _) q⟩
              rw [Nat.sub_self] at e
              have e' : lkR h nT nJ js (hI h 11 27 v) (decide (¬ may = 0)) s.1 nK 0 s.2.2.2 = (l, none) := e.symm
              rw [e'] at K
              exact pas h3 R A h4 l _ _ e4 R4 hW3 ⟨hS3.1, hS3.2.1, e48, hS3.2.2.2⟩ hk3 K
            · intro h4 l o5 e e4 R4 e48
              have R34 : sameA h h4 := RA.tr ⟨e4, fun k n f r => R4 k n f (fun z => by rw [z.1, z.2] at r; exact absurd (show false = true from r) (by decide))⟩
              have c44 : hI h4 10 0 4 = nI nK := (R34.2 10 0 4 rfl).trans C.k4
              have C4 := C.of R34.R
              have en : nK - i = (nK - (i + 1)) + 1 := by omega
              rw [en] at e
              have eu : lkR h nT nJ js (hI h 11 27 v) (decide (¬ may = 0)) s.1 ((nK - (i + 1)) + 1) i l = if tB js i = true then
                  (if decide (¬ may = 0) = true ∧ rsW h nT nJ js i s.1 < hI h 11 27 v then (if rsW h nT nJ js i s.1 < l then rsW h nT nJ js i s.1 else l, some i)
                   else lkR h nT nJ js (hI h 11 27 v) (decide (¬ may = 0)) s.1 (nK - (i + 1)) (i + 1) (if rsW h nT nJ js i s.1 < l then rsW h nT nJ js i s.1 else l))
                else lkR h nT nJ js (hI h 11 27 v) (decide (¬ may = 0)) s.1 (nK - (i + 1)) (i + 1) l := rfl
              rw [eu] at e
              refine v_fm_walks_125 _ _ _ _ _ C4.1 ⟨fun q => absurd q (by rw [c44]; exact nnle hi (by omega)), fun _ => ⟨fun q => absurd q (nnneg (by omega)), fun _ => ⟨nin (by omega) (by omega), ?_⟩⟩⟩
              have eon : hI h4 12 2 i = bI (tB js i) := (R4 12 2 i (by omega)).trans (hon i hi)
              rw [nc (by omega : i ≤ 1000000), eon, nI_1]
              refine ⟨fun q => ?_, fun q => ?_⟩
              · have q' : tB js i = true := by
                  cases z : tB js i with
                  | true => rfl
                  | false => rw [z] at q; exact absurd rfl q
                rw [if_pos q'] at e
                refine sp_riseOf (d := d + 1) C4 hi ⟨_, rfl, C4.1, ?_⟩
                have er : nRs h4 i = rsW h nT nJ js i s.1 := by
                  rw [← ers i hi]
                  unfold nRs nP
                  rw [R4 12 2 i (by omega), R4 11 21 i (by omega), R4 11 31 _ (by omega)]
                rw [er, e48]
                have R5 : ∀ x, ∀ k n f, ¬ (k = 10 ∧ f = 48) → hI (setI h4 10 0 48 x) k n f = hI (rnC h3 nT nJ) k n f := fun x k n f z => (hI_no (fun y => z ⟨y.1, y.2.2⟩)).trans (R4 k n f z)
                refine ⟨fun q2 => ?_, fun q2 => ⟨nin (by omega) (by omega), ?_⟩⟩
                · rw [if_neg (fun z => (of_decide_eq_true z.1) q2)] at e
                  exact ihl _ _ _ e e4 (R5 _) hI_eq
                · rw [nc (by omega : v ≤ 1000000), R34.2 11 27 v rfl]
                  refine ⟨fun q3 => ?_, fun q3 => ?_⟩
                  · rw [if_pos ⟨decide_eq_true q2, q3⟩] at e
                    rw [← e] at K
                    dsimp only at K
                    refine K _ ((((R34.sI rfl).sI rfl).sI rfl).sI rfl) ⟨?_, ?_, ?_, ?_, ?_, ?_⟩
                    · exact (hI_nf (by decide)).trans ((hI_nf (by decide)).trans hI_eq)
                    · exact (hI_nf (by decide)).trans hI_eq
                    · exact hI_eq
                    · exact (hI_nf (by decide)).trans ((hI_nf (by decide)).trans ((hI_nf (by decide)).trans ((hI_nf (by decide)).trans ((R4 10 0 46 (by omega)).trans hS3.1))))
                    · exact (hI_nf (by decide)).trans ((hI_nf (by decide)).trans ((hI_nf (by decide)).trans ((hI_nf (by decide)).trans ((R4 10 0 47 (by omega)).trans hS3.2.1))))
                    · exact (hI_nf (by decide)).trans ((hI_nf (by decide)).trans ((hI_nf (by decide)).trans hI_eq))
                  · rw [if_neg (fun z => q3 z.2)] at e
                    exact ihl _ _ _ e e4 (R5 _) hI_eq
              · have q' : ¬ tB js i = true := fun z => by rw [z] at q; exact absurd q (by decide)
                rw [if_neg q'] at e
                exact ihl h4 l _ e e4 R4 e48
          exact lp 0 (Nat.zero_le _) _ s.2.2.2 _ rfl rfl (fun _ _ _ _ => rfl) hS3.2.2.1
      · intro h3 o5 e3 R3 hon
        have R : sameA h h3 := S.1.tr ⟨e3, fun k n f r => R3 k n f (fun z => by rw [z.1, z.2] at r; exact absurd (show false = true from r) (by decide))⟩
        have C3 := C.of R.R
        have c4 : hI h3 10 0 4 = nI nK := C3.k4
        have nx : ∀ b : Int32, b = bI (tB js i) → mT g me_fm_walks (d + 3) 0 0 72 [some (vr 10 0), some (vi may), some (vi (nI m)), some (vi (oV (vwA h nV m))), some (vi (nI (i + 1))), o5] [] (setI h3 12 2 i b) Q := by
          intro b hb
          refine ihk _ _ e3 (fun k n f z => (hI_no (fun y => z ⟨y.1, y.2.1⟩)).trans (R3 k n f z)) fun k hk => ?_
          rw [hI_setI2]
          by_cases q : k = i
          · rw [if_pos q, q, hb]
          · rw [if_neg q]; exact hon k (by omega)
        refine v_fm_walks_72 _ _ _ _ _ C3.1 ⟨fun q => absurd q (by rw [c4]; exact nnle hi (by omega)), fun _ => ?_⟩
        rw [nc (by omega : i ≤ 1000000), nI_1]
        cases ev : vwA h nV m with
        | none =>
          rw [ev] at hjs nx
          dsimp only at hjs
          subst hjs
          exact ⟨fun _ => ⟨nin (by omega) (by omega), nx 0 (by rw [tB_0]; rfl)⟩, fun q => absurd (by decide) q⟩
        | some v =>
          rw [ev] at hjs nx
          dsimp only at hjs
          have hv := hvw v ev
          have hpos := (C.vw hv).2.2.2.2.2.2.2.1
          have hnn : ¬ hI h 11 24 v < 0 := fun z => by
            rw [ilt] at z hpos
            omega
          refine ⟨fun q => absurd q (nnneg (by omega)), fun _ => ⟨nin (by omega) (by omega), ?_⟩⟩
          show (¬ ((hI h3 11 24 (nI v).toNatClampNeg >>> (nI i &&& 31)) &&& 1) = 1 → _) ∧ (((hI h3 11 24 (nI v).toNatClampNeg >>> (nI i &&& 31)) &&& 1) = 1 → _)
          rw [nc (by omega : v ≤ 1000000), R.2 11 24 v rfl, shr_bit hnn (by omega), hjs]
          refine ⟨fun q => ⟨nin (by omega) (by omega), nx 0 ?_⟩, fun q => ⟨nin (by omega) (by omega), nx 1 ?_⟩⟩
          · cases z : tB js i with
            | true => exact absurd z q
            | false => rfl
          · rw [q]; rfl
    exact w 0 (Nat.zero_le _) hx _ rfl (fun _ _ _ _ => rfl) (fun k hk => absurd hk (Nat.not_lt_zero _))
end CORE
