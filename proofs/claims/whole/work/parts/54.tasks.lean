/-! the tasks of all views -/
abbrev Tk : Type := Nat × Nat × Bool
def chg (m : Nat) (a b : Int32) : Nat → List Tk
  | 0 => []
  | k + 1 => chg m a b k ++ (if tB a k = tB b k then [] else [(m, k, tB b k)])
def tkS (h : mH) (nK : Nat) : Nat → List Tk × Int32 × Nat
  | 0 => ([], 0, 0)
  | v + 1 => ((if (tkS h nK v).2.2 = vF h v then (tkS h nK v).1 ++ chg (vF h v) (tkS h nK v).2.1 (hI h 11 24 v) nK
      else ((tkS h nK v).1 ++ chg (tkS h nK v).2.2 (tkS h nK v).2.1 0 nK) ++ chg (vF h v) 0 (hI h 11 24 v) nK), hI h 11 24 v, vT h v + 1)
def tkL (h : mH) (nK nV : Nat) : List Tk := (tkS h nK nV).1 ++ chg (tkS h nK nV).2.2 (tkS h nK nV).2.1 0 nK
theorem chg_len {m : Nat} {a b : Int32} : ∀ k, (chg m a b k).length ≤ k
  | 0 => Nat.le_refl _
  | k + 1 => by
    unfold chg
    have := chg_len (m := m) (a := a) (b := b) k
    rw [List.length_append]
    split
    · simp; omega
    · simp; omega
theorem chg_eq {m : Nat} {a : Int32} : ∀ k, chg m a a k = []
  | 0 => rfl
  | k + 1 => by
    unfold chg
    rw [chg_eq k, if_pos rfl]
    rfl
theorem tkS_len (h : mH) {nK : Nat} (bK : nK ≤ 24) : ∀ v, (v = 0 → (tkS h nK v).1.length = 0) ∧ (tkS h nK v).1.length ≤ 48 * v - 24
  | 0 => ⟨fun _ => rfl, Nat.le_refl _⟩
  | v + 1 => by
    refine ⟨fun z => by omega, ?_⟩
    obtain ⟨z, l⟩ := tkS_len h bK v
    have e : (tkS h nK (v + 1)).1 = (if (tkS h nK v).2.2 = vF h v then (tkS h nK v).1 ++ chg (vF h v) (tkS h nK v).2.1 (hI h 11 24 v) nK
      else ((tkS h nK v).1 ++ chg (tkS h nK v).2.2 (tkS h nK v).2.1 0 nK) ++ chg (vF h v) 0 (hI h 11 24 v) nK) := rfl
    rw [e]
    have c1 := chg_len (m := vF h v) (a := (tkS h nK v).2.1) (b := hI h 11 24 v) nK
    have c2 := chg_len (m := (tkS h nK v).2.2) (a := (tkS h nK v).2.1) (b := 0) nK
    have c3 := chg_len (m := vF h v) (a := 0) (b := hI h 11 24 v) nK
    by_cases q : v = 0
    · subst q
      have e2 : chg (tkS h nK 0).2.2 (tkS h nK 0).2.1 0 nK = [] := chg_eq nK
      rw [e2]
      split <;> simp only [List.length_append, List.length_nil] <;> have := z rfl <;> omega
    · split <;> simp only [List.length_append] <;> omega
section CORE
variable {h h' hm : mH} {nT nJ nK nV nT' nJ' nK' : Nat} {vs : Nat → Nat}
/-- the class's rows of tasks; the model's -/
def tCr (h h' : mH) (L : List Tk) : Prop := (∀ i x, L[i]? = some x → hI h' 11 0 i = nI x.1 ∧ hI h' 11 1 i = nI x.2.1 ∧ hI h' 11 2 i = bI x.2.2 ∧ hI h' 11 3 i = nI (nP h x.2.1)) ∧ hI h' 4 0 7 = nI L.length
def tMr (h' : mH) (L : List Tk) : Prop := (∀ i x, L[i]? = some x → hI h' 11 36 i = nI x.1 ∧ hI h' 11 37 i = nI x.2.1 ∧ hI h' 11 38 i = bI x.2.2) ∧ hI h' 10 0 52 = nI L.length
theorem get_app {L : List Tk} {y x : Tk} {i : Nat} (e : (L ++ [y])[i]? = some x) : (i < L.length ∧ L[i]? = some x) ∨ (i = L.length ∧ x = y) := by
  by_cases q : i < L.length
  · rw [List.getElem?_append_left q] at e
    exact Or.inl ⟨q, e⟩
  · rw [List.getElem?_append_right (by omega)] at e
    by_cases q2 : i - L.length = 0
    · rw [q2] at e
      simp at e
      exact Or.inr ⟨by omega, e.symm⟩
    · rw [List.getElem?_eq_none (by simp; omega)] at e
      cases e
theorem tCr.add {L : List Tk} (T : tCr h h' L) {m k : Nat} {b : Bool} {x1 x2 x3 x4 x5 : Int32} (e1 : x1 = nI m) (e2 : x2 = nI k) (e3 : x3 = bI b) (e4 : x4 = nI (nP h k)) (e5 : x5 = nI (L.length + 1)) : tCr h (setI (setI (setI (setI (setI h' 11 0 L.length x1) 11 1 L.length x2) 11 2 L.length x3) 11 3 L.length x4) 4 0 7 x5) (L ++ [(m, k, b)]) := by
  refine ⟨fun i x e => ?_, ?_⟩
  · rcases get_app e with ⟨q, e⟩ | ⟨rfl, rfl⟩
    · obtain ⟨a1, a2, a3, a4⟩ := T.1 i x e
      have z : ∀ y, ∀ n, hI (setI (setI (setI (setI (setI h' 11 0 L.length x1) 11 1 L.length x2) 11 2 L.length x3) 11 3 L.length x4) 4 0 7 y) 11 n i = hI h' 11 n i := fun y n => (hI_no (fun w => absurd w.1 (by decide))).trans ((hI_no (fun w => by omega)).trans ((hI_no (fun w => by omega)).trans ((hI_no (fun w => by omega)).trans (hI_no (fun w => by omega)))))
      rw [z, z, z, z]
      exact ⟨a1, a2, a3, a4⟩
    · refine ⟨?_, ?_, ?_, ?_⟩
      · exact (hI_no (fun w => absurd w.1 (by decide))).trans ((hI_no (fun w => absurd w.2.1 (by decide))).trans ((hI_no (fun w => absurd w.2.1 (by decide))).trans ((hI_no (fun w => absurd w.2.1 (by decide))).trans (hI_eq.trans e1))))
      · exact (hI_no (fun w => absurd w.1 (by decide))).trans ((hI_no (fun w => absurd w.2.1 (by decide))).trans ((hI_no (fun w => absurd w.2.1 (by decide))).trans (hI_eq.trans e2)))
      · exact (hI_no (fun w => absurd w.1 (by decide))).trans ((hI_no (fun w => absurd w.2.1 (by decide))).trans (hI_eq.trans e3))
      · exact (hI_no (fun w => absurd w.1 (by decide))).trans (hI_eq.trans e4)
  · rw [List.length_append]
    exact hI_eq.trans e5
theorem tMr.add {L : List Tk} (T : tMr h' L) {m k : Nat} {b : Bool} {x1 x2 x3 x5 : Int32} (e1 : x1 = nI m) (e2 : x2 = nI k) (e3 : x3 = bI b) (e5 : x5 = nI (L.length + 1)) : tMr (setI (setI (setI (setI h' 11 36 L.length x1) 11 37 L.length x2) 11 38 L.length x3) 10 0 52 x5) (L ++ [(m, k, b)]) := by
  refine ⟨fun i x e => ?_, ?_⟩
  · rcases get_app e with ⟨q, e⟩ | ⟨rfl, rfl⟩
    · obtain ⟨a1, a2, a3⟩ := T.1 i x e
      have z : ∀ y, ∀ n, hI (setI (setI (setI (setI h' 11 36 L.length x1) 11 37 L.length x2) 11 38 L.length x3) 10 0 52 y) 11 n i = hI h' 11 n i := fun y n => (hI_no (fun w => absurd w.1 (by decide))).trans ((hI_no (fun w => by omega)).trans ((hI_no (fun w => by omega)).trans (hI_no (fun w => by omega))))
      rw [z, z, z]
      exact ⟨a1, a2, a3⟩
    · refine ⟨?_, ?_, ?_⟩
      · exact (hI_no (fun w => absurd w.1 (by decide))).trans ((hI_no (fun w => absurd w.2.1 (by decide))).trans ((hI_no (fun w => absurd w.2.1 (by decide))).trans (hI_eq.trans e1)))
      · exact (hI_no (fun w => absurd w.1 (by decide))).trans ((hI_no (fun w => absurd w.2.1 (by decide))).trans (hI_eq.trans e2))
      · exact (hI_no (fun w => absurd w.1 (by decide))).trans (hI_eq.trans e3)
  · rw [List.length_append]
    exact hI_eq.trans e5
theorem sp_addChange {g : mG} {d m : Nat} {a b x1 : Int32} {L : List Tk} {Q : Option mV → mH → Prop} (C : mCore h nT nJ nK nV vs) (R : sameA h h') (T : tCr h h' L) (bl : L.length + nK ≤ 576) (hx : x1 = nI m) (K : ∀ h2, sameA h h2 → tCr h h2 (L ++ chg m a b nK) → Q none h2) : mT g me_tl_addChange (d + 4) 0 0 0 [some (vr 4 0), some (vi x1), some (vi a), some (vi b), none, none] [] h' Q := by
  have bK := C.2.1.2.2.1
  refine v_tl_addChange_0 _ _ _ (C.1.of R.1) ?_
  have w : ∀ k, k ≤ nK → ∀ h2 o5, sameA h h2 → tCr h h2 (L ++ chg m a b k) → mT g me_tl_addChange (d + 4) 0 0 3 [some (vr 4 0), some (vi x1), some (vi a), some (vi b), some (vi (nI k)), o5] [] h2 Q := by
    refine upTo ?_ fun k hk ih => ?_
    · intro h2 o5 R2 T2
      have lst : mCl h2 2 8 nK id := C.2.2.1.2.2.1.of R2.1 (R2.2 2 2 1 rfl)
      exact v_tl_addChange_3 _ _ _ _ _ (C.1.of R2.1) ⟨fun _ => K h2 R2 T2, fun q => absurd (by rw [lst.1]; exact Int32.le_refl _) q⟩
    · intro h2 o5 R2 T2
      have lst : mCl h2 2 8 nK id := C.2.2.1.2.2.1.of R2.1 (R2.2 2 2 1 rfl)
      have lc := chg_len (m := m) (a := a) (b := b) k
      have ll : (L ++ chg m a b k).length < 576 := by rw [List.length_append]; omega
      have ebit : hI h2 8 k 1 = mBit k := (R2.2 8 k 1 rfl).trans (C.bit hk)
      have en : hI h2 4 0 7 = nI (L ++ chg m a b k).length := T2.2
      obtain ⟨p1, p2, p3, p4⟩ := C.nP_lt hk
      have q4 : hP h2 8 k 2 = some (7, nP h k) := by rw [hP_of R2.1]; exact p4
      have e0 : hI h2 7 (nP h k) 0 = nI (nP h k) := (R2.2 7 _ 0 rfl).trans (C.jn p1).1
      have hin : vp_in (hI h2 4 0 7) 576 := by rw [en]; exact nin ll (by omega)
      have hlt : ¬ (576 : Int32) ≤ hI h2 4 0 7 := by rw [en]; exact nnle (a := 576) ll (by omega)
      have cl : (hI h2 4 0 7).toNatClampNeg = (L ++ chg m a b k).length := by rw [en, nc (by omega)]
      have same : tB a k = tB b k → mT g me_tl_addChange (d + 4) 0 0 3 [some (vr 4 0), some (vi x1), some (vi a), some (vi b), some (vi (nI k + 1)), some (vr 8 k)] [] h2 Q := by
        intro q
        rw [nI_1]
        refine ih h2 _ R2 ?_
        have e : chg m a b (k + 1) = chg m a b k ++ (if tB a k = tB b k then [] else [(m, k, tB b k)]) := rfl
        rw [e, if_pos q, List.append_nil]
        exact T2
      have diff : ¬ tB a k = tB b k → ∀ x3, x3 = bI (tB b k) → mT g me_tl_addChange (d + 4) 0 0 3 [some (vr 4 0), some (vi x1), some (vi a), some (vi b), some (vi (nI k + 1)), some (vr 8 k)] [] (setI (setI (setI (setI (setI h2 11 0 (hI h2 4 0 7).toNatClampNeg x1) 11 1 (hI h2 4 0 7).toNatClampNeg (nI k)) 11 2 (hI h2 4 0 7).toNatClampNeg x3) 11 3 (hI h2 4 0 7).toNatClampNeg (hI h2 7 (nP h k) 0)) 4 0 7 (hI h2 4 0 7 + 1)) Q := by
        intro q x3 hx3
        rw [nI_1 k, cl]
        have e : chg m a b (k + 1) = chg m a b k ++ (if tB a k = tB b k then [] else [(m, k, tB b k)]) := rfl
        refine ih _ _ (((((R2.sI rfl).sI rfl).sI rfl).sI rfl).sI rfl) ?_
        rw [e, if_neg q, ← List.append_assoc]
        exact T2.add hx rfl hx3 e0 (by rw [en, nI_1])
      refine v_tl_addChange_3 _ _ _ _ _ (C.1.of R2.1) ⟨fun q => absurd q (by rw [lst.1]; exact nnle hk (by omega)), fun _ => ⟨k, lst.get hk, ?_⟩⟩
      show (a &&& hI h2 8 k 1 = 0 → _) ∧ (¬ a &&& hI h2 8 k 1 = 0 → _)
      rw [ebit]
      have ta := tB_bit a (k := k) (by omega)
      have tb := tB_bit b (k := k) (by omega)
      refine ⟨fun qa => ⟨fun qb => ?_, fun qb => ⟨fun q => absurd q hlt, fun _ => ⟨hin, hin, fun q => absurd q qb, fun _ => ⟨hin, _, q4, hin, ?_⟩⟩⟩⟩, fun qa => ⟨fun qb => ⟨fun q => absurd q hlt, fun _ => ⟨hin, hin, fun _ => ⟨hin, _, q4, hin, ?_⟩, fun q => absurd qb q⟩⟩, fun qb => ?_⟩⟩
      · exact same ((ta.mp qa).trans (tb.mp qb).symm)
      · have zb : tB b k = true := (tB_nbit b (by omega)).mp qb
        exact diff (by rw [ta.mp qa, zb]; decide) 1 (by rw [zb]; rfl)
      · have za : tB a k = true := (tB_nbit a (by omega)).mp qa
        exact diff (by rw [za, tb.mp qb]; decide) 0 (by rw [tb.mp qb]; rfl)
      · exact same (((tB_nbit a (by omega)).mp qa).trans ((tB_nbit b (by omega)).mp qb).symm)
  exact w 0 (Nat.zero_le _) h' none R (by rw [show chg m a b 0 = [] from rfl, List.append_nil]; exact T)
theorem sp_build {g : mG} {d : Nat} {Q : Option mV → mH → Prop} (C : mCore h nT nJ nK nV vs) (K : ∀ h2, sameA h h2 → tCr h h2 (tkL h nK nV) → Q none h2) : mT g me_tl_build (d + 5) 0 0 0 [some (vr 4 0), none, none, none, none] [] h Q := by
  have bK := C.2.1.2.2.1
  have bV := C.2.1.2.2.2
  refine v_tl_build_0 C.1 ?_
  have w : ∀ v, v ≤ nV → ∀ h2 o4, sameA h h2 → tCr h h2 (tkS h nK v).1 → mT g me_tl_build (d + 5) 0 0 11 [some (vr 4 0), some (vi (tkS h nK v).2.1), some (vi (nI (tkS h nK v).2.2 - 1)), some (vi (nI v)), o4] [] h2 Q := by
    refine upTo ?_ fun v hv ih => ?_
    · intro h2 o4 R T
      have lst : mCl h2 3 9 nV vs := C.2.2.1.2.2.2.1.of R.1 (R.2 2 3 1 rfl)
      have ln := (tkS_len h bK nV).2
      refine v_tl_build_11 _ _ _ _ (C.1.of R.1) ⟨fun _ => ?_, fun q => absurd (by rw [lst.1]; exact Int32.le_refl _) q⟩
      refine sp_addChange (d := d) (m := (tkS h nK nV).2.2) C R T (by omega) (Int32.sub_add_cancel _ _) fun h3 R3 T3 => ⟨rfl, C.1.of R3.1, K h3 R3 T3⟩
    · intro h2 o4 R T
      have lst : mCl h2 3 9 nV vs := C.2.2.1.2.2.2.1.of R.1 (R.2 2 3 1 rfl)
      have ln := (tkS_len h bK v).2
      have ln0 := (tkS_len h bK v).1
      obtain ⟨n1, n2, n3, n4, n5, n6, n7⟩ := C.vn hv
      have e1 : hI h2 9 (vs v) 1 = nI (vF h v) := (R.2 9 _ 1 rfl).trans n2
      have e0 : hI h2 9 (vs v) 0 = hI h 11 24 v := (R.2 9 _ 0 rfl).trans (C.vw hv).1
      have bx : (tkS h nK v).2.2 ≤ 1441 := by
        cases v with
        | zero => exact Nat.zero_le _
        | succ u =>
          show vT h u + 1 ≤ 1441
          have := (C.vn (v := u) (by omega)).2.2.2.2.2.1
          omega
      have es : tkS h nK (v + 1) = ((if (tkS h nK v).2.2 = vF h v then (tkS h nK v).1 ++ chg (vF h v) (tkS h nK v).2.1 (hI h 11 24 v) nK
        else ((tkS h nK v).1 ++ chg (tkS h nK v).2.2 (tkS h nK v).2.1 0 nK) ++ chg (vF h v) 0 (hI h 11 24 v) nK), hI h 11 24 v, vT h v + 1) := rfl
      rw [es] at ih
      dsimp only at ih
      have bl1 : (tkS h nK v).1.length + nK ≤ 576 := by
        by_cases z : v = 0
        · have := ln0 z; omega
        · omega
      have bl2 : ((tkS h nK v).1 ++ chg (tkS h nK v).2.2 (tkS h nK v).2.1 0 nK).length + nK ≤ 576 := by
        rw [List.length_append]
        have c2 := chg_len (m := (tkS h nK v).2.2) (a := (tkS h nK v).2.1) (b := 0) nK
        by_cases z : v = 0
        · subst z
          have e2 : chg (tkS h nK 0).2.2 (tkS h nK 0).2.1 0 nK = [] := chg_eq nK
          rw [e2]
          have := ln0 rfl
          simp only [List.length_nil]
          omega
        · omega
      refine v_tl_build_11 _ _ _ _ (C.1.of R.1) ⟨fun q => absurd q (by rw [lst.1]; exact nnle hv (by omega)), fun _ => ⟨vs v, lst.get hv, ?_⟩⟩
      rw [e1, Int32.sub_add_cancel, e0, nI_1]
      have nx : ∀ h3, sameA h h3 → hI h3 9 (vs v) 0 = hI h 11 24 v ∧ hI h3 9 (vs v) 2 = nI (vT h v + 1) - 1 ∧ hI h3 9 (vs v) 1 = nI (vF h v) := fun h3 R3 => ⟨(R3.2 9 _ 0 rfl).trans (C.vw hv).1, by rw [n_sub1]; exact (R3.2 9 _ 2 rfl).trans n5, (R3.2 9 _ 1 rfl).trans n2⟩
      refine ⟨fun q => ?_, fun q => ?_⟩
      · have q' : (tkS h nK v).2.2 = vF h v := (neq_iff (by omega) (by omega)).mp q
        rw [if_pos q'] at ih
        refine sp_addChange (d := d) (m := vF h v) C R T bl1 rfl fun h3 R3 T3 => ⟨rfl, C.1.of R3.1, ?_⟩
        obtain ⟨x0, x2, _⟩ := nx h3 R3
        rw [x0, x2]
        exact ih h3 _ R3 T3
      · have q' : ¬ (tkS h nK v).2.2 = vF h v := fun z => q (by rw [z])
        rw [if_neg q'] at ih
        refine sp_addChange (d := d) (m := (tkS h nK v).2.2) C R T bl1 rfl fun h3 R3 T3 => ⟨rfl, C.1.of R3.1, ?_⟩
        obtain ⟨x0, x2, x1⟩ := nx h3 R3
        rw [x1, x0]
        refine sp_addChange (d := d) (m := vF h v) C R3 T3 bl2 rfl fun h4 R4 T4 => ⟨rfl, C.1.of R4.1, ?_⟩
        obtain ⟨y0, y2, _⟩ := nx h4 R4
        rw [y0, y2]
        exact ih h4 _ R4 T4
  have := w 0 (Nat.zero_le _) (setI h 4 0 7 0) none (sameA.rf.sI rfl) ⟨fun i x e => (by rw [show (tkS h nK 0).1 = [] from rfl] at e; simp at e), hI_eq⟩
  rw [show nI (tkS h nK 0).2.2 - 1 = -1 from (show nI 0 - 1 = -1 by decide)] at this
  exact this
end CORE
