/-! the order of emptying, on the heaps of both -/
def pO (k _n f : Nat) : Bool := !(k == 7 && (f == 12 || f == 13))
def bI (b : Bool) : Int32 := if b = true then 1 else 0
theorem bI_z (b : Bool) : vp_nar .boolean (bI b) = bI b := by cases b <;> rfl
theorem bI_0 {b : Bool} : bI b = 0 ↔ b = false := by cases b <;> decide
theorem eI {x : Int32} (h : x = 0 ∨ x = 1) : x = bI (decide (¬ x = 0)) := by rcases h with rfl | rfl <;> decide
section CORE
variable {h h' hm : mH} {nT nJ nK nV nT' nJ' nK' : Nat} {vs : Nat → Nat}
theorem pO_A {k n f : Nat} (r : relA k n f = true) : pO k n f = true := by
  unfold pO
  by_cases q : k = 7
  · subst q
    unfold relA rel at r
    simp only [Bool.or_eq_true, Bool.and_eq_true, beq_iff_eq, Nat.blt_eq] at r
    simp
    omega
  · simp [q]
theorem pO_to (e : h'.1 = h.1) (R : sameOn pO h h') : sameA h h' := ⟨e, fun k n f r => R k n f (pO_A r)⟩
/-- the class's rows of what is done and not done behind -/
def oRep (h h' : mH) (nJ : Nat) (D : Nat → Bool) (N : Nat → Nat) : Prop := h'.1 = h.1 ∧ sameOn pO h h' ∧ (∀ j, j < nJ → hI h' 7 j 12 = bI (D j)) ∧ ∀ j, j < nJ → hI h' 7 j 13 = nI (N j)
theorem oRep.s13 {D : Nat → Bool} {N : Nat → Nat} (O : oRep h h' nJ D N) {a v : Nat} : oRep h (setI h' 7 a 13 (nI v)) nJ D (updN N a v) := by
  refine ⟨O.1, O.2.1.tr (sameOn.rf.sI rfl), fun j hj => ?_, fun j hj => ?_⟩
  · rw [hI_nf (by decide)]; exact O.2.2.1 j hj
  · rw [hI_n2]
    unfold updN
    by_cases q : j = a
    · rw [if_pos q, if_pos q]
    · rw [if_neg q, if_neg q]; exact O.2.2.2 j hj
theorem oRep.s12 {D : Nat → Bool} {N : Nat → Nat} (O : oRep h h' nJ D N) {b : Nat} : oRep h (setI h' 7 b 12 1) nJ (don D b) N := by
  refine ⟨O.1, O.2.1.tr (sameOn.rf.sI rfl), fun j hj => ?_, fun j hj => ?_⟩
  · rw [hI_n2]
    unfold don
    by_cases q : j = b
    · rw [if_pos q, if_pos q]; rfl
    · rw [if_neg q, if_neg q]; exact O.2.2.1 j hj
  · rw [hI_nf (by decide)]; exact O.2.2.2 j hj
theorem oRep.N {D : Nat → Bool} {N N' : Nat → Nat} (O : oRep h h' nJ D N) (e : ∀ j, j < nJ → N j = N' j) : oRep h h' nJ D N' := ⟨O.1, O.2.1, O.2.2.1, fun j hj => by rw [← e j hj]; exact O.2.2.2 j hj⟩
theorem cnt_s (p : Nat → Bool) (n : Nat) : cnt p (n + 1) = cnt p n + (if p n = true then 1 else 0) := rfl
/-- counted from the last one on -/
def cntD (p : Nat → Bool) (n i : Nat) : Nat := cnt p n - cnt p i
theorem cnt_mono {p : Nat → Bool} {i : Nat} : ∀ n, i ≤ n → cnt p i ≤ cnt p n
  | 0, h => by rw [show i = 0 by omega]; exact Nat.le_refl _
  | n + 1, h => by
    by_cases q : i = n + 1
    · rw [q]; exact Nat.le_refl _
    · rw [cnt_s]
      have := cnt_mono (p := p) n (i := i) (by omega)
      omega
theorem cntD_s {p : Nat → Bool} {n i : Nat} (h : i + 1 ≤ n) : cntD p n i = cntD p n (i + 1) + (if p i = true then 1 else 0) := by
  unfold cntD
  have h1 := cnt_mono (p := p) n h
  have h2 := cnt_s p i
  omega
theorem sp_beginOrder {g : mG} {d : Nat} {Q : Option mV → mH → Prop} (C : mCore h nT nJ nK nV vs) (K : ∀ h', oRep h h' nJ (fun j => nEm h j) (fun j => nb (nA h) nJ (fun j => nEm h j) j) → Q none h') : mT g me_ga_beginOrder (d + 4) 0 0 0 [some (vr 1 0), none, none] [] h Q := by
  have bJ := C.2.1.2.1
  have lst : ∀ h', h'.1 = h.1 → sameOn pO h h' → mCl h' 1 7 nJ id := fun h' e R => C.2.2.1.2.1.of e (R 2 1 1 rfl)
  have w2 : ∀ i, i ≤ nJ → ∀ h' o2, oRep h h' nJ (fun j => nEm h j) (fun j => cntD (fun k => decide (nA h k = some j) && !nEm h k) nJ i) → mT g me_ga_beginOrder (d + 4) 0 0 73 [some (vr 1 0), some (vi (nI i - 1)), o2] [] h' Q := by
    intro i
    induction i with
    | zero =>
      intro _ h' o2 O
      refine v_ga_beginOrder_73 _ _ (C.1.of O.1) ⟨fun _ => K h' (O.N fun j _ => ?_), fun q => absurd (by decide : (nI 0 - 1 : Int32) < 0) q⟩
      unfold cntD nb
      rfl
    | succ i ih =>
      intro hi h' o2 O
      rw [n_sub1]
      refine v_ga_beginOrder_73 _ _ (C.1.of O.1) ⟨fun q => absurd q (nnneg (by omega)), fun _ => ⟨i, (lst h' O.1 O.2.1).get (by omega), fun q => ?_, fun q => ⟨fun e => ?_, fun kq a e => ⟨C.1.2.2 7 i 2 7 _ rfl (by rw [← hP_of O.1]; exact e), ?_⟩⟩⟩⟩
      · rw [x_m1]
        refine ih (by omega) h' _ (O.N fun j hj => ?_)
        rw [O.2.2.1 i (by omega), bI_0] at q
        rw [cntD_s hi]
        have : nEm h i = true := by
          cases z : nEm h i with
          | true => rfl
          | false => exact absurd z q
        simp [this]
      · rw [x_m1]
        refine ih (by omega) h' _ (O.N fun j hj => ?_)
        rw [cntD_s hi]
        have ea : nA h i = none := by
          rw [← C.ah (by omega)]
          unfold jA
          rw [← hP_of O.1, e]
          rfl
        simp [ea]
      · rw [x_m1]
        have ea : nA h i = some a := by
          rw [← C.ah (by omega)]
          unfold jA
          rw [← hP_of O.1, e]
          rfl
        have la := C.lt (j := i) (by omega) ea
        rw [O.2.2.1 i (by omega), bI_0] at q
        rw [O.2.2.2 a (by omega), nI_1]
        refine ih (by omega) _ _ ((O.s13 (a := a)).N fun j hj => ?_)
        rw [cntD_s (p := fun k => decide (nA h k = some j) && !nEm h k) hi]
        unfold updN
        by_cases z : j = a
        · subst z
          rw [if_pos rfl]
          simp [ea, q]
        · rw [if_neg z]
          have : ¬ a = j := fun y => z y.symm
          simp [ea, this]
  have w1 : ∀ i, i ≤ nJ → ∀ h' o2, h'.1 = h.1 → sameOn pO h h' → (∀ j, i ≤ j → j < nJ → hI h' 7 j 12 = bI (nEm h j) ∧ hI h' 7 j 13 = 0) → mT g me_ga_beginOrder (d + 4) 0 0 10 [some (vr 1 0), some (vi (nI i - 1)), o2] [] h' Q := by
    intro i
    induction i with
    | zero =>
      intro _ h' o2 e R F
      refine v_ga_beginOrder_10 _ _ (C.1.of e) ⟨fun _ => ?_, fun q => absurd (by decide : (nI 0 - 1 : Int32) < 0) q⟩
      rw [(lst h' e R).1]
      refine w2 nJ (Nat.le_refl _) h' o2 ⟨e, R, fun j hj => (F j (Nat.zero_le _) hj).1, fun j hj => ?_⟩
      unfold cntD
      dsimp only
      rw [Nat.sub_self]
      exact (F j (Nat.zero_le _) hj).2
    | succ i ih =>
      intro hi h' o2 e R F
      rw [n_sub1]
      have G := (lst h' e R).get (i := i) (by omega)
      have e8 : hI h' 7 i 8 = bI (nEm h i) := by
        rw [R 7 i 8 rfl, C.e8 (by omega)]
        exact eI (C.ez (by omega))
      refine v_ga_beginOrder_10 _ _ (C.1.of e) ⟨fun q => absurd q (nnneg (by omega)), fun _ => ⟨i, G, i, G, ?_, i, G, ?_⟩⟩
      · rw [e8]; exact bI_z _
      · rw [x_m1]
        refine ih (by omega) _ _ e (R.tr ((sameOn.rf.sI rfl).sI rfl)) fun j h1 h2 => ?_
        rw [hI_nf (f := 13) (by decide), hI_n2, hI_n2, hI_nf (f := 12) (by decide)]
        by_cases q : j = i
        · subst q
          rw [if_pos rfl, if_pos rfl]
          exact ⟨e8, rfl⟩
        · rw [if_neg q, if_neg q]
          exact F j (by omega) h2
  refine v_ga_beginOrder_0 C.1 ?_
  rw [C.2.2.1.2.1.1]
  exact w1 nJ (Nat.le_refl _) h none rfl sameOn.rf (fun j h1 h2 => absurd h2 (by omega))
def oP : Option Nat → Option (Nat × Nat) := fun o => o.map fun b => (7, b)
theorem sp_nextInOrder {g : mG} {d : Nat} {Q : Option mV → mH → Prop} {D : Nat → Bool} (C : mCore h nT nJ nK nV vs) (O : oRep h h' nJ D (nb (nA h) nJ D)) (K : Q (some (vp (oP (bst (nA h) (hI h 11 16) nJ D nJ)))) h') : mT g me_ga_nextInOrder (d + 4) 0 0 0 [some (vr 1 0), none, none, none, none] [] h' Q := by
  have bJ := C.2.1.2.1
  have hs := C.1.of O.1
  have lst : mCl h' 1 7 nJ id := C.2.2.1.2.1.of O.1 (O.2.1 2 1 1 rfl)
  have e3 : ∀ j, j < nJ → hI h' 7 j 3 = hI h 11 16 j := fun j hj => by rw [O.2.1 7 j 3 rfl]; exact (C.jn hj).2.2.2.1.e
  refine v_ga_nextInOrder_0 hs ?_
  have w : ∀ i, i ≤ nJ → ∀ o3 o4, mT g me_ga_nextInOrder (d + 4) 0 0 4 [some (vr 1 0), some (vp (oP (bst (nA h) (hI h 11 16) nJ D i))), some (vi (nI i)), o3, o4] [] h' Q := by
    refine upTo ?_ fun i hi ih => ?_
    · intro o3 o4
      exact v_ga_nextInOrder_4 _ _ _ _ hs ⟨fun _ => K, fun q => absurd (by rw [lst.1]; exact Int32.le_refl _) q⟩
    · intro o3 o4
      have nr : ¬ rdy (nA h) nJ D i = true → bst (nA h) (hI h 11 16) nJ D (i + 1) = bst (nA h) (hI h 11 16) nJ D i := fun q => by
        show (if _ then _ else _) = _
        rw [if_neg q]
      have yr : rdy (nA h) nJ D i = true → bst (nA h) (hI h 11 16) nJ D (i + 1) = (match bst (nA h) (hI h 11 16) nJ D i with
          | none => some i
          | some b => if hI h 11 16 i ≤ hI h 11 16 b then some b else some i) := fun q => by
        exact if_pos q
      refine v_ga_nextInOrder_4 _ _ _ _ hs ⟨fun q => absurd q (by rw [lst.1]; exact nnle hi (by omega)), fun _ => ⟨i, lst.get hi, ?_⟩⟩
      rw [O.2.2.1 i hi, O.2.2.2 i hi, nI_1]
      have bn : nb (nA h) nJ D i ≤ nJ := cnt_le nJ
      refine ⟨fun q => ?_, fun q => ⟨fun q2 => ?_, fun q2 => ?_⟩⟩
      · have := ih (some (vr 7 i)) (some (vi 0))
        rw [nr (fun z => q (bI_0.mpr (rdy_D z)))] at this
        exact this
      · have := ih (some (vr 7 i)) (some (vi 0))
        rw [nr (fun z => by unfold rdy at z; rw [Bool.and_eq_true] at z; exact q2 (by rw [of_decide_eq_true z.2]; rfl))] at this
        exact this
      · have r : rdy (nA h) nJ D i = true := by
          unfold rdy
          rw [bI_0.mp q, decide_eq_true ((neq_iff (b := 0) (by omega) (by omega)).mp q2)]
          rfl
        have ih2 := ih (some (vr 7 i)) (some (vi 1))
        rw [yr r] at ih2
        cases eb : bst (nA h) (hI h 11 16) nJ D i with
        | none =>
          rw [eb] at ih2
          exact ⟨fun _ => ih2, ns0⟩
        | some b =>
          rw [eb] at ih2
          have lb := (bst_some _ _ eb).1
          refine ⟨sn0, ss0 ?_⟩
          rw [e3 i hi, e3 b (by omega)]
          refine ⟨fun z => ?_, fun z => ?_⟩
          · dsimp only at ih2
            rw [if_pos z] at ih2
            exact ih2
          · dsimp only at ih2
            rw [if_neg z] at ih2
            exact ih2
  exact w 0 (Nat.zero_le _) none none
theorem sp_inOrder {g : mG} {d : Nat} {Q : Option mV → mH → Prop} (C : mCore h nT nJ nK nV vs) (x : Int32) (K : ∀ h', sameA h h' → Q (some (vi (ordX (nA h) (hI h 11 16) nJ x nJ 0 (fun j => nEm h j)))) h') : mT g me_ga_jointInOrder (d + 5) 0 0 0 [some (vr 1 0), some (vi x), none, none] [] h Q := by
  have bJ := C.2.1.2.1
  refine v_ga_jointInOrder_0 _ C.1 (sp_beginOrder (d := d) C fun h' O => ⟨rfl, C.1.of O.1, ?_⟩)
  have w : ∀ m n, n + m = nJ → ∀ D h' o3, oRep h h' nJ D (nb (nA h) nJ D) → (∀ h2, sameA h h2 → Q (some (vi (ordX (nA h) (hI h 11 16) nJ x m n D))) h2) → mT g me_ga_jointInOrder (d + 5) 0 0 6 [some (vr 1 0), some (vi x), some (vi (nI n)), o3] [] h' Q := by
    intro m
    induction m with
    | zero =>
      intro n hn D h' o3 O K
      have lst : mCl h' 1 7 nJ id := C.2.2.1.2.1.of O.1 (O.2.1 2 1 1 rfl)
      refine v_ga_jointInOrder_6 _ _ _ (C.1.of O.1) ⟨fun _ => K h' (pO_to O.1 O.2.1), fun q => absurd ?_ q⟩
      rw [lst.1, show n = nJ by omega]
      exact Int32.le_refl _
    | succ m ih =>
      intro n hn D h' o3 O K
      have lst : mCl h' 1 7 nJ id := C.2.2.1.2.1.of O.1 (O.2.1 2 1 1 rfl)
      refine v_ga_jointInOrder_6 _ _ _ (C.1.of O.1) ⟨fun q => absurd q (by rw [lst.1]; exact nnle (by omega) (by omega)), fun _ => sp_nextInOrder (d := d) C O ⟨_, rfl, C.1.of O.1, ?_⟩⟩
      have RA := pO_to O.1 O.2.1
      have eo : ordX (nA h) (hI h 11 16) nJ x (m + 1) n D = (match bst (nA h) (hI h 11 16) nJ D nJ with
        | none => -9
        | some b => if nI n = x then nI b else ordX (nA h) (hI h 11 16) nJ x m (n + 1) (don D b)) := rfl
      rw [eo] at K
      cases eb : bst (nA h) (hI h 11 16) nJ D nJ with
      | none =>
        rw [eb] at K
        exact ⟨fun _ => K h' RA, ns0⟩
      | some b =>
        rw [eb] at K
        dsimp only at K
        obtain ⟨lb, rb⟩ := bst_some _ _ eb
        refine ⟨sn0, ss0 ⟨fun q => ?_, fun q => ?_⟩⟩
        · rw [if_neg q] at K
          rw [nI_1]
          have O2 := O.s12 (b := b)
          have ea : jA h b = nA h b := C.ah lb
          refine ⟨fun e => ?_, fun kq a e => ⟨C.1.2.2 7 b 2 7 _ rfl (by rw [← hP_of O.1]; exact e), ?_⟩⟩
          · refine ih (n + 1) (by omega) (don D b) _ _ (O2.N fun j hj => ?_) K
            have e2 : nA h b = none := by rw [← ea]; unfold jA; rw [← hP_of O.1, e]; rfl
            rw [nb_don lb (rdy_D rb) j, e2, if_neg (by intro z; cases z)]
            rfl
          · have e2 : nA h b = some a := by rw [← ea]; unfold jA; rw [← hP_of O.1, e]; rfl
            have la := C.lt lb e2
            have ns := nb_don lb (rdy_D rb) a (ah := nA h)
            rw [e2, if_pos rfl] at ns
            have e3 : hI h' 7 a 13 - 1 = nI (nb (nA h) nJ (don D b) a) := by
              rw [O.2.2.2 a (by omega), ns, n_sub1]
            rw [e3]
            refine ih (n + 1) (by omega) (don D b) _ _ ((O2.s13 (a := a)).N fun j hj => ?_) K
            unfold updN
            by_cases z : j = a
            · rw [if_pos z, z]
            · rw [if_neg z]
              have := nb_don lb (rdy_D rb) j (ah := nA h)
              rw [e2, if_neg (by intro y; cases y; exact z rfl)] at this
              exact this
        · rw [if_pos q] at K
          rw [O.2.1 7 b 0 rfl, (C.jn lb).1]
          exact K h' RA
  exact w nJ 0 (by omega) _ h' none O K
/-- the model's row of trials -/
def oM (h h' : mH) (nJ : Nat) (D : Nat → Bool) : Prop := h'.1 = h.1 ∧ (∀ k n f, ¬ (k = 12 ∧ n = 4) → hI h' k n f = hI h k n f) ∧ ∀ j, j < nJ → hI h' 12 4 j = bI (D j)
theorem oM.A {D : Nat → Bool} (O : oM h h' nJ D) : sameA h h' := ⟨O.1, fun k n f r => O.2.1 k n f (fun z => by rw [z.1, z.2] at r; exact absurd (show false = true from r) (by decide))⟩
theorem sp_orderM {g : mG} {d : Nat} {Q : Option mV → mH → Prop} (C : mCore h nT nJ nK nV vs) (x : Int32) (K : ∀ h', sameA h h' → Q (some (vi (ordX (nA h) (hI h 11 16) nJ x nJ 0 (fun j => nEm h j)))) h') : mT g me_fm_order (d + 2) 0 0 0 [some (vr 10 0), some (vi x), none, none, none] [] h Q := by
  have bJ := C.2.1.2.1
  -- one round of the best
  have best : ∀ (D : Nat → Bool) h' n, oM h h' nJ D → (∀ o4, (bst (nA h) (hI h 11 16) nJ D nJ = none → Q (some (vi (-9))) h') ∧ (∀ b, bst (nA h) (hI h 11 16) nJ D nJ = some b → mT g me_fm_order (d + 2) 0 0 33 [some (vr 10 0), some (vi x), some (vi (nI b)), some (vi (nI n + 1)), o4] [] (setI h' 12 4 b 1) Q)) → ∀ i, i ≤ nJ → mT g me_fm_order (d + 2) 0 0 44 [some (vr 10 0), some (vi x), some (vi (match bst (nA h) (hI h 11 16) nJ D i with
      | none => -9
      | some b => nI b)), some (vi (nI n)), some (vi (nI i))] [] h' Q := by
    intro D h' n O Kb
    have hs := C.1.of O.1
    have c3 : hI h' 10 0 3 = nI nJ := (O.2.1 10 0 3 (by omega)).trans C.k3
    refine upTo ?_ fun i hi ih => ?_
    · cases eb : bst (nA h) (hI h 11 16) nJ D nJ with
      | none => exact v_fm_order_44 _ _ _ _ hs ⟨fun _ => ⟨fun q => absurd q (by decide), fun _ => (Kb none).1 eb⟩, fun q => absurd (by rw [c3]; exact Int32.le_refl _) q⟩
      | some b =>
        have lb := (bst_some _ _ eb).1
        refine v_fm_order_44 _ _ _ _ hs ⟨fun _ => ⟨fun _ => ⟨nin (by omega) (by omega), ?_⟩, fun q => absurd (nI_pos' (by omega)) q⟩, fun q => absurd (by rw [c3]; exact Int32.le_refl _) q⟩
        rw [nc (by omega)]
        exact (Kb _).2 b eb
    · refine v_fm_order_44 _ _ _ _ hs ⟨fun q => absurd q (by rw [c3]; exact nnle hi (by omega)), fun _ => ?_⟩
      rw [nI_1]
      have hr : rdy (nA h) nJ D i = true ↔ (hI h' 12 4 i = 0 ∧ ∀ k, i < k → k < nJ → hI h' 11 14 k = nI i → ¬ hI h' 12 4 k = 0) := by
        unfold rdy nb
        rw [Bool.and_eq_true, decide_eq_true_iff, cnt_0, O.2.2 i hi, bI_0]
        refine and_congr (by cases D i <;> simp) ⟨fun z k k1 k2 k3 => ?_, fun z k hk => ?_⟩
        · rw [O.2.2 k k2, bI_0]
          rw [O.2.1 11 14 k (by omega)] at k3
          have e : nA h k = some i := by unfold nA; rw [k3, if_neg (nnneg (by omega)), nc (by omega)]
          have := z k k2
          rw [e] at this
          simpa using this
        · by_cases q : nA h k = some i
          · have li := C.lt hk q
            have e14 : hI h' 11 14 k = nI i := by
              rw [O.2.1 11 14 k (by omega)]
              unfold nA at q
              rcases C.ahd hk with y | ⟨a, _, y⟩
              · rw [y, if_pos (by decide)] at q; cases q
              · rw [y, if_neg (nnneg (by omega)), nc (by omega)] at q
                cases q
                exact y
            have := z k li hk e14
            rw [O.2.2 k hk, bI_0] at this
            simp [this]
          · rw [decide_eq_false q]; rfl
      have eq1 : bst (nA h) (hI h 11 16) nJ D (i + 1) = if rdy (nA h) nJ D i = true then (match bst (nA h) (hI h 11 16) nJ D i with
          | none => some i
          | some b => if hI h 11 16 i ≤ hI h 11 16 b then some b else some i) else bst (nA h) (hI h 11 16) nJ D i := rfl
      rw [eq1] at ih
      refine sp_mayM (d := d) hs c3 bJ hs.l12.2 hi (fun z => ?_) (fun z => ?_)
      · rw [if_pos (hr.mpr z)] at ih
        refine ⟨_, rfl, hs, fun q => absurd q (by decide), fun _ => ?_⟩
        cases eb : bst (nA h) (hI h 11 16) nJ D i with
        | none =>
          rw [eb] at ih
          exact ⟨fun _ => ih, fun q => absurd (by decide) q⟩
        | some b =>
          rw [eb] at ih
          have lb := (bst_some _ _ eb).1
          dsimp only at ih ⊢
          refine ⟨fun q => absurd q (nnneg (by omega)), fun _ => ⟨nin (by omega) (by omega), nin (by omega) (by omega), ?_⟩⟩
          rw [nc (by omega), nc (by omega), O.2.1 11 16 i (by omega), O.2.1 11 16 b (by omega)]
          refine ⟨fun q => ?_, fun q => ?_⟩
          · rw [if_pos q] at ih; exact ih
          · rw [if_neg q] at ih; exact ih
      · rw [if_neg (fun y => z (hr.mp y))] at ih
        exact ⟨_, rfl, hs, fun _ => ih, fun q => absurd rfl q⟩
  -- the rounds
  have w : ∀ m n, n ≤ 1000 → n + m ≤ 1000 → ∀ D h' x2 o4, oM h h' nJ D → cnt (fun j => !D j) nJ ≤ m → ¬ x < nI n → (∀ h2, sameA h h2 → Q (some (vi (ordX (nA h) (hI h 11 16) nJ x m n D))) h2) → mT g me_fm_order (d + 2) 0 0 33 [some (vr 10 0), some (vi x), some (vi x2), some (vi (nI n)), o4] [] h' Q := by
    intro m
    induction m with
    | zero =>
      intro n hn hb D h' x2 o4 O hc hx K
      refine v_fm_order_33 _ _ _ _ (C.1.of O.1) ⟨fun q => absurd q hx, fun _ => ?_⟩
      have hD : ∀ j, j < nJ → D j = true := fun j hj => by
        have := (cnt_0 nJ).mp (by omega : cnt (fun j => !D j) nJ = 0) j hj
        simpa using this
      have eb : bst (nA h) (hI h 11 16) nJ D nJ = none := bst_none nJ hD
      exact best D h' n O (fun _ => ⟨fun _ => K h' O.A, fun b z => by rw [eb] at z; cases z⟩) 0 (Nat.zero_le _)
    | succ m ih =>
      intro n hn hb D h' x2 o4 O hc hx K
      refine v_fm_order_33 _ _ _ _ (C.1.of O.1) ⟨fun q => absurd q hx, fun _ => ?_⟩
      have eo : ordX (nA h) (hI h 11 16) nJ x (m + 1) n D = (match bst (nA h) (hI h 11 16) nJ D nJ with
        | none => -9
        | some b => if nI n = x then nI b else ordX (nA h) (hI h 11 16) nJ x m (n + 1) (don D b)) := rfl
      rw [eo] at K
      refine best D h' n O (fun o4 => ⟨fun eb => ?_, fun b eb => ?_⟩) 0 (Nat.zero_le _)
      · rw [eb] at K
        exact K h' O.A
      · rw [eb] at K
        dsimp only at K
        obtain ⟨lb, rb⟩ := bst_some _ _ eb
        have O2 : oM h (setI h' 12 4 b 1) nJ (don D b) := by
          refine ⟨O.1, fun k n f z => (if_neg (fun y => z ⟨y.1, y.2.1⟩)).trans (O.2.1 k n f z), fun j hj => ?_⟩
          rw [hI_setI2]
          unfold don
          by_cases q : j = b
          · rw [if_pos q, if_pos q]; rfl
          · rw [if_neg q, if_neg q]; exact O.2.2 j hj
        rw [nI_1]
        by_cases q : nI n = x
        · rw [if_pos q] at K
          refine v_fm_order_33 _ _ _ _ (C.1.of O2.1) ⟨fun _ => K _ O2.A, fun z => absurd ?_ z⟩
          rw [← q]
          exact nlt (by omega) (by omega)
        · rw [if_neg q] at K
          have := don_cnt lb (rdy_D rb)
          refine ih (n + 1) (by omega) (by omega) (don D b) _ _ _ O2 (by omega) (fun z => ?_) K
          rcases i_or x with y | ⟨i, i1, rfl⟩
          · have h0 : nI n ≤ x := Int32.not_lt.mp hx
            have h1 : (0 : Int32) ≤ nI n := nI_pos' (by omega)
            rw [ile] at h0 h1
            rw [ilt] at y
            omega
          · have h1 : ¬ i < n := fun y => hx (nI_lt y (by omega))
            have h2 : i < n + 1 := (nI_ltI i1 (by omega)).mp z
            exact q (by rw [show i = n by omega])
  -- the trials are laid
  have w0 : ∀ i, i ≤ nJ → ∀ h' o3 o4, h'.1 = h.1 → (∀ k n f, ¬ (k = 12 ∧ n = 4) → hI h' k n f = hI h k n f) → (∀ j, j < i → hI h' 12 4 j = bI (nEm h j)) → mT g me_fm_order (d + 2) 0 0 2 [some (vr 10 0), some (vi x), some (vi (nI i)), o3, o4] [] h' Q := by
    refine upTo ?_ fun i hi ih => ?_
    · intro h' o3 o4 e R F
      have c3 : hI h' 10 0 3 = nI nJ := (R 10 0 3 (by omega)).trans C.k3
      have O : oM h h' nJ (fun j => nEm h j) := ⟨e, R, F⟩
      refine v_fm_order_2 _ _ _ _ (C.1.of e) ⟨fun _ => ?_, fun q => absurd (by rw [c3]; exact Int32.le_refl _) q⟩
      by_cases hx : x < 0
      · refine v_fm_order_33 _ _ _ _ (C.1.of e) ⟨fun _ => ?_, fun q => absurd hx q⟩
        have := K h' O.A
        rw [ordX_neg hx nJ 0 _ (by omega)] at this
        exact this
      · exact w nJ 0 (by omega) (by omega) _ h' _ _ O (cnt_le nJ) hx K
    · intro h' o3 o4 e R F
      have c3 : hI h' 10 0 3 = nI nJ := (R 10 0 3 (by omega)).trans C.k3
      have e0 : hI h' 12 0 i = bI (nEm h i) := by
        rw [R 12 0 i (by omega)]
        exact eI (C.ez hi)
      refine v_fm_order_2 _ _ _ _ (C.1.of e) ⟨fun q => absurd q (by rw [c3]; exact nnle hi (by omega)), fun _ => ?_⟩
      rw [nc (by omega), e0, nI_1]
      refine ⟨nin (by omega) (by omega), nin (by omega) (by omega), bI_z _, ih _ _ _ e (fun k n f z => (if_neg (fun y => z ⟨y.1, y.2.1⟩)).trans (R k n f z)) fun j hj => ?_⟩
      rw [hI_setI2]
      by_cases q : j = i
      · rw [if_pos q, q]
      · rw [if_neg q]; exact F j (by omega)
  exact v_fm_order_0 _ C.1 (w0 0 (Nat.zero_le _) h none none rfl (fun _ _ _ _ => rfl) (fun j hj => absurd hj (Nat.not_lt_zero _)))
theorem op_order {g : mG} {d : Nat} (I : mI h nT nJ nK nV vs) (x : Int32) : mB g me_fn_order me_fm_order (d + 9) 0 0 [some (vr 0 0), some (vi x)] [some (vr 10 0), some (vi x), none, none, none] h := by
  have C := I.1
  refine mB.qR I (ordX (nA h) (hI h 11 16) nJ x nJ 0 (fun j => nEm h j)) (fun Q K => v_fn_order_0 (d := d + 3) _ C.1 (sp_inOrder (d := d + 3) C x fun h' R => ⟨_, rfl, C.1.of R.1, K h' R⟩)) (fun hC R I' Q K => ?_)
  have e1 : nA hC = nA h := by funext j; unfold nA; rw [R.2 11 14 j rfl]
  have e2 : hI hC 11 16 = hI h 11 16 := by funext j; rw [R.2 11 16 j rfl]
  have e3 : nEm hC = nEm h := by funext j; unfold nEm; rw [R.2 12 0 j rfl]
  refine sp_orderM (d := d + 7) I'.1 x fun h' R' => ?_
  rw [e1, e2, e3]
  exact K h' R'
end CORE
