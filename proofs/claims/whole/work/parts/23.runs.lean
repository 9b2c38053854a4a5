/-! runs of the model -/
theorem setI_id {h : mH} {k n f : Nat} {v : Int32} (e : hI h k n f = v) : setI h k n f v = h := by
  refine Prod.ext rfl ?_
  funext a b c
  show (if a = k ∧ b = n ∧ c = f then v else h.2 a b c) = h.2 a b c
  by_cases q : a = k ∧ b = n ∧ c = f
  · rw [if_pos q]
    obtain ⟨rfl, rfl, rfl⟩ := q
    exact e.symm
  · rw [if_neg q]
theorem setI_c {h : mH} {k n m : Nat} {F : Nat → Int32} {k' n' f' : Nat} {v : Int32} (hn : k' ≠ k ∨ n' ≠ n) : setI (fillI h k n m F) k' n' f' v = fillI (setI h k' n' f' v) k n m F := by
  refine Prod.ext rfl ?_
  funext a b c
  show (if a = k' ∧ b = n' ∧ c = f' then v else if a = k ∧ b = n ∧ c < m then F c else h.2 a b c) = if a = k ∧ b = n ∧ c < m then F c else if a = k' ∧ b = n' ∧ c = f' then v else h.2 a b c
  by_cases q : a = k' ∧ b = n' ∧ c = f'
  · rw [if_pos q, if_neg (fun z => by rcases hn with hn | hn; exact hn (q.1.symm.trans z.1); exact hn (q.2.1.symm.trans z.2.1)), if_pos q]
  · rw [if_neg q, if_neg q]
/-- the pipes of the model -/
def mMs (h : mH) (nT nJ nK : Nat) : Prop := ∀ j, j < nJ → (∃ t, t < nT ∧ hI h 11 15 j = nI t) ∧ (hI h 11 14 j = -9 ∨ ∃ a, a < j ∧ hI h 11 14 j = nI a) ∧ (hI h 11 20 j = -9 ∨ ∃ k, k < nK ∧ hI h 11 20 j = nI k) ∧ (hI h 12 0 j = 0 ∨ hI h 12 0 j = 1)
def nA (h : mH) (j : Nat) : Option Nat := if hI h 11 14 j < 0 then none else some (hI h 11 14 j).toNatClampNeg
def nF (h : mH) (j : Nat) : Nat := (hI h 11 15 j).toNatClampNeg
def nEm (h : mH) (j : Nat) : Bool := decide (¬ hI h 12 0 j = 0)
def nOw (h : mH) (j : Nat) : Int32 := hI h 11 28 j + (if hI h 11 20 j < 0 then 0 else if hI h 12 2 (hI h 11 20 j).toNatClampNeg = 0 then 0 else hI h 11 22 (hI h 11 20 j).toNatClampNeg)
def mW (h : mH) (nT nJ : Nat) (s : (Nat → Int32) × (Nat → Int32)) : mH := fillI (fillI h 11 34 nT s.2) 11 29 nJ s.1
theorem mW_set {h : mH} {nT nJ i : Nat} {s : (Nat → Int32) × (Nat → Int32)} {v : Int32} (hi : i < nJ) : setI (mW h nT nJ s) 11 29 i v = mW h nT nJ (upd s.1 i v, s.2) := fillI_u hi
theorem mW_out {h : mH} {nT nJ t : Nat} {s : (Nat → Int32) × (Nat → Int32)} {v : Int32} (ht : t < nT) : setI (mW h nT nJ s) 11 34 t v = mW h nT nJ (s.1, upd s.2 t v) := by
  unfold mW
  rw [setI_c (Or.inr (by decide)), fillI_u ht]
theorem mW_f {h : mH} {nT nJ i : Nat} {s : (Nat → Int32) × (Nat → Int32)} (hi : i < nJ) : hI (mW h nT nJ s) 11 29 i = s.1 i := if_pos ⟨rfl, rfl, hi⟩
theorem mW_o {h : mH} {nT nJ t : Nat} {s : (Nat → Int32) × (Nat → Int32)} (ht : t < nT) : hI (mW h nT nJ s) 11 34 t = s.2 t := by
  show (if (11 : Nat) = 11 ∧ (34 : Nat) = 29 ∧ t < nJ then s.1 t else if (11 : Nat) = 11 ∧ (34 : Nat) = 34 ∧ t < nT then s.2 t else hI h 11 34 t) = s.2 t
  rw [if_neg (by omega), if_pos ⟨rfl, rfl, ht⟩]
theorem upd_id {f : Nat → Int32} {k : Nat} {v : Int32} (e : f k = v) : upd f k v = f := by
  funext j
  show (if j = k then v else f j) = f j
  by_cases q : j = k
  · rw [if_pos q, q, e]
  · rw [if_neg q]
theorem t_10 : ((1 : Int32) = 0) = False := eq_false (by decide)
theorem t_00 : ((0 : Int32) = 0) = True := eq_true rfl
theorem t_9 : ((-9 : Int32) < 0) = True := eq_true (by decide)
/-- the first pass -/
theorem sp_runs1 {g : mG} {d nT nJ nK : Nat} {h : mH} {Q : Option mV → mH → Prop} (hsk : mSK h) (bT : nT ≤ 4) (bJ : nJ ≤ 30) (bK : nK ≤ 24) (hs : mMs h nT nJ nK) (hon : ∀ k, k < nK → hI h 12 2 k = 0 ∨ hI h 12 2 k = 1)
    (hup : ∀ j a, j < nJ → nA h j = some a → nEm h a = true → nEm h j = true) :
    ∀ i, i ≤ nJ → ∀ (s : (Nat → Int32) × (Nat → Int32)) (o2 o3 : Option mV), (∀ j, j < nJ → nEm h j = true → s.1 j = 0) →
      (∀ s', s' = flR (nEm h) (nA h) (nF h) (nOw h) i s → (∀ j, j < nJ → nEm h j = true → s'.1 j = 0) → mT g me_fm_runs (d + 1) 0 0 190 [some (vr 10 0), some (vi 0), o2, o3] [] (mW h nT nJ s') Q) →
      mT g me_fm_runs (d + 1) 0 0 53 [some (vr 10 0), some (vi (nI i - 1)), o2, o3] [] (mW h nT nJ s) Q := by
  intro i
  induction i with
  | zero =>
    intro _ s o2 o3 hz K
    exact v_fm_runs_53 _ _ _ (hsk.of rfl) ⟨fun _ => K s rfl hz, fun q => absurd (by decide : (nI 0 - 1 : Int32) < 0) q⟩
  | succ i ih =>
    intro hi s o2 o3 hz K
    have hi' : i < nJ := by omega
    have hsk' : mSK (mW h nT nJ s) := hsk.of rfl
    have c0 : (nI i).toNatClampNeg = i := nc (by omega)
    have hin : vp_in (nI i) 30 := nin (by omega) (by omega)
    obtain ⟨⟨t, ht, ef⟩, ha, hj, he⟩ := hs i hi'
    have f1 : hI (mW h nT nJ s) 11 15 i = nI t := ef
    have ct : (nI t).toNatClampNeg = t := nc (by omega)
    have hit : vp_in (nI t) 4 := nin (by omega) (by omega)
    have eF : nF h i = t := by unfold nF; rw [ef, ct]
    -- the step of the flows, by the pipe ahead
    have key : ∀ v : Int32, (∀ s', s' = (match nA h i with
          | none => (upd s.1 i v, upd s.2 t (s.2 t + v))
          | some a => (upd (upd s.1 i v) a (upd s.1 i v a + v), s.2)) → s' = flS (nEm h) (nA h) (nF h) (nOw h) i s) →
        ((hI h 11 14 i = -9 → mT g me_fm_runs (d + 1) 0 0 53 [some (vr 10 0), some (vi (nI i + (-1))), o2, o3] [] (setI (setI (mW h nT nJ s) 11 29 i v) 11 34 t (hI (mW h nT nJ s) 11 34 t + v)) Q) ∧
         (∀ a, a < i → hI h 11 14 i = nI a → mT g me_fm_runs (d + 1) 0 0 53 [some (vr 10 0), some (vi (nI i + (-1))), o2, o3] [] (setI (setI (mW h nT nJ s) 11 29 i v) 11 29 a (hI (setI (mW h nT nJ s) 11 29 i v) 11 29 a + v)) Q)) := by
      intro v hv
      have go : ∀ s', s' = flS (nEm h) (nA h) (nF h) (nOw h) i s → (∀ j, j < nJ → nEm h j = true → s'.1 j = 0) → mT g me_fm_runs (d + 1) 0 0 53 [some (vr 10 0), some (vi (nI i + (-1))), o2, o3] [] (mW h nT nJ s') Q := by
        intro s' es hz'
        rw [x_m1]
        refine ih (by omega) s' o2 o3 hz' fun s'' e2 hz2 => K s'' ?_ hz2
        rw [e2, es]
        rfl
      have hzS : ∀ j, j < nJ → nEm h j = true → (flS (nEm h) (nA h) (nF h) (nOw h) i s).1 j = 0 := by
        intro j hj1 hj2
        by_cases hei : nEm h i = true
        · rw [flS_e hei]; exact hz j hj1 hj2
        · have hij : j ≠ i := fun q => hei (q ▸ hj2)
          cases hA : nA h i with
          | none => rw [flS_n hei hA]; show upd s.1 i _ j = 0; rw [pk_un hij]; exact hz j hj1 hj2
          | some a =>
            have hja : j ≠ a := fun q => hei (hup i a hi' hA (q ▸ hj2))
            rw [flS_a hei hA]
            show upd (upd s.1 i _) a _ j = 0
            rw [pk_un hja, pk_un hij]
            exact hz j hj1 hj2
      refine ⟨fun e => ?_, fun a la e => ?_⟩
      · have hA : nA h i = none := by unfold nA; rw [e]; rfl
        have e2 := hv _ rfl
        rw [hA] at e2
        rw [mW_set hi', mW_out ht, mW_o ht]
        exact go _ e2 (fun j h1 h2 => (congrArg (fun z => z.1 j) e2).trans (hzS j h1 h2))
      · have hA : nA h i = some a := by unfold nA; rw [e, if_neg (nnneg (by omega)), nc (by omega)]
        have e2 := hv _ rfl
        rw [hA] at e2
        rw [mW_set hi', mW_f (by omega : a < nJ), mW_set (by omega : a < nJ)]
        exact go _ e2 (fun j h1 h2 => (congrArg (fun z => z.1 j) e2).trans (hzS j h1 h2))
    rw [n_sub1]
    refine v_fm_runs_53 _ _ _ hsk' ⟨fun q => absurd q (nnneg (by omega)), fun _ => ⟨hin, ?_⟩⟩
    rw [c0]
    rcases he with he | he
    · -- not empty
      have f2 : hI (mW h nT nJ s) 12 0 i = 0 := he
      have hne : ¬ nEm h i = true := fun z => (of_decide_eq_true z) he
      have fin : ∀ v, v = s.1 i + nOw h i → ∀ s', s' = (match nA h i with
          | none => (upd s.1 i v, upd s.2 t (s.2 t + v))
          | some a => (upd (upd s.1 i v) a (upd s.1 i v a + v), s.2)) → s' = flS (nEm h) (nA h) (nF h) (nOw h) i s := by
        intro v ev s' es
        subst ev
        rw [es]
        cases hA : nA h i with
        | none => rw [flS_n hne hA, eF]
        | some a => rw [flS_a hne hA]
      rcases hj with hj | ⟨k, hk, hj⟩
      · have f3 : hI (mW h nT nJ s) 11 20 i = -9 := hj
        have kk := key (hI (mW h nT nJ s) 11 29 i + (hI (mW h nT nJ s) 11 28 i + 0)) (fin _ (by rw [mW_f hi']; unfold nOw; rw [hj, if_pos (by decide)]; rfl))
        rcases ha with ha | ⟨a, la, ha⟩
        · have f4 : hI (mW h nT nJ s) 11 14 i = -9 := ha
          have k1 := kk.1 ha
          simp only [f1, f2, f3, f4, ct, eq_true hin, eq_true hit, t_9, t_00, not_true_eq_false, false_implies, true_implies, true_and, and_true]
          exact k1
        · have f4 : hI (mW h nT nJ s) 11 14 i = nI a := ha
          have ca : (nI a).toNatClampNeg = a := nc (by omega)
          have hia : vp_in (nI a) 30 := nin (by omega) (by omega)
          have na : (nI a < 0) = False := eq_false (nnneg (by omega))
          have k1 := kk.2 a la ha
          simp only [f1, f2, f3, f4, ct, ca, na, eq_true hin, eq_true hit, eq_true hia, t_9, t_00, not_true_eq_false, not_false_eq_true, false_implies, true_implies, true_and, and_true]
          exact k1
      · have f3 : hI (mW h nT nJ s) 11 20 i = nI k := hj
        have ck : (nI k).toNatClampNeg = k := nc (by omega)
        have hik : vp_in (nI k) 24 := nin (by omega) (by omega)
        have nk : (nI k < 0) = False := eq_false (nnneg (by omega))
        rcases hon k hk with ho | ho
        · have f5 : hI (mW h nT nJ s) 12 2 k = 0 := ho
          have kk := key (hI (mW h nT nJ s) 11 29 i + (hI (mW h nT nJ s) 11 28 i + 0)) (fin _ (by rw [mW_f hi']; unfold nOw; rw [hj, if_neg (nnneg (by omega)), ck, ho, if_pos rfl]; rfl))
          rcases ha with ha | ⟨a, la, ha⟩
          · have f4 : hI (mW h nT nJ s) 11 14 i = -9 := ha
            have k1 := kk.1 ha
            simp only [f1, f2, f3, f4, f5, ct, ck, nk, eq_true hin, eq_true hit, eq_true hik, t_9, t_00, not_true_eq_false, not_false_eq_true, false_implies, true_implies, true_and, and_true]
            exact k1
          · have f4 : hI (mW h nT nJ s) 11 14 i = nI a := ha
            have ca : (nI a).toNatClampNeg = a := nc (by omega)
            have hia : vp_in (nI a) 30 := nin (by omega) (by omega)
            have na : (nI a < 0) = False := eq_false (nnneg (by omega))
            have k1 := kk.2 a la ha
            simp only [f1, f2, f3, f4, f5, ct, ca, ck, na, nk, eq_true hin, eq_true hit, eq_true hia, eq_true hik, t_9, t_00, not_true_eq_false, not_false_eq_true, false_implies, true_implies, true_and, and_true]
            exact k1
        · have f5 : hI (mW h nT nJ s) 12 2 k = 1 := ho
          have kk := key (hI (mW h nT nJ s) 11 29 i + (hI (mW h nT nJ s) 11 28 i + hI (mW h nT nJ s) 11 22 k)) (fin _ (by rw [mW_f hi']; unfold nOw; rw [hj, if_neg (nnneg (by omega)), ck, ho, if_neg (by decide)]; rfl))
          rcases ha with ha | ⟨a, la, ha⟩
          · have f4 : hI (mW h nT nJ s) 11 14 i = -9 := ha
            have k1 := kk.1 ha
            simp only [f1, f2, f3, f4, f5, ct, ck, nk, eq_true hin, eq_true hit, eq_true hik, t_9, t_00, t_10, not_true_eq_false, not_false_eq_true, false_implies, true_implies, true_and, and_true]
            exact k1
          · have f4 : hI (mW h nT nJ s) 11 14 i = nI a := ha
            have ca : (nI a).toNatClampNeg = a := nc (by omega)
            have hia : vp_in (nI a) 30 := nin (by omega) (by omega)
            have na : (nI a < 0) = False := eq_false (nnneg (by omega))
            have k1 := kk.2 a la ha
            simp only [f1, f2, f3, f4, f5, ct, ca, ck, na, nk, eq_true hin, eq_true hit, eq_true hia, eq_true hik, t_9, t_00, t_10, not_true_eq_false, not_false_eq_true, false_implies, true_implies, true_and, and_true]
            exact k1
    · have f2 : hI (mW h nT nJ s) 12 0 i = 1 := he
      have hem : nEm h i = true := by unfold nEm; rw [he]; decide
      have z0 : s.1 i = 0 := hz i hi' hem
      have kk := key 0 (fun s' es => by
        rw [es, flS_e hem]
        cases nA h i with
        | none => show (upd s.1 i 0, upd s.2 t (s.2 t + 0)) = s; rw [upd_id z0, upd_id (Int32.add_zero _).symm]
        | some a => show (upd (upd s.1 i 0) a (upd s.1 i 0 a + 0), s.2) = s; rw [upd_id z0, upd_id (Int32.add_zero _).symm])
      rcases ha with ha | ⟨a, la, ha⟩
      · have f4 : hI (mW h nT nJ s) 11 14 i = -9 := ha
        have k1 := kk.1 ha
        simp only [f1, f2, f4, ct, eq_true hin, eq_true hit, t_9, t_00, t_10, not_true_eq_false, not_false_eq_true, false_implies, true_implies, true_and, and_true]
        exact k1
      · have f4 : hI (mW h nT nJ s) 11 14 i = nI a := ha
        have ca : (nI a).toNatClampNeg = a := nc (by omega)
        have hia : vp_in (nI a) 30 := nin (by omega) (by omega)
        have na : (nI a < 0) = False := eq_false (nnneg (by omega))
        have k1 := kk.2 a la ha
        simp only [f1, f2, f4, ct, ca, na, eq_true hin, eq_true hit, eq_true hia, t_9, t_00, t_10, not_true_eq_false, not_false_eq_true, false_implies, true_implies, true_and, and_true]
        exact k1
