/-! runs of the model, whole -/
def m2H (W : mH) (i : Nat) (A L C : Nat → Int32) : mH := fillI (fillI (fillI W 11 30 i A) 11 35 i L) 11 31 i C
theorem m2_step {W : mH} {i : Nat} {A L C : Nat → Int32} {v1 v2 v3 : Int32} (e1 : v1 = A i) (e2 : v2 = L i) (e3 : v3 = C i) : setI (setI (setI (m2H W i A L C) 11 30 i v1) 11 35 i v2) 11 31 i v3 = m2H W (i + 1) A L C := by
  unfold m2H
  rw [setI_c (k' := 11) (n' := 30) (Or.inr (by decide)), setI_c (k' := 11) (n' := 30) (Or.inr (by decide)), fillI_s e1, setI_c (k' := 11) (n' := 35) (Or.inr (by decide)), fillI_s e2, fillI_s e3]
theorem m2_0 (W : mH) (A L C : Nat → Int32) : m2H W 0 A L C = W := by
  unfold m2H
  rw [fillI_0, fillI_0, fillI_0]
def nLs (h : mH) (fl : Nat → Int32) (j : Nat) : Int32 := lossO (fl j) (hI h 11 18 j) (hI h 11 17 j)
def nHd (h : mH) (L : Nat → Int32) (j : Nat) : Int32 := if nEm h j = true then 0 else if hI h 11 33 (nF h j) = 0 then 0 else ((hI h 11 7 (nF h j) + hI h 11 33 (nF h j) / hI h 11 8 (nF h j)) - L j) - hI h 11 16 j
def nLo (h : mH) (fl L : Nat → Int32) (j : Nat) : Int32 := if nEm h j = true then -1 else nLs h fl j + (match nA h j with
  | none => 0
  | some a => L a)
def rnH (h : mH) (nT nJ : Nat) (s : (Nat → Int32) × (Nat → Int32)) (L : Nat → Int32) : mH := m2H (mW h nT nJ s) nJ (nLs h s.1) L (nHd h L)
theorem size_nz {x : Int32} (hx : ∃ s, 1 ≤ s ∧ s ≤ 9 ∧ x = nI s) : ¬ ((100 : Int64) * Int32.toInt64 x) * Int32.toInt64 x = 0 := by
  obtain ⟨s, h1, h9, rfl⟩ := hx
  rcases (show s = 1 ∨ s = 2 ∨ s = 3 ∨ s = 4 ∨ s = 5 ∨ s = 6 ∨ s = 7 ∨ s = 8 ∨ s = 9 by omega) with rfl | rfl | rfl | rfl | rfl | rfl | rfl | rfl | rfl <;> decide
theorem sp_runs2 {g : mG} {d nT nJ nK : Nat} {h : mH} {Q : Option mV → mH → Prop} {s : (Nat → Int32) × (Nat → Int32)} {L : Nat → Int32} (hsk : mSK h) (hc3 : hI h 10 0 3 = nI nJ) (bT : nT ≤ 4) (bJ : nJ ≤ 30) (hs : mMs h nT nJ nK)
    (hup : ∀ j a, j < nJ → nA h j = some a → nEm h a = true → nEm h j = true) (hz : ∀ j, j < nJ → nEm h j = true → s.1 j = 0) (hsz : ∀ j, j < nJ → ∃ s, 1 ≤ s ∧ s ≤ 9 ∧ hI h 11 17 j = nI s) (har : ∀ t, t < nT → ¬ hI h 11 8 t = 0)
    (hL : ∀ j, j < nJ → L j = nLo h s.1 L j) (hpos : ∀ j, j < nJ → ¬ nEm h j = true → 0 ≤ L j) (K : Q none (rnH h nT nJ s L)) :
    ∀ i, i ≤ nJ → ∀ o2 o3, mT g me_fm_runs (d + 1) 0 0 190 [some (vr 10 0), some (vi (nI i)), o2, o3] [] (m2H (mW h nT nJ s) i (nLs h s.1) L (nHd h L)) Q := by
  refine upTo ?_ fun i hi ih => ?_
  · intro o2 o3
    exact v_fm_runs_190 _ _ _ (hsk.of rfl) ⟨fun _ => K, fun q => absurd (by show hI h 10 0 3 ≤ nI nJ; rw [hc3]; exact Int32.le_refl _) q⟩
  · intro o2 o3
    have hsk' : mSK (m2H (mW h nT nJ s) i (nLs h s.1) L (nHd h L)) := hsk.of rfl
    have c0 : (nI i).toNatClampNeg = i := nc (by omega)
    have hin : vp_in (nI i) 30 := nin (by omega) (by omega)
    obtain ⟨⟨t, ht, ef⟩, ha, hj, he⟩ := hs i hi
    have ct : (nI t).toNatClampNeg = t := nc (by omega)
    have hit : vp_in (nI t) 4 := nin (by omega) (by omega)
    have eF : nF h i = t := by unfold nF; rw [ef, ct]
    refine v_fm_runs_190 _ _ _ hsk' ⟨fun q => absurd (show hI h 10 0 3 ≤ nI i from q) (by rw [hc3]; exact nnle hi (by omega)), fun _ => ⟨hin, ?_⟩⟩
    rw [c0, nI_1]
    have ihg : ∀ o2 o3 h', h' = m2H (mW h nT nJ s) (i + 1) (nLs h s.1) L (nHd h L) → mT g me_fm_runs (d + 1) 0 0 190 [some (vr 10 0), some (vi (nI (i + 1))), o2, o3] [] h' Q := fun o2 o3 h' e => mT.hp e (ih o2 o3)
    have eL := hL i hi
    have hfl : hI (m2H (mW h nT nJ s) i (nLs h s.1) L (nHd h L)) 11 29 i = s.1 i := mW_f hi
    have hnz := size_nz (hsz i hi)
    have hnz' : ¬ ((100 : Int64) * Int32.toInt64 (hI (m2H (mW h nT nJ s) i (nLs h s.1) L (nHd h L)) 11 17 i)) * Int32.toInt64 (hI (m2H (mW h nT nJ s) i (nLs h s.1) L (nHd h L)) 11 17 i) = 0 := hnz
    have f1 : hI (m2H (mW h nT nJ s) i (nLs h s.1) L (nHd h L)) 11 15 i = nI t := ef
    have har' : ¬ hI (m2H (mW h nT nJ s) i (nLs h s.1) L (nHd h L)) 11 8 t = 0 := har t ht
    rcases he with he | he
    · have hne : ¬ nEm h i = true := fun z => (of_decide_eq_true z) he
      have f2 : hI (m2H (mW h nT nJ s) i (nLs h s.1) L (nHd h L)) 12 0 i = 0 := he
      unfold nLo at eL
      rw [if_neg hne] at eL
      have hd0 : hI h 11 33 t = 0 → (0 : Int32) = nHd h L i := fun q => by unfold nHd; rw [if_neg hne, eF, if_pos q]
      have hd1 : ¬ hI h 11 33 t = 0 → ((hI h 11 7 t + hI h 11 33 t / hI h 11 8 t) - L i) - hI h 11 16 i = nHd h L i := fun q => by unfold nHd; rw [if_neg hne, eF, if_neg q]
      rcases ha with ha | ⟨a, la, ha⟩
      · have f4 : hI (m2H (mW h nT nJ s) i (nLs h s.1) L (nHd h L)) 11 14 i = -9 := ha
        have hA : nA h i = none := by unfold nA; rw [ha]; rfl
        rw [hA] at eL
        by_cases hw : hI h 11 33 t = 0
        · have f5 : hI (m2H (mW h nT nJ s) i (nLs h s.1) L (nHd h L)) 11 33 t = 0 := hw
          simp only [f1, f2, f4, f5, ct, eq_true hin, eq_true hit, eq_true hnz', t_9, t_00, not_true_eq_false, not_false_eq_true, false_implies, true_implies, true_and, and_true]
          exact ihg _ _ _ (m2_step (by rw [hfl]; rfl) (by rw [hfl, eL]; rfl) (hd0 hw))
        · have f5 : (hI (m2H (mW h nT nJ s) i (nLs h s.1) L (nHd h L)) 11 33 t = 0) = False := eq_false hw
          simp only [f1, f2, f4, f5, ct, eq_true hin, eq_true hit, eq_true hnz', eq_true har', t_9, t_00, not_true_eq_false, not_false_eq_true, false_implies, true_implies, true_and, and_true]
          exact ihg _ _ _ (m2_step (by rw [hfl]; rfl) (by rw [hfl, eL]; rfl) (by rw [hfl, ← hd1 hw, eL]; rfl))
      · have f4 : hI (m2H (mW h nT nJ s) i (nLs h s.1) L (nHd h L)) 11 14 i = nI a := ha
        have ca : (nI a).toNatClampNeg = a := nc (by omega)
        have hia : vp_in (nI a) 30 := nin (by omega) (by omega)
        have na : (nI a < 0) = False := eq_false (nnneg (by omega))
        have hA : nA h i = some a := by unfold nA; rw [ha, if_neg (nnneg (by omega)), nc (by omega)]
        have hna : ¬ nEm h a = true := fun z => hne (hup i a hi hA z)
        have f6 : hI (m2H (mW h nT nJ s) i (nLs h s.1) L (nHd h L)) 11 35 a = L a := if_pos ⟨rfl, rfl, la⟩
        have hp : 0 ≤ L a := hpos a (by omega) hna
        rw [hA] at eL
        by_cases hw : hI h 11 33 t = 0
        · have f5 : hI (m2H (mW h nT nJ s) i (nLs h s.1) L (nHd h L)) 11 33 t = 0 := hw
          simp only [f1, f2, f4, f5, f6, ct, ca, na, eq_true hp, eq_true hin, eq_true hit, eq_true hia, eq_true hnz', t_9, t_00, not_true_eq_false, not_false_eq_true, false_implies, true_implies, true_and, and_true]
          exact ihg _ _ _ (m2_step (by rw [hfl]; rfl) (by rw [hfl, eL]; rfl) (hd0 hw))
        · have f5 : (hI (m2H (mW h nT nJ s) i (nLs h s.1) L (nHd h L)) 11 33 t = 0) = False := eq_false hw
          simp only [f1, f2, f4, f5, f6, ct, ca, na, eq_true hp, eq_true hin, eq_true hit, eq_true hia, eq_true hnz', eq_true har', t_9, t_00, not_true_eq_false, not_false_eq_true, false_implies, true_implies, true_and, and_true]
          exact ihg _ _ _ (m2_step (by rw [hfl]; rfl) (by rw [hfl, eL]; rfl) (by rw [hfl, ← hd1 hw, eL]; rfl))
    · have hem : nEm h i = true := by unfold nEm; rw [he]; decide
      have f2 : hI (m2H (mW h nT nJ s) i (nLs h s.1) L (nHd h L)) 12 0 i = 1 := he
      have z0 := hz i hi hem
      have eid : setI (m2H (mW h nT nJ s) i (nLs h s.1) L (nHd h L)) 11 29 i 0 = m2H (mW h nT nJ s) i (nLs h s.1) L (nHd h L) := setI_id (by rw [hfl]; exact z0)
      simp only [f1, f2, ct, eid, eq_true hin, eq_true hit, eq_true hnz', t_9, t_00, t_10, not_true_eq_false, not_false_eq_true, false_implies, true_implies, true_and, and_true]
      refine ihg _ _ _ (m2_step ?_ ?_ ?_)
      · show _ = lossO (s.1 i) _ _
        rw [z0]
        rfl
      · rw [eL]
        unfold nLo
        rw [if_pos hem]
      · unfold nHd
        rw [if_pos hem]
theorem sp_runs {g : mG} {d nT nJ nK : Nat} {h : mH} {Q : Option mV → mH → Prop} {L : Nat → Int32} (hsk : mSK h) (hc2 : hI h 10 0 2 = nI nT) (hc3 : hI h 10 0 3 = nI nJ) (bT : nT ≤ 4) (bJ : nJ ≤ 30) (bK : nK ≤ 24) (hs : mMs h nT nJ nK) (hon : ∀ k, k < nK → hI h 12 2 k = 0 ∨ hI h 12 2 k = 1)
    (hup : ∀ j a, j < nJ → nA h j = some a → nEm h a = true → nEm h j = true) (hsz : ∀ j, j < nJ → ∃ s, 1 ≤ s ∧ s ≤ 9 ∧ hI h 11 17 j = nI s) (har : ∀ t, t < nT → ¬ hI h 11 8 t = 0)
    (s : (Nat → Int32) × (Nat → Int32)) (es : s = flR (nEm h) (nA h) (nF h) (nOw h) nJ (fun _ => 0, fun _ => 0))
    (hL : ∀ j, j < nJ → L j = nLo h s.1 L j) (hpos : ∀ j, j < nJ → ¬ nEm h j = true → 0 ≤ L j) (K : Q none (rnH h nT nJ s L)) : mT g me_fm_runs (d + 1) 0 0 0 [some (vr 10 0), none, none, none] [] h Q := by
  refine v_fm_runs_0 hsk ?_
  have w2 : ∀ i, i ≤ nJ → ∀ o2 o3, mT g me_fm_runs (d + 1) 0 0 25 [some (vr 10 0), some (vi (nI i)), o2, o3] [] (fillI (fillI h 11 34 nT (fun _ => 0)) 11 29 i (fun _ => 0)) Q := by
    refine upTo ?_ fun i hi ih => ?_
    · intro o2 o3
      refine v_fm_runs_25 _ _ _ (hsk.of rfl) ⟨fun _ => ?_, fun q => absurd (by show hI h 10 0 3 ≤ nI nJ; rw [hc3]; exact Int32.le_refl _) q⟩
      have k1 := sp_runs1 (g := g) (d := d) (Q := Q) hsk bT bJ bK hs hon hup nJ (Nat.le_refl _) (fun _ => 0, fun _ => 0) o2 o3 (fun _ _ _ => rfl) (fun s' e' hz' => by
        have k2 := sp_runs2 (g := g) (d := d) (s := s) (L := L) hsk hc3 bT bJ hs hup (by rw [es, ← e']; exact hz') hsz har hL hpos K 0 (Nat.zero_le _) o2 o3
        rw [m2_0, es, ← e'] at k2
        exact k2)
      rw [← hc3] at k1
      exact k1
    · intro o2 o3
      refine v_fm_runs_25 _ _ _ (hsk.of rfl) ⟨fun q => absurd (show hI h 10 0 3 ≤ nI i from q) (by rw [hc3]; exact nnle hi (by omega)), fun _ => ⟨nin (by omega) (by omega), ?_⟩⟩
      rw [nI_1, nc (by omega)]
      exact mT.hp (fillI_s rfl) (ih o2 o3)
  have w1 : ∀ i, i ≤ nT → ∀ o2 o3, mT g me_fm_runs (d + 1) 0 0 2 [some (vr 10 0), some (vi (nI i)), o2, o3] [] (fillI h 11 34 i (fun _ => 0)) Q := by
    refine upTo ?_ fun i hi ih => ?_
    · intro o2 o3
      refine v_fm_runs_2 _ _ _ (hsk.of rfl) ⟨fun _ => ?_, fun q => absurd (by show hI h 10 0 2 ≤ nI nT; rw [hc2]; exact Int32.le_refl _) q⟩
      have := w2 0 (Nat.zero_le _) o2 o3
      rw [fillI_0] at this
      exact this
    · intro o2 o3
      refine v_fm_runs_2 _ _ _ (hsk.of rfl) ⟨fun q => absurd (show hI h 10 0 2 ≤ nI i from q) (by rw [hc2]; exact nnle hi (by omega)), fun _ => ⟨nin (by omega) (by omega), ?_⟩⟩
      rw [nI_1, nc (by omega)]
      exact mT.hp (fillI_s rfl) (ih o2 o3)
  have := w1 0 (Nat.zero_le _) none none
  rw [fillI_0] at this
  exact this
