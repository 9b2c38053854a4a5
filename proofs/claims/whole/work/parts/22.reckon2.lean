/-! reckon of the class, whole -/
theorem wF_set {h : mH} {nT nJ i : Nat} {s : (Nat → Int32) × (Nat → Int32)} {v : Int32} (hi : i < nJ) : setI (wF h nT nJ s) 7 i 10 v = wF h nT nJ (upd s.1 i v, s.2) := fillF_u hi
theorem wF_out {h : mH} {nT nJ t : Nat} {s : (Nat → Int32) × (Nat → Int32)} {v : Int32} (ht : t < nT) : setI (wF h nT nJ s) 6 t 8 v = wF h nT nJ (s.1, upd s.2 t v) := by
  unfold wF
  rw [setF_c (Or.inl (by decide)), fillF_u ht]
theorem wF_7 {h : mH} {nT nJ i : Nat} {s : (Nat → Int32) × (Nat → Int32)} (hi : i < nJ) : hI (wF h nT nJ s) 7 i 10 = s.1 i := if_pos ⟨rfl, rfl, hi⟩
theorem wF_6 {h : mH} {nT nJ t : Nat} {s : (Nat → Int32) × (Nat → Int32)} (ht : t < nT) : hI (wF h nT nJ s) 6 t 8 = s.2 t := by
  show (if (6 : Nat) = 7 ∧ (8 : Nat) = 10 ∧ t < nJ then s.1 t else if (6 : Nat) = 6 ∧ (8 : Nat) = 8 ∧ t < nT then s.2 t else hI h 6 t 8) = s.2 t
  rw [if_neg (by omega), if_pos ⟨rfl, rfl, ht⟩]
theorem flS_e {emp : Nat → Bool} {ah : Nat → Option Nat} {fd : Nat → Nat} {own : Nat → Int32} {j : Nat} {s : (Nat → Int32) × (Nat → Int32)} (he : emp j = true) : flS emp ah fd own j s = s := if_pos he
theorem flS_n {emp : Nat → Bool} {ah : Nat → Option Nat} {fd : Nat → Nat} {own : Nat → Int32} {j : Nat} {s : (Nat → Int32) × (Nat → Int32)} (he : ¬ emp j = true) (ha : ah j = none) : flS emp ah fd own j s = (upd s.1 j (s.1 j + own j), upd s.2 (fd j) (s.2 (fd j) + (s.1 j + own j))) := by
  unfold flS
  rw [if_neg he, ha]
theorem flS_a {emp : Nat → Bool} {ah : Nat → Option Nat} {fd : Nat → Nat} {own : Nat → Int32} {j a : Nat} {s : (Nat → Int32) × (Nat → Int32)} (he : ¬ emp j = true) (ha : ah j = some a) : flS emp ah fd own j s = (upd (upd s.1 j (s.1 j + own j)) a (upd s.1 j (s.1 j + own j) a + (s.1 j + own j)), s.2) := by
  unfold flS
  rw [if_neg he, ha]
def rkS (h : mH) (nJ : Nat) (js tr : Int32) : (Nat → Int32) × (Nat → Int32) := flR (cEmp h) (jA h) (jF h) (cOwn h js tr) nJ (fun _ => 0, fun _ => 0)
def rkL (h : mH) (fl : Nat → Int32) (n : Nat) : Nat → Int32 := bld (lsF (jA h) (fun j => lossO (fl j) (hI h 7 j 4) (hI h 7 j 5))) n
def rkH (h : mH) (nT nJ : Nat) (js tr : Int32) : mH := fillF (wF h nT nJ (rkS h nJ js tr)) 7 11 nJ (rkL h (rkS h nJ js tr).1 nJ)
theorem n_sub1 (i : Nat) : nI (i + 1) - 1 = nI i := nI_pred i
theorem x_m1 (x : Int32) : x + (-1) = x - 1 := (Int32.sub_eq_add_neg x 1).symm
theorem sp_reckon {g : mG} {d nT nJ nK : Nat} {js tr : Int32} {h : mH} {Q : Option mV → mH → Prop} (hsk : mSK h) (hT : mCl h 0 6 nT id) (hJ : mCl h 1 7 nJ id) (hs : mJs h nT nJ nK) (hz : ∀ j, j < nJ → ∃ s, 1 ≤ s ∧ s ≤ 9 ∧ hI h 7 j 5 = nI s)
    (K : Q none (rkH h nT nJ js tr)) : mT g me_ga_reckon (d + 5) 0 0 0 [some (vr 1 0), some (vi js), some (vi tr), none, none] [] h Q := by
  have bJ := hJ.2.1
  have w2 : ∀ (s : (Nat → Int32) × (Nat → Int32)), Q none (fillF (wF h nT nJ s) 7 11 nJ (rkL h s.1 nJ)) → ∀ i, i ≤ nJ → ∀ o4, mT g me_ga_reckon (d + 5) 0 0 87 [some (vr 1 0), some (vi js), some (vi tr), some (vi (nI i)), o4] [] (fillF (wF h nT nJ s) 7 11 i (rkL h s.1 i)) Q := by
    intro s Ks
    refine upTo ?_ fun i hi ih => ?_
    · intro o4
      exact v_ga_reckon_87 _ _ _ _ (hsk.of rfl) ⟨fun _ => Ks, fun q => absurd (by show hI h 2 1 1 ≤ nI nJ; rw [hJ.1]; exact Int32.le_refl _) q⟩
    · intro o4
      have hsk' : mSK (fillF (wF h nT nJ s) 7 11 i (rkL h s.1 i)) := hsk.of rfl
      obtain ⟨sz, z1, z9, hsz⟩ := hz i hi
      refine v_ga_reckon_87 _ _ _ _ hsk' ⟨fun q => absurd (show hI h 2 1 1 ≤ nI i from q) (by rw [hJ.1]; exact nnle hi (by omega)), fun _ => ⟨i, (hJ.of (h' := fillF (wF h nT nJ s) 7 11 i (rkL h s.1 i)) rfl rfl).get hi, ?_⟩⟩
      refine sp_loss (d := d + 3) (s := sz) hsk' hsz z1 z9 ⟨_, rfl, hsk', fun e => ?_, fun kq a e => ⟨hsk.2.2 7 i 2 7 _ rfl e, ?_⟩⟩
      · rw [nI_1]
        refine mT.hp ?_ (ih (some (vr 7 i)))
        rw [fillF_z]
        have ea : jA h i = none := by unfold jA; rw [show hP h 7 i 2 = none from e]; rfl
        show fillF _ 7 11 (i + 1) _ = fillF _ 7 11 (i + 1) (upd (rkL h s.1 i) i (lossO (s.1 i) (hI h 7 i 4) (hI h 7 i 5) + _))
        rw [ea, show hI (fillF (wF h nT nJ s) 7 11 i (rkL h s.1 i)) 7 i 10 = s.1 i from wF_7 hi]
        rfl
      · rw [nI_1]
        refine mT.hp ?_ (ih (some (vr 7 i)))
        rw [fillF_z]
        have ea : jA h i = some a := by unfold jA; rw [show hP h 7 i 2 = some (kq, a) from e]; rfl
        have la : a < i := by
          rcases (hs i hi).2.1 with q | ⟨a', q1, q2⟩
          · rw [show hP h 7 i 2 = some (kq, a) from e] at q; cases q
          · rw [show hP h 7 i 2 = some (kq, a) from e] at q2; cases q2; exact q1
        show fillF _ 7 11 (i + 1) _ = fillF _ 7 11 (i + 1) (upd (rkL h s.1 i) i (lossO (s.1 i) (hI h 7 i 4) (hI h 7 i 5) + _))
        rw [ea, show hI (fillF (wF h nT nJ s) 7 11 i (rkL h s.1 i)) 7 i 10 = s.1 i from wF_7 hi, show hI (fillF (wF h nT nJ s) 7 11 i (rkL h s.1 i)) 7 a 11 = rkL h s.1 i a from if_pos ⟨rfl, rfl, la⟩]
        rfl
  have w1 : ∀ i, i ≤ nJ → ∀ (s : (Nat → Int32) × (Nat → Int32)) (o4 : Option mV), (Q none (fillF (wF h nT nJ (flR (cEmp h) (jA h) (jF h) (cOwn h js tr) i s)) 7 11 nJ (rkL h (flR (cEmp h) (jA h) (jF h) (cOwn h js tr) i s).1 nJ))) → mT g me_ga_reckon (d + 5) 0 0 14 [some (vr 1 0), some (vi js), some (vi tr), some (vi (nI i - 1)), o4] [] (wF h nT nJ s) Q := by
    intro i
    induction i with
    | zero =>
      intro _ s o4 Ks
      refine v_ga_reckon_14 _ _ _ _ (hsk.of rfl) ⟨fun _ => ?_, fun q => absurd (by decide : (nI 0 - 1 : Int32) < 0) q⟩
      have := w2 s Ks 0 (Nat.zero_le _) o4
      rw [fillF_0] at this
      exact this
    | succ i ih =>
      intro hi s o4 Ks
      have hi' : i < nJ := by omega
      have hsk' : mSK (wF h nT nJ s) := hsk.of rfl
      rw [n_sub1]
      refine v_ga_reckon_14 _ _ _ _ hsk' ⟨fun q => absurd q (nnneg (by omega)), fun _ => ⟨i, (hJ.of (h' := wF h nT nJ s) rfl rfl).get hi', fun he => ?_, fun he => ?_⟩⟩
      · rw [x_m1]
        have e1 : cEmp h i = true := decide_eq_true he
        refine ih (by omega) s (some (vr 7 i)) ?_
        unfold flR at Ks
        rw [flS_e e1] at Ks
        exact Ks
      · have e1 : ¬ cEmp h i = true := fun z => (of_decide_eq_true z) he
        rw [x_m1]
        refine sp_draw (d := d + 2) hsk' ⟨_, rfl, hsk', ?_⟩
        have key : ∀ (lk : Int32), cOwn h js tr i = drawO h js i + lk →
            (hP h 7 i 2 = none → ∃ n6, hP h 7 i 1 = some (6, n6) ∧ mT g me_ga_reckon (d + 5) 0 0 14 [some (vr 1 0), some (vi js), some (vi tr), some (vi (nI i - 1)), some (vr 7 i)] [] (setI (setI (wF h nT nJ s) 7 i 10 (hI (wF h nT nJ s) 7 i 10 + (drawO h js i + lk))) 6 n6 8 (hI (wF h nT nJ s) 6 n6 8 + (hI (wF h nT nJ s) 7 i 10 + (drawO h js i + lk)))) Q) ∧
            (∀ kq n4, hP h 7 i 2 = some (kq, n4) → kq = 7 ∧ mT g me_ga_reckon (d + 5) 0 0 14 [some (vr 1 0), some (vi js), some (vi tr), some (vi (nI i - 1)), some (vr 7 i)] [] (setI (setI (wF h nT nJ s) 7 i 10 (hI (wF h nT nJ s) 7 i 10 + (drawO h js i + lk))) 7 n4 10 (hI (setI (wF h nT nJ s) 7 i 10 (hI (wF h nT nJ s) 7 i 10 + (drawO h js i + lk))) 7 n4 10 + (hI (wF h nT nJ s) 7 i 10 + (drawO h js i + lk)))) Q) := by
          intro lk ho
          refine ⟨fun e => ?_, fun kq a e => ⟨hsk.2.2 7 i 2 7 _ rfl e, ?_⟩⟩
          · obtain ⟨t, ht, hp⟩ := (hs i hi').1
            refine ⟨t, hp, ?_⟩
            have ea : jA h i = none := by unfold jA; rw [e]; rfl
            have ef : jF h i = t := by unfold jF; rw [hp]; rfl
            refine mT.hp ?_ (ih (by omega) (flS (cEmp h) (jA h) (jF h) (cOwn h js tr) i s) (some (vr 7 i)) Ks)
            rw [flS_n e1 ea, ef, ho, wF_7 hi', wF_6 ht, wF_set hi', wF_out ht]
          · have ea : jA h i = some a := by unfold jA; rw [e]; rfl
            have la : a < nJ := by
              rcases (hs i hi').2.1 with q | ⟨a', q1, q2⟩
              · rw [e] at q; cases q
              · rw [e] at q2; cases q2; omega
            refine mT.hp ?_ (ih (by omega) (flS (cEmp h) (jA h) (jF h) (cOwn h js tr) i s) (some (vr 7 i)) Ks)
            rw [flS_a e1 ea, ho, wF_7 hi', wF_set hi', wF_7 la, wF_set la]
        refine ⟨fun q => ?_, fun q => ?_⟩
        · exact key (hI h 7 i 6) (by unfold cOwn; rw [if_pos q])
        · exact key (hI h 7 i 7) (by unfold cOwn; rw [if_neg q])
  refine v_ga_reckon_0 _ _ hsk ?_
  refine sp_forget (d := d) hsk hT hJ ⟨rfl, hsk.of rfl, ?_⟩
  have := w1 nJ (Nat.le_refl _) (fun _ => 0, fun _ => 0) none K
  rw [← hJ.1] at this
  exact this
