/-! more leak never makes a rise greater -/
def fnS (emp : Nat → Bool) (ah : Nat → Option Nat) (w : Nat → Nat) (j : Nat) (f : Nat → Nat) : Nat → Nat :=
  if emp j = true then f else match ah j with
    | none => updN f j (f j + w j)
    | some a => updN (updN f j (f j + w j)) a (updN f j (f j + w j) a + (f j + w j))
def fnR (emp : Nat → Bool) (ah : Nat → Option Nat) (w : Nat → Nat) : Nat → (Nat → Nat) → Nat → Nat
  | 0, f => f
  | j + 1, f => fnR emp ah w j (fnS emp ah w j f)
theorem fnR_eq {emp : Nat → Bool} {ah : Nat → Option Nat} {fd : Nat → Nat} {own : Nat → Int32} {w : Nat → Nat} : ∀ n, (∀ j, j < n → own j = nI (w j)) → ∀ (f : Nat → Nat) (o : Nat → Int32), (flR emp ah fd own n (fun j => nI (f j), o)).1 = fun j => nI (fnR emp ah w n f j)
  | 0, _, _, _ => rfl
  | n + 1, h, f, o => by
    have hw := h n (by omega)
    show (flR emp ah fd own n (flS emp ah fd own n (fun j => nI (f j), o))).1 = fun j => nI (fnR emp ah w n (fnS emp ah w n f) j)
    by_cases he : emp n = true
    · rw [flS_e he, show fnS emp ah w n f = f from if_pos he]
      exact fnR_eq n (fun j hj => h j (by omega)) f o
    · cases hA : ah n with
      | none =>
        rw [flS_n he hA]
        have e : fnS emp ah w n f = updN f n (f n + w n) := by unfold fnS; rw [if_neg he, hA]
        rw [e]
        show (flR emp ah fd own n (upd (fun j => nI (f j)) n (nI (f n) + own n), _)).1 = _
        rw [hw, nI_add, upd_nI]
        exact fnR_eq n (fun j hj => h j (by omega)) _ _
      | some a =>
        rw [flS_a he hA]
        have e : fnS emp ah w n f = updN (updN f n (f n + w n)) a (updN f n (f n + w n) a + (f n + w n)) := by unfold fnS; rw [if_neg he, hA]
        rw [e]
        show (flR emp ah fd own n (upd (upd (fun j => nI (f j)) n (nI (f n) + own n)) a (upd (fun j => nI (f j)) n (nI (f n) + own n) a + (nI (f n) + own n)), o)).1 = _
        rw [hw, nI_add, upd_nI, nI_add, upd_nI]
        exact fnR_eq n (fun j hj => h j (by omega)) _ _
theorem updN_mono {f g : Nat → Nat} {k a b : Nat} (h : ∀ j, f j ≤ g j) (hab : a ≤ b) : ∀ j, updN f k a j ≤ updN g k b j := by
  intro j
  unfold updN
  split
  · exact hab
  · exact h j
theorem fnR_mono {emp : Nat → Bool} {ah : Nat → Option Nat} {w v : Nat → Nat} : ∀ n, (∀ j, j < n → w j ≤ v j) → ∀ f g : Nat → Nat, (∀ j, f j ≤ g j) → ∀ j, fnR emp ah w n f j ≤ fnR emp ah v n g j
  | 0, _, _, _, h => h
  | n + 1, hw, f, g, h => by
    have hn := hw n (by omega)
    have hfn := h n
    refine fnR_mono n (fun j hj => hw j (by omega)) _ _ ?_
    unfold fnS
    by_cases he : emp n = true
    · rw [if_pos he, if_pos he]; exact h
    · rw [if_neg he, if_neg he]
      cases ah n with
      | none => exact updN_mono h (by omega)
      | some a =>
        have h2 := updN_mono (k := n) h (show f n + w n ≤ g n + v n by omega)
        have h3 := h2 a
        exact updN_mono h2 (by omega)
theorem fnR_le {emp : Nat → Bool} {ah : Nat → Option Nat} {w : Nat → Nat} {n : Nat} (hn : n ≤ 30) (hw : ∀ j, j < n → w j ≤ 120) (ha : ∀ j a, j < n → ah j = some a → a < j) : ∀ i, i ≤ n → ∀ f : Nat → Nat, sumTo f i ≤ 120 * (n - i) → (∀ j, i ≤ j → j < n → f j ≤ 3600) → ∀ j, j < n → fnR emp ah w i f j ≤ 3600 := by
  intro i
  induction i with
  | zero => intro _ f _ hb j hj; exact hb j (Nat.zero_le _) hj
  | succ i ih =>
    intro hi f hs hb
    have hsum : sumTo f (i + 1) = sumTo f i + f i := rfl
    have w2 := hw i (by omega)
    have e : fnR emp ah w (i + 1) f = fnR emp ah w i (fnS emp ah w i f) := rfl
    rw [e]
    unfold fnS
    by_cases he : emp i = true
    · rw [if_pos he]
      refine ih (by omega) f (by omega) fun j h1 h2 => ?_
      by_cases q : j = i
      · subst q; omega
      · exact hb j (by omega) h2
    · rw [if_neg he]
      cases hA : ah i with
      | none =>
        refine ih (by omega) _ ?_ fun j h1 h2 => ?_
        · rw [sumTo_out i (Nat.le_refl _)]
          omega
        · dsimp only
          by_cases q : j = i
          · subst q; rw [updN_s]; omega
          · rw [updN_n q]; exact hb j (by omega) h2
      | some a =>
        have la := ha i a (by omega) hA
        refine ih (by omega) _ ?_ fun j h1 h2 => ?_
        · rw [sumTo_in i la, sumTo_out i (Nat.le_refl _)]
          omega
        · dsimp only
          by_cases q : j = i
          · subst q; rw [updN_n (by omega), updN_s]; omega
          · by_cases q2 : j = a
            · omega
            · rw [updN_n q2, updN_n q]; exact hb j (by omega) h2
/-- a rise out of a level, the losses and a height -/
theorem rise_n {lev a ht : Nat} (h1 : lev ≤ 1000) (h2 : a ≤ 800000000) (h3 : ht ≤ 1000) : (if (nI lev - nI a) - nI ht ≤ 0 then (0 : Int32) else (9 * ((nI lev - nI a) - nI ht)) / 10) = nI (9 * (lev - a - ht) / 10) := by
  by_cases q : a + ht ≤ lev
  · rw [pk_sub (by omega), pk_sub (by omega)]
    by_cases z : lev - a - ht = 0
    · rw [z, if_pos (by decide)]; rfl
    · rw [if_neg (nI_nle (by omega) (by omega)), show (9 : Int32) = nI 9 from rfl, pk_mul, show (10 : Int32) = nI 10 from rfl, pk_div (by omega) (by omega) (by omega)]
  · have e : (nI lev - nI a) - nI ht = nI lev - nI (a + ht) := by rw [← nI_add, Int32.sub_sub]
    have h4 : nI lev - nI (a + ht) < 0 := pk_sneg (by omega) (by omega)
    rw [e, if_pos (Int32.le_of_lt h4), show lev - a - ht = 0 by omega]
    rfl
section CORE
variable {h h' hm : mH} {nT nJ nK nV nT' nJ' nK' : Nat} {vs : Nat → Nat}
theorem sameA.ex (h : mH) (nT nJ nK : Nat) (X : Nat → Nat) : sameA h (exH h nT nJ nK X) := by
  unfold exH
  exact (sameA.as h nT nJ nK).fI (fun n => rfl)
/-- what is drawn at a pipe, as it is -/
theorem drawn (C : mCore h nT nJ nK nV vs) : ∃ dn : Nat → Nat, ∀ j, j < nJ → dn j ≤ 60 ∧ ∀ X : Nat → Nat, nOw (exH h nT nJ nK X) j = nI (X j + dn j) := by
  have bK := C.2.1.2.2.1
  refine w_exists (n := nJ) (P := fun j d => d ≤ 60 ∧ ∀ X : Nat → Nat, nOw (exH h nT nJ nK X) j = nI (X j + d)) fun j hj => ?_
  obtain ⟨_, _, hk, _⟩ := C.ms j hj
  rcases hk with hk | ⟨k, kk, hk⟩
  · refine ⟨0, by omega, fun X => ?_⟩
    unfold nOw
    rw [exH_28 hj, show hI (exH h nT nJ nK X) 11 20 j = hI h 11 20 j from rfl, hk, if_pos (by decide)]
    exact nI_add (X j) 0
  · obtain ⟨_, _, _, ⟨n, a, b, c, d⟩, _⟩ := C.je kk
    by_cases q : hI h 12 1 k = 0
    · refine ⟨0, by omega, fun X => ?_⟩
      unfold nOw
      rw [exH_28 hj, show hI (exH h nT nJ nK X) 11 20 j = hI h 11 20 j from rfl, hk, if_neg (nnneg (by omega)), nc (by omega), exH_on kk, if_pos q]
      exact nI_add (X j) 0
    · refine ⟨n, b, fun X => ?_⟩
      unfold nOw
      rw [exH_28 hj, show hI (exH h nT nJ nK X) 11 20 j = hI h 11 20 j from rfl, hk, if_neg (nnneg (by omega)), nc (by omega), exH_on kk, if_neg q, show hI (exH h nT nJ nK X) 11 22 k = hI h 11 22 k from rfl, d]
      exact nI_add (X j) n
theorem flowX (C : mCore h nT nJ nK nV vs) : ∃ dn : Nat → Nat, (∀ j, j < nJ → dn j ≤ 60) ∧ ∀ X : Nat → Nat, (∀ j, j < nJ → X j ≤ 60) → (mFlw (exH h nT nJ nK X) nJ).1 = (fun j => nI (fnR (nEm h) (nA h) (fun j => X j + dn j) nJ (fun _ => 0) j)) ∧ ∀ j, j < nJ → fnR (nEm h) (nA h) (fun j => X j + dn j) nJ (fun _ => 0) j ≤ 3600 := by
  obtain ⟨dn, hd⟩ := drawn C
  refine ⟨dn, fun j hj => (hd j hj).1, fun X hX => ⟨?_, ?_⟩⟩
  · exact fnR_eq (emp := nEm h) (ah := nA h) (fd := nF h) (own := nOw (exH h nT nJ nK X)) (w := fun j => X j + dn j) nJ (fun j hj => (hd j hj).2 X) (fun _ => 0) (fun _ => 0)
  · refine fnR_le C.2.1.2.1 (fun j hj => ?_) (fun j a hj ha => C.lt hj ha) nJ (Nat.le_refl _) (fun _ => 0) (by rw [sumTo_0]; omega) (fun j h1 h2 => by omega)
    have := hX j hj
    have := (hd j hj).1
    omega
theorem lossX (C : mCore h nT nJ nK nV vs) {X Y : Nat → Nat} {fX fY : Nat → Nat} {lX lY : Nat → Int32} (hf : ∀ j, j < nJ → lX j = nI (fX j) ∧ lY j = nI (fY j) ∧ fX j ≤ fY j ∧ fY j ≤ 3600) : ∀ j, j < nJ → ¬ nEm h j = true → ∃ a b : Nat, mLs (exH h nT nJ nK X) lX nJ j = nI a ∧ mLs (exH h nT nJ nK Y) lY nJ j = nI b ∧ a ≤ b ∧ b ≤ (j + 1) * 25920000 := by
  have CX := C.of (sameA.ex h nT nJ nK X).R
  have CY := C.of (sameA.ex h nT nJ nK Y).R
  intro j
  induction j using Nat.strongRecOn with
  | _ j ih =>
    intro hj he
    obtain ⟨f1, f2, f3, f4⟩ := hf j hj
    rw [CX.ls lX j hj, CY.ls lY j hj]
    unfold nLo
    have eX : nEm (exH h nT nJ nK X) j = nEm h j := rfl
    have eY : nEm (exH h nT nJ nK Y) j = nEm h j := rfl
    rw [eX, eY, if_neg he, if_neg he]
    obtain ⟨_, _, _, _, ⟨l, l1, l2, _, l4⟩, ⟨s, s1, s2, _, s4⟩, _⟩ := C.jn hj
    have hlo : nLs (exH h nT nJ nK X) lX j = nI (fX j * fX j * l / (100 * s * s)) ∧ nLs (exH h nT nJ nK Y) lY j = nI (fY j * fY j * l / (100 * s * s)) ∧ fX j * fX j * l / (100 * s * s) ≤ fY j * fY j * l / (100 * s * s) ∧ fY j * fY j * l / (100 * s * s) ≤ 25920000 := by
      have e1 := loss_n (f := fX j) (by omega) l2 s1 s2
      have e2 := loss_n (f := fY j) f4 l2 s1 s2
      refine ⟨?_, ?_, ?_, e2.2⟩
      · unfold nLs
        rw [f1, show hI (exH h nT nJ nK X) 11 18 j = hI h 11 18 j from rfl, show hI (exH h nT nJ nK X) 11 17 j = hI h 11 17 j from rfl, l4, s4]
        exact e1.1
      · unfold nLs
        rw [f2, show hI (exH h nT nJ nK Y) 11 18 j = hI h 11 18 j from rfl, show hI (exH h nT nJ nK Y) 11 17 j = hI h 11 17 j from rfl, l4, s4]
        exact e2.1
      · exact Nat.div_le_div_right (Nat.mul_le_mul_right _ (Nat.mul_le_mul f3 f3))
    obtain ⟨q1, q2, q3, q4⟩ := hlo
    rw [q1, q2]
    have aX : nA (exH h nT nJ nK X) j = nA h j := rfl
    have aY : nA (exH h nT nJ nK Y) j = nA h j := rfl
    rw [aX, aY]
    generalize fX j * fX j * l / (100 * s * s) = u at *
    generalize fY j * fY j * l / (100 * s * s) = v at *
    cases hA : nA h j with
    | none => exact ⟨u, v, nI_add u 0, nI_add v 0, q3, by omega⟩
    | some a =>
      have la := C.lt hj hA
      obtain ⟨x, y, x1, y1, x2, y2⟩ := ih a la (by omega) (fun z => he (C.up j a hj hA z))
      refine ⟨u + x, v + y, ?_, ?_, by omega, ?_⟩
      · show nI u + mLs _ lX nJ a = _
        rw [x1, nI_add]
      · show nI v + mLs _ lY nJ a = _
        rw [y1, nI_add]
      · have : (a + 1) * 25920000 ≤ j * 25920000 := Nat.mul_le_mul_right _ la
        have e : (j + 1) * 25920000 = j * 25920000 + 25920000 := by rw [Nat.add_mul]
        omega
theorem riseX (C : mCore h nT nJ nK nV vs) {X Y : Nat → Nat} (hXY : ∀ j, j < nJ → X j ≤ Y j) (hY : ∀ j, j < nJ → Y j ≤ 60) {k : Nat} (hk : k < nK) : ∃ a b : Nat, nRs (rnC (exH h nT nJ nK X) nT nJ) k = nI a ∧ nRs (rnC (exH h nT nJ nK Y) nT nJ) k = nI b ∧ b ≤ a ∧ a ≤ 1000 := by
  have bJ := C.2.1.2.1
  obtain ⟨dn, d1, dF⟩ := flowX C
  obtain ⟨x1, x2⟩ := dF X (fun j hj => Nat.le_trans (hXY j hj) (hY j hj))
  obtain ⟨y1, y2⟩ := dF Y hY
  obtain ⟨p1, _⟩ := C.nP_lt hk
  obtain ⟨f1, _⟩ := C.nF_lt p1
  obtain ⟨e0, _, f, a, dp, sp, w, b1, b2, b3, b4, b5, b6, b7, b8, b9, b10, b11, b12⟩ := C.tk f1
  obtain ⟨_, _, _, ⟨ht, _, h2, _, h4⟩, _⟩ := C.jn p1
  have gen : ∀ Z : Nat → Nat, nRs (rnC (exH h nT nJ nK Z) nT nJ) k = (if hI h 12 1 k = 0 then 0 else if nHd (exH h nT nJ nK Z) (mLs (exH h nT nJ nK Z) (mFlw (exH h nT nJ nK Z) nJ).1 nJ) (nP h k) ≤ 0 then 0 else (9 * nHd (exH h nT nJ nK Z) (mLs (exH h nT nJ nK Z) (mFlw (exH h nT nJ nK Z) nJ).1 nJ) (nP h k)) / 10) := by
    intro Z
    have e1 : nP (rnC (exH h nT nJ nK Z) nT nJ) k = nP h k := rfl
    unfold nRs
    rw [e1, show hI (rnC (exH h nT nJ nK Z) nT nJ) 12 2 k = hI h 12 1 k from exH_on (nT := nT) (nJ := nJ) (X := Z) hk]
    unfold rnC
    rw [rnH_31 p1]
  rw [gen X, gen Y]
  by_cases q : hI h 12 1 k = 0
  · rw [if_pos q, if_pos q]
    exact ⟨0, 0, rfl, rfl, Nat.le_refl _, by omega⟩
  · rw [if_neg q, if_neg q]
    have hdg : ∀ (Z : Nat → Nat) (L : Nat → Int32), nHd (exH h nT nJ nK Z) L (nP h k) = if nEm h (nP h k) = true then 0 else if hI h 11 11 (nF h (nP h k)) = 0 then 0 else ((hI h 11 7 (nF h (nP h k)) + hI h 11 11 (nF h (nP h k)) / hI h 11 8 (nF h (nP h k))) - L (nP h k)) - hI h 11 16 (nP h k) := by
      intro Z L
      have e2 : nF (exH h nT nJ nK Z) (nP h k) = nF h (nP h k) := rfl
      unfold nHd
      rw [e2, exH_33 f1]
      rfl
    rw [hdg, hdg]
    by_cases he : nEm h (nP h k) = true
    · rw [if_pos he, if_pos he, if_pos (by decide)]
      exact ⟨0, 0, rfl, rfl, Nat.le_refl _, by omega⟩
    · rw [if_neg he, if_neg he]
      by_cases hw : hI h 11 11 (nF h (nP h k)) = 0
      · rw [if_pos hw, if_pos hw, if_pos (by decide)]
        exact ⟨0, 0, rfl, rfl, Nat.le_refl _, by omega⟩
      · rw [if_neg hw, if_neg hw]
        obtain ⟨u, v, u1, v1, uv, vb⟩ := lossX C (X := X) (Y := Y) (lX := (mFlw (exH h nT nJ nK X) nJ).1) (lY := (mFlw (exH h nT nJ nK Y) nJ).1) (fX := fnR (nEm h) (nA h) (fun j => X j + dn j) nJ (fun _ => 0)) (fY := fnR (nEm h) (nA h) (fun j => Y j + dn j) nJ (fun _ => 0)) (fun j hj => ⟨by rw [x1], by rw [y1], fnR_mono nJ (fun j hj => by have := hXY j hj; omega) _ _ (fun _ => Nat.le_refl _) j, y2 j hj⟩) (nP h k) p1 he
        have vb2 : v ≤ 800000000 := by
          have : (nP h k + 1) * 25920000 ≤ 30 * 25920000 := Nat.mul_le_mul_right _ (by omega)
          omega
        have wb : w ≤ 60000 := Nat.le_trans b12 (Nat.mul_le_mul b5 b8)
        have wd : w / a ≤ 60 := by
          have : w / a ≤ dp := by
            rw [Nat.div_le_iff_le_mul_add_pred b4]
            omega
          omega
        rw [u1, v1, b1, b11, b3, h4, pk_div (by omega) (by omega) (by omega), nI_add, rise_n (by omega) (by omega) (by omega), rise_n (by omega) vb2 (by omega)]
        refine ⟨_, _, rfl, rfl, Nat.div_le_div_right (by omega), ?_⟩
        have : 9 * (f + w / a - u - ht) / 10 ≤ 9 * 1000 / 10 := Nat.div_le_div_right (by omega)
        omega
end CORE
