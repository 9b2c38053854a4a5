/-! play, fill, empty -/
/-- what the model looks at, behind a call of the class -/
def pM (k n _f : Nat) : Bool := match k with
  | 10 => true
  | 11 => !(n == 5)
  | 12 => true
  | _ => false
def sameM (h hm : mH) : Prop := hm.1 = h.1 ∧ sameOn pM h hm
theorem sameM.rf {h : mH} : sameM h h := ⟨rfl, sameOn.rf⟩
theorem sameM.sI {a h : mH} {k n f : Nat} {v : Int32} (x : sameM a h) (hn : pM k n f = false) : sameM a (setI h k n f v) := ⟨x.1, x.2.sI hn⟩
theorem sameM.rfC {h : mH} {c : Int32} : sameM h (rfC h c) := sameM.rf.sI rfl
section CORE
variable {h h' hm : mH} {nT nJ nK nV nT' nJ' nK' : Nat} {vs : Nat → Nat}
/-- the pipe ahead, in the model -/
theorem mCore.ahd (C : mCore h nT nJ nK nV vs) {j : Nat} (hj : j < nJ) : hI h 11 14 j = -9 ∨ ∃ a, a < j ∧ hI h 11 14 j = nI a := (C.ms j hj).2.1
theorem mCore.ez (C : mCore h nT nJ nK nV vs) {j : Nat} (hj : j < nJ) : hI h 12 0 j = 0 ∨ hI h 12 0 j = 1 := (C.ms j hj).2.2.2
theorem mCore.e8 (C : mCore h nT nJ nK nV vs) {j : Nat} (hj : j < nJ) : hI h 7 j 8 = hI h 12 0 j := (C.jn hj).b8.1
theorem cut1 {g : mG} {d : Nat} {Q : Option mV → mH → Prop} (C : mCore h nT nJ nK nV vs) (M : sameM h hm) (x1 : Int32) (K : Q (some (vi 1)) hm) : ∀ j, j < nJ → mT g me_fm_isCut (d + 1) 0 0 4 [some (vr 10 0), some (vi x1), some (vi 1), some (vi (nI j))] [] hm Q := by
  intro j
  have bJ := C.2.1.2.1
  have hs : mSK hm := C.1.of M.1
  induction j using Nat.strongRecOn with
  | _ j ih =>
    intro hj
    refine v_fm_isCut_4 _ _ _ hs ⟨fun q => absurd q (nnneg (by omega)), fun _ => ⟨fun _ => ⟨nin (by omega) (by omega), ?_⟩, fun q => absurd q (by decide)⟩⟩
    rw [nc (by omega), M.2 11 14 j rfl]
    rcases C.ahd hj with e | ⟨a, la, e⟩
    · rw [e]
      exact v_fm_isCut_4 _ _ _ hs ⟨fun _ => ⟨zn_1, K⟩, fun q => absurd (by decide) q⟩
    · rw [e]
      exact ih a la (by omega)
theorem cut0 {g : mG} {d : Nat} {Q : Option mV → mH → Prop} (C : mCore h nT nJ nK nV vs) (M : sameM h hm) (x1 : Int32) : ∀ j, j < nJ → Q (some (vi (hI h 12 0 j))) hm → mT g me_fm_isCut (d + 1) 0 0 4 [some (vr 10 0), some (vi x1), some (vi 0), some (vi (nI j))] [] hm Q := by
  intro j
  have bJ := C.2.1.2.1
  have hs : mSK hm := C.1.of M.1
  induction j using Nat.strongRecOn with
  | _ j ih =>
    intro hj K
    refine v_fm_isCut_4 _ _ _ hs ⟨fun q => absurd q (nnneg (by omega)), fun _ => ⟨fun q => absurd rfl q, fun _ => ⟨nin (by omega) (by omega), ?_⟩⟩⟩
    rw [nc (by omega), M.2 11 14 j rfl, M.2 12 0 j rfl]
    refine ⟨fun q => ⟨nin (by omega) (by omega), ?_⟩, fun q => ⟨nin (by omega) (by omega), ?_⟩⟩
    · rw [q] at K
      rcases C.ahd hj with e | ⟨a, la, e⟩
      · rw [e]
        exact v_fm_isCut_4 _ _ _ hs ⟨fun _ => ⟨zn_0, K⟩, fun q => absurd (by decide) q⟩
      · rw [e]
        refine ih a la (by omega) ?_
        rcases C.ez (j := a) (by omega) with z | z
        · rw [z]; exact K
        · have := (C.jn hj).up (by omega) a la e z
          rw [q] at this
          exact absurd this (by decide)
    · rcases C.ez hj with z | z
      · exact absurd z q
      · rw [z] at K
        rcases C.ahd hj with e | ⟨a, la, e⟩
        · rw [e]
          exact v_fm_isCut_4 _ _ _ hs ⟨fun _ => ⟨zn_1, K⟩, fun q => absurd (by decide) q⟩
        · rw [e]
          exact cut1 C M _ K a (by omega)
theorem sp_isCut {g : mG} {d j : Nat} {Q : Option mV → mH → Prop} (C : mCore h nT nJ nK nV vs) (M : sameM h hm) (hj : j < nJ) (K : Q (some (vi (hI h 12 0 j))) hm) : mT g me_fm_isCut (d + 1) 0 0 0 [some (vr 10 0), some (vi (nI j)), none, none] [] hm Q :=
  v_fm_isCut_0 _ (C.1.of M.1) (cut0 C M _ j hj K)
theorem op_play {g : mG} {d : Nat} (I : mI h nT nJ nK nV vs) (x x2 : Int32) (hx2 : x2 = 0 ∨ x2 = 1) : mB g me_fn_play me_fm_play (d + 9) 0 0 [some (vr 0 0), some (vi x), some (vi x2), none] [some (vr 10 0), some (vi x), some (vi x2)] h := by
  have C := I.1
  have bK := C.2.1.2.2.1
  have bJ := C.2.1.2.1
  rcases ix_cases x (n := nK) (by omega) with hx | ⟨k, hk, rfl⟩
  · refine mB.ref I rf1 (-1) (fun Q K => v_fn_play_0 (d := d + 4) x x2 C.1 (sp_jetNo C hx ⟨none, rfl, C.1, fun _ => sp_refC (Q := fun y h => Q (some (vi y)) h) C.1 rf1 K, ns0⟩)) (fun Q s K => ?_)
    exact v_fm_play_0 (d := d + 6) x x2 s ⟨fun _ => sp_refM (Q := fun y h => Q (some (vi y)) h) s rf1 K, fun q => ⟨fun _ => sp_refM (Q := fun y h => Q (some (vi y)) h) s rf1 K, fun q2 => (hx.no C.k4 q q2).elim⟩⟩
  have n0 : ¬ nI k < 0 := nnneg (by omega)
  have ix : ∀ {a : Int32}, a = nI nK → ¬ a ≤ nI k := fun e => ix_le e hk (by omega)
  have hin : vp_in (nI k) 24 := nin (by omega) (by omega)
  have ct : (nI k).toNatClampNeg = k := nc (by omega)
  obtain ⟨p1, p2, p3, p4⟩ := C.nP_lt hk
  have hpl := C.play hk
  -- the refusal
  by_cases c1 : x2 = 1 ∧ hI h 12 0 (nP h k) = 1
  · obtain ⟨rfl, c2⟩ := c1
    refine mB.ref I rf3 (-3) (fun Q K => v_fn_play_0 (d := d + 4) _ _ C.1 (sp_jet C hk ⟨_, rfl, C.1, sn0, ss0 ⟨fun q => absurd q (by decide), fun _ => ⟨_, p4, fun q => ?_, fun _ => sp_refC (Q := fun y h => Q (some (vi y)) h) C.1 rf3 K⟩⟩⟩)) (fun Q s K => ?_)
    · rw [C.e8 p1, c2] at q; exact absurd q (by decide)
    · refine v_fm_play_0 (d := d + 6) _ _ s ⟨fun q => absurd q n0, fun _ => ⟨fun q => absurd q (ix C.k4), fun _ => ⟨fun q => absurd q (by decide), fun _ => ⟨hin, ?_⟩⟩⟩⟩
      rw [ct]
      have e : hI (rfC h (-3)) 11 21 k = nI (nP h k) := p3
      rw [e]
      refine sp_isCut (d := d + 7) C sameM.rfC p1 ⟨_, rfl, s, fun q => ?_, fun _ => sp_refM (Q := fun y h => Q (some (vi y)) h) s rf3 K⟩
      rw [c2] at q
      exact absurd q (by decide)
  -- the two walks
  have cl : ∀ Q : Option mV → mH → Prop, (((hI h 1 0 3 &&& hI h 8 k 1) = 0 → ((¬ (0 : Int32) = x2 → Q (some (vi (1 : Int32))) (setI h 1 0 3 (hI h 1 0 3 ^^^ hI h 8 k 1))) ∧ ((0 : Int32) = x2 → Q (some (vi (0 : Int32))) h))) ∧ (¬ (hI h 1 0 3 &&& hI h 8 k 1) = 0 → ((¬ (1 : Int32) = x2 → Q (some (vi (1 : Int32))) (setI h 1 0 3 (hI h 1 0 3 ^^^ hI h 8 k 1))) ∧ ((1 : Int32) = x2 → Q (some (vi (0 : Int32))) h)))) → mT g me_fn_play (d + 9) 0 0 0 [some (vr 0 0), some (vi (nI k)), some (vi x2), none] [] h Q := by
    intro Q F
    refine v_fn_play_0 (d := d + 4) _ _ C.1 (sp_jet C hk ⟨_, rfl, C.1, sn0, ss0 ⟨fun _ => F, fun q => ⟨_, p4, fun _ => F, fun q2 => ?_⟩⟩⟩)
    have z1 : x2 = 1 := hx2.resolve_left q
    rw [C.e8 p1] at q2
    exact absurd ⟨z1, (C.ez p1).resolve_left q2⟩ c1
  have md : ∀ (hm : mH) (Q : Option mV → mH → Prop), sameM h hm → ((¬ hI h 12 1 k = x2 → Q (some (vi (1 : Int32))) (setI (setI hm 12 1 k x2) 10 0 55 0)) ∧ (hI h 12 1 k = x2 → Q (some (vi (0 : Int32))) hm)) → mT g me_fm_play (d + 9) 0 0 0 [some (vr 10 0), some (vi (nI k)), some (vi x2)] [] hm Q := by
    intro hm Q M F
    have hs : mSK hm := C.1.of M.1
    have zx : vp_nar .boolean x2 = x2 := zn hx2
    refine v_fm_play_0 (d := d + 6) _ _ hs ⟨fun q => absurd q n0, fun _ => ⟨fun q => absurd q (ix ((M.2 10 0 4 rfl).trans C.k4)), fun _ => ?_⟩⟩
    rw [ct, M.2 12 1 k rfl, M.2 11 21 k rfl, p3]
    refine ⟨fun q => ⟨hin, fun q2 => ⟨hin, zx, F.1 q2⟩, fun q2 => F.2 q2⟩, fun q => ⟨hin, ?_⟩⟩
    refine sp_isCut (d := d + 7) C M p1 ⟨_, rfl, hs, fun q2 => ?_, fun q2 => ?_⟩
    · rw [M.2 12 1 k rfl]
      exact ⟨hin, fun q2 => ⟨hin, zx, F.1 q2⟩, fun q2 => F.2 q2⟩
    · exact absurd ⟨hx2.resolve_left q, (C.ez p1).resolve_left q2⟩ c1
  have hp01 := C.pl hk
  by_cases c2 : hI h 12 1 k = x2
  · refine mB.q I 0 sameA.rf sameA.rf (fun Q K => cl Q ⟨fun q => ⟨fun q2 => ?_, fun _ => K⟩, fun q => ⟨fun q2 => ?_, fun _ => K⟩⟩) (fun Q _ K => md h Q sameM.rf ⟨fun q => absurd c2 q, fun _ => K⟩)
    · exact absurd ((hpl.mp q).symm.trans c2) q2
    · have : hI h 12 1 k = 1 := hp01.resolve_left (fun z => q (hpl.mpr z))
      exact absurd (this.symm.trans c2) q2
  · refine mB.mk 1 (setI h 1 0 3 (hI h 1 0 3 ^^^ hI h 8 k 1)) (setI (setI (setI h 1 0 3 (hI h 1 0 3 ^^^ hI h 8 k 1)) 12 1 k x2) 10 0 55 0) (fun Q K => cl Q ⟨fun q => ⟨fun _ => K, fun q2 => ?_⟩, fun q => ⟨fun _ => K, fun q2 => ?_⟩⟩) (C.1.of rfl) ⟨rfl, fun _ => rfl⟩ (fun Q K => md _ Q (sameM.rf.sI rfl) ⟨fun _ => K, fun q => absurd q c2⟩) (mI.ch (C.chJ rfl rfl rfl rfl rfl rfl rfl rfl rfl (fun i hi => (C.tk hi).of (((sameOn.rf.sI rfl).sI rfl).sI rfl)) (fun i hi => (C.jn hi).mk (fun _ => rfl) (((sameOn.rf.sI rfl).sI rfl).sI rfl) (Nat.le_refl _) (Nat.le_refl _) (C.jn hi).b5 (C.jn hi).b6 (C.jn hi).b8 ((C.jn hi).up (by omega))) (fun k' hk' => (C.je hk').mk rfl (fun _ _ => rfl) (((sameOn.rf.sI rfl).sI rfl).sI rfl) (Nat.le_refl _) (C.je hk').b4 ?_) (fun v hv => (C.vw hv).mk (((sameOn.rf.sI rfl).sI rfl).sI rfl) (Nat.le_refl _) (Nat.le_refl _)) (C.sc.of (((sameOn.rf.sI rfl).sI rfl).sI rfl)) ⟨fun k' hk' => ?_, fun k' h1 h2 => ?_⟩) (I.2.1.mk (fun _ _ => ⟨rfl, rfl⟩) (fun _ _ => ⟨rfl, rfl⟩) (fun k' hk' => ?_) (fun _ _ => rfl)) rfl) ⟨rfl, fun _ => rfl⟩
    · exact absurd ((hpl.mp q).trans q2) c2
    · have : hI h 12 1 k = 1 := hp01.resolve_left (fun z => q (hpl.mpr z))
      exact absurd (this.trans q2) c2
    · show hI (setI h 12 1 k x2) 12 1 k' = 0 ∨ hI (setI h 12 1 k x2) 12 1 k' = 1
      rw [hI_setI2]
      by_cases q : k' = k
      · rw [if_pos q]; exact hx2
      · rw [if_neg q]; exact C.pl hk'
    · show (hI h 1 0 3 ^^^ hI h 8 k 1) &&& mBit k' = 0 ↔ hI (setI h 12 1 k x2) 12 1 k' = 0
      have h1 := C.pp.1 k' hk'
      rw [hI_setI2, tB_bit _ (by omega), tB_xor, C.bit hk, tB_of (by omega)]
      rw [tB_bit _ (by omega)] at h1
      by_cases q : k' = k
      · subst q
        rw [if_pos rfl]
        rcases hx2 with rfl | rfl
        · have e : tB (hI h 1 0 3) k' = true := by
            cases hb : tB (hI h 1 0 3) k' with
            | true => rfl
            | false => exact absurd (h1.mp hb) c2
          rw [e]; simp
        · have e : tB (hI h 1 0 3) k' = false := h1.mpr (hp01.resolve_right c2)
          rw [e]; simp
      · rw [if_neg q, ← h1]
        simp [q]
    · show (hI h 1 0 3 ^^^ hI h 8 k 1) &&& mBit k' = 0
      have h3 := C.pp.2 k' h1 h2
      rw [tB_bit _ h2] at h3 ⊢
      rw [tB_xor, C.bit hk, tB_of (by omega), h3]
      have : ¬ k' = k := by omega
      simp [this]
    · show hI (setI h 12 1 k x2) 12 1 k' = hI h 12 1 k'
      rw [hI_setI2, if_neg (by omega)]
/-- mayBeEmptied of the class -/
theorem sp_mayC {g : mG} {d j : Nat} {Q : Option mV → mH → Prop} (C : mCore h nT nJ nK nV vs) (hj : j < nJ) (K1 : (∀ i, i < nJ → hI h 11 14 i = nI j → ¬ hI h 12 0 i = 0) → Q (some (vi (if drawO h (hI h 1 0 3) j = 0 then 1 else 0))) h) (K0 : (∃ i, i < nJ ∧ hI h 11 14 i = nI j ∧ hI h 12 0 i = 0) → Q (some (vi 0)) h) : mT g me_ga_mayBeEmptied (d + 4) 0 0 0 [some (vr 1 0), some (vr 7 j), none, none] [] h Q := by
  have bJ := C.2.1.2.1
  refine v_ga_mayBeEmptied_0 _ C.1 ?_
  have w : ∀ i, i ≤ nJ → (∀ i', i' < i → hI h 11 14 i' = nI j → ¬ hI h 12 0 i' = 0) → ∀ o3, mT g me_ga_mayBeEmptied (d + 4) 0 0 2 [some (vr 1 0), some (vr 7 j), some (vi (nI i)), o3] [] h Q := by
    refine upTo ?_ fun i hi ih => ?_
    · intro pre o3
      refine v_ga_mayBeEmptied_2 _ _ _ C.1 ⟨fun _ => ?_, fun q => absurd (by rw [C.2.2.1.2.1.1]; exact Int32.le_refl _) q⟩
      refine sp_draw (d := d + 1) C.1 ⟨_, rfl, C.1, fun q => ?_, fun q => ?_⟩
      · have := K1 pre; rw [if_neg q] at this; exact this
      · have := K1 pre; rw [if_pos q] at this; exact this
    · intro pre o3
      refine v_ga_mayBeEmptied_2 _ _ _ C.1 ⟨fun q => absurd q (by rw [C.2.2.1.2.1.1]; exact nnle hi (by omega)), fun _ => ⟨i, C.2.2.1.2.1.get hi, fun e => ?_, fun kq a e => ⟨C.1.2.2 7 i 2 7 _ rfl e, fun q => ?_, fun q => ⟨fun q2 => ?_, fun q2 => ?_⟩⟩⟩⟩
      · rw [nI_1]
        refine ih (fun i' h1 h2 => ?_) _
        by_cases z : i' < i
        · exact pre i' z h2
        · have z2 : i' = i := by omega
          subst z2
          rcases (C.jn hi).2.2.1 with ⟨_, y⟩ | ⟨a', _, y, _⟩
          · rw [y] at h2
            exact absurd h2.symm (by intro z; have h0 := nnneg (n := j) (by omega); rw [z] at h0; exact h0 (by decide))
          · rw [e] at y; cases y
      · rw [nI_1]
        refine ih (fun i' h1 h2 => ?_) _
        by_cases z : i' < i
        · exact pre i' z h2
        · have z2 : i' = i := by omega
          subst z2
          rcases (C.jn hi).2.2.1 with ⟨y, _⟩ | ⟨a', la, y, y2, _⟩
          · rw [e] at y; cases y
          · rw [e] at y; cases y
            rw [y2] at h2
            have := (neq_iff (by omega) (by omega)).mp h2
            subst this
            exact absurd rfl q
      · rw [nI_1]
        refine ih (fun i' h1 h2 => ?_) _
        by_cases z : i' < i
        · exact pre i' z h2
        · have z2 : i' = i := by omega
          subst z2
          rw [← C.e8 hi]; exact q2
      · refine K0 ⟨i, hi, ?_, by rw [← C.e8 hi]; exact q2⟩
        cases q
        rcases (C.jn hi).2.2.1 with ⟨y, _⟩ | ⟨a', la, y, y2, _⟩
        · rw [e] at y; cases y
        · rw [e] at y; cases y; exact y2
  have := w 0 (Nat.zero_le _) (fun i' h1 => absurd h1 (Nat.not_lt_zero _)) none
  exact this
/-- mayEmpty of the model, on a row of pipes that are empty -/
theorem sp_mayM {g : mG} {d j r : Nat} {Q : Option mV → mH → Prop} (hs : mSK hm) (h3 : hI hm 10 0 3 = nI nJ) (bJ : nJ ≤ 30) (hl : hL hm 12 r = 30) (hj : j < nJ) (K1 : (hI hm 12 r j = 0 ∧ ∀ i, j < i → i < nJ → hI hm 11 14 i = nI j → ¬ hI hm 12 r i = 0) → Q (some (vi 1)) hm) (K0 : ¬ (hI hm 12 r j = 0 ∧ ∀ i, j < i → i < nJ → hI hm 11 14 i = nI j → ¬ hI hm 12 r i = 0) → Q (some (vi 0)) hm) : mT g me_fm_mayEmpty (d + 1) 0 0 0 [some (vr 10 0), some (vi (nI j)), some (vr 12 r), none, none] [] hm Q := by
  have cj : (nI j).toNatClampNeg = j := nc (by omega)
  have w0 : Q (some (vi 0)) hm → ∀ i, i ≤ nJ → mT g me_fm_mayEmpty (d + 1) 0 0 17 [some (vr 10 0), some (vi (nI j)), some (vr 12 r), some (vi 0), some (vi (nI i))] [] hm Q := by
    intro K
    refine upTo ?_ fun i hi ih => ?_
    · exact v_fm_mayEmpty_17 _ _ _ _ hs ⟨fun _ => ⟨zn_0, K⟩, fun q => absurd (by rw [h3]; exact Int32.le_refl _) q⟩
    · refine v_fm_mayEmpty_17 _ _ _ _ hs ⟨fun q => absurd q (by rw [h3]; exact nnle hi (by omega)), fun _ => ⟨fun _ => ?_, fun q => absurd rfl q⟩⟩
      rw [nI_1]
      exact ih
  have w1 : hI hm 12 r j = 0 → ∀ i, i ≤ nJ → (∀ i', j < i' → i' < i → hI hm 11 14 i' = nI j → ¬ hI hm 12 r i' = 0) → j < i → mT g me_fm_mayEmpty (d + 1) 0 0 17 [some (vr 10 0), some (vi (nI j)), some (vr 12 r), some (vi 1), some (vi (nI i))] [] hm Q := by
    intro z0
    refine upTo ?_ fun i hi ih => ?_
    · intro pre _
      exact v_fm_mayEmpty_17 _ _ _ _ hs ⟨fun _ => ⟨zn_1, K1 ⟨z0, pre⟩⟩, fun q => absurd (by rw [h3]; exact Int32.le_refl _) q⟩
    · intro pre lj
      refine v_fm_mayEmpty_17 _ _ _ _ hs ⟨fun q => absurd q (by rw [h3]; exact nnle hi (by omega)), fun _ => ⟨fun q => absurd q (by decide), fun _ => ⟨nin (by omega) (by omega), ?_⟩⟩⟩
      rw [nc (by omega : i ≤ 1000000), nI_1]
      refine ⟨fun q => ih (fun i' h1 h2 h4 => ?_) (by omega), fun q => ⟨mvin hl (nin (by omega) (by omega)), fun q2 => ?_, fun q2 => ih (fun i' h1 h2 h4 => ?_) (by omega)⟩⟩
      · by_cases z : i' < i
        · exact pre i' h1 z h4
        · have z2 : i' = i := by omega
          subst z2
          exact absurd h4 q
      · refine w0 (K0 fun z => z.2 i lj hi q q2) (i + 1) (by omega)
      · by_cases z : i' < i
        · exact pre i' h1 z h4
        · have z2 : i' = i := by omega
          subst z2
          exact q2
  refine v_fm_mayEmpty_0 _ _ hs ⟨mvin hl (nin (by omega) (by omega)), fun q => ?_, fun q => ?_⟩
  · rw [nI_1]
    rw [cj] at q
    exact w0 (K0 fun z => q z.1) (j + 1) (by omega)
  · rw [nI_1]
    rw [cj] at q
    exact w1 q (j + 1) (by omega) (fun i' h1 h2 => by omega) (by omega)
theorem mSK.l12 {h : mH} (S : mSK h) : hL h 12 0 = 30 ∧ hL h 12 4 = 30 := ⟨S.2.1 12 0 30 rfl, S.2.1 12 4 30 rfl⟩
/-- what is drawn there, and who plays there -/
theorem mCore.drw (C : mCore h nT nJ nK nV vs) {j : Nat} (hj : j < nJ) : (hI h 11 20 j = -9 ∧ drawO h (hI h 1 0 3) j = 0) ∨ ∃ k, k < nK ∧ hI h 11 20 j = nI k ∧ (drawO h (hI h 1 0 3) j = 0 ↔ hI h 12 1 k = 0) := by
  have bK := C.2.1.2.2.1
  rcases (C.jn hj).2.2.2.2.2.2.2.2.2 with ⟨q1, q2⟩ | ⟨k, kl, q1, q2, q3⟩
  · refine Or.inl ⟨q2, ?_⟩
    unfold drawO jK
    rw [q1]
    rfl
  · refine Or.inr ⟨k, kl, q2, ?_⟩
    unfold drawO jK
    rw [q1]
    show (if hI h 1 0 3 &&& hI h 8 k 1 = 0 then 0 else hI h 8 k 3) = 0 ↔ _
    rw [← C.play kl]
    obtain ⟨_, _, _, ⟨n, n1, n2, e3, _⟩, _⟩ := C.je kl
    by_cases z : hI h 1 0 3 &&& hI h 8 k 1 = 0
    · rw [if_pos z]; exact ⟨fun _ => z, fun _ => rfl⟩
    · rw [if_neg z, e3]
      exact ⟨fun y => absurd y (nI_ne0 (by omega) (by omega)), fun y => absurd y z⟩
/-- the core, a pipe emptied or filled -/
theorem mI.frost (I : mI h nT nJ nK nV vs) {j : Nat} {v : Int32} (hj : j < nJ) (hv : v = 0 ∨ v = 1) (up1 : ∀ a, a < j → hI h 11 14 j = nI a → hI h 12 0 a = 1 → v = 1) (up2 : ∀ i, i < nJ → j < i → hI h 11 14 i = nI j → v = 1 → hI h 12 0 i = 1) : mI (setI (setI (setI h 7 j 8 v) 12 0 j v) 10 0 55 0) nT nJ nK nV vs := by
  have C := I.1
  have bJ := C.2.1.2.1
  have e0 : ∀ i, hI (setI (setI (setI h 7 j 8 v) 12 0 j v) 10 0 55 0) 12 0 i = if i = j then v else hI h 12 0 i := by
    intro i
    show hI (setI h 12 0 j v) 12 0 i = _
    rw [hI_setI2]
  refine mI.ch (C.chJ rfl rfl rfl rfl rfl rfl rfl rfl rfl (fun i hi => (C.tk hi).of (((sameOn.rf.sI rfl).sI rfl).sI rfl)) (fun i hi => (C.jn hi).mk (fun _ => rfl) (((sameOn.rf.sI ?_).sI rfl).sI rfl) (Nat.le_refl _) (Nat.le_refl _) ?_ ?_ ?_ ?_) (fun k hk => (C.je hk).mk rfl (fun _ _ => rfl) (((sameOn.rf.sI rfl).sI rfl).sI rfl) (Nat.le_refl _) (C.je hk).b4 (C.je hk).bp) (fun v hv => (C.vw hv).mk (((sameOn.rf.sI rfl).sI rfl).sI rfl) (Nat.le_refl _) (Nat.le_refl _)) (C.sc.of (((sameOn.rf.sI rfl).sI rfl).sI rfl)) (C.pp.of (((sameOn.rf.sI rfl).sI rfl).sI rfl))) (I.2.1.mk (fun _ _ => ⟨rfl, rfl⟩) (fun i hi => ⟨?_, rfl⟩) (fun _ _ => rfl) (fun _ _ => hI_nf (show (7 : Nat) ≠ 8 by decide))) rfl
  · exact Bool.and_false _
  · show mNb (hI (setI h 7 j 8 v) 7 i 5) (hI h 11 17 i) 1 9
    rw [hI_nf (by decide)]
    exact (C.jn hi).b5
  · show mNb (hI (setI h 7 j 8 v) 7 i 6) (hI h 11 19 i) 0 60
    rw [hI_nf (by decide)]
    exact (C.jn hi).b6
  · rw [e0]
    show hI (setI h 7 j 8 v) 7 i 8 = _ ∧ _
    rw [hI_n2]
    by_cases q : i = j
    · rw [if_pos q, if_pos q]; exact ⟨rfl, hv⟩
    · rw [if_neg q, if_neg q]; exact (C.jn hi).b8
  · intro a la e
    rw [e0, e0]
    by_cases q : i = j
    · subst q
      rw [if_pos rfl, if_neg (by omega)]
      exact up1 a la e
    · rw [if_neg q]
      by_cases q2 : a = j
      · subst q2
        rw [if_pos rfl]
        exact up2 i hi la e
      · rw [if_neg q2]
        exact (C.jn hi).up (by omega) a la e
  · rw [e0, if_neg (by omega)]
theorem op_fill {g : mG} {d : Nat} (I : mI h nT nJ nK nV vs) (x : Int32) : mB g me_fn_fill me_fm_fill (d + 9) 0 0 [some (vr 0 0), some (vi x), none] [some (vr 10 0), some (vi x)] h := by
  have C := I.1
  have bJ := C.2.1.2.1
  rcases ix_cases x (n := nJ) (by omega) with hx | ⟨j, hj, rfl⟩
  · refine mB.ref I rf1 (-1) (fun Q K => v_fn_fill_0 (d := d + 4) x C.1 (sp_jointNo C hx ⟨none, rfl, C.1, fun _ => sp_refC (Q := fun y h => Q (some (vi y)) h) C.1 rf1 K, ns0⟩)) (fun Q s K => ?_)
    exact v_fm_fill_0 (d := d + 6) x s ⟨fun _ => sp_refM (Q := fun y h => Q (some (vi y)) h) s rf1 K, fun q => ⟨fun _ => sp_refM (Q := fun y h => Q (some (vi y)) h) s rf1 K, fun q2 => (hx.no C.k3 q q2).elim⟩⟩
  have n0 : ¬ nI j < 0 := nnneg (by omega)
  have ix : ∀ {a : Int32}, a = nI nJ → ¬ a ≤ nI j := fun e => ix_le e hj (by omega)
  have hin : vp_in (nI j) 30 := nin (by omega) (by omega)
  have ct : (nI j).toNatClampNeg = j := nc (by omega)
  have e8 := C.e8 hj
  by_cases c1 : hI h 12 0 j = 0
  · refine mB.ref I rf3 (-3) (fun Q K => v_fn_fill_0 (d := d + 4) _ C.1 (sp_joint C hj ⟨_, rfl, C.1, sn0, ss0 ⟨fun _ => sp_refC (Q := fun y h => Q (some (vi y)) h) C.1 rf3 K, fun q => absurd (e8.trans c1) q⟩⟩)) (fun Q s K => ?_)
    refine v_fm_fill_0 (d := d + 6) _ s ⟨fun q => absurd q n0, fun _ => ⟨fun q => absurd q (ix C.k3), fun _ => ⟨hin, fun _ => sp_refM (Q := fun y h => Q (some (vi y)) h) s rf3 K, fun q => absurd (?_ : hI h 12 0 (nI j).toNatClampNeg = 0) q⟩⟩⟩
    rw [ct]; exact c1
  have c1' : ¬ hI h 7 j 8 = 0 := by rw [e8]; exact c1
  -- the pipe is filled
  have fin : (∀ Q : Option mV → mH → Prop, Q (some (vi 1)) (setI h 7 j 8 0) → mT g me_fn_fill (d + 9) 0 0 0 [some (vr 0 0), some (vi (nI j)), none] [] h Q) → (∀ a, a < j → hI h 11 14 j = nI a → hI h 12 0 a = 0) → mB g me_fn_fill me_fm_fill (d + 9) 0 0 [some (vr 0 0), some (vi (nI j)), none] [some (vr 10 0), some (vi (nI j))] h := by
    intro k1 ka
    refine mB.mk 1 _ _ k1 (C.1.of rfl) ⟨rfl, fun _ => rfl⟩ (fun Q K => ?_) (I.frost hj (v := 0) (Or.inl rfl) (fun a la e z => ?_) (fun i hi lj e z => absurd z (by decide))) ⟨rfl, fun _ => rfl⟩
    · refine v_fm_fill_0 (d := d + 6) _ (C.1.of rfl) ⟨fun q => absurd q n0, fun _ => ⟨fun q => absurd q (ix C.k3), fun _ => ⟨hin, fun q => absurd (show hI h 12 0 (nI j).toNatClampNeg = 0 from q) (by rw [ct]; exact c1), fun _ => ⟨hin, ?_⟩⟩⟩⟩
      show (hI h 11 14 (nI j).toNatClampNeg < 0 → _) ∧ (¬ hI h 11 14 (nI j).toNatClampNeg < 0 → vp_in (nI j) 30 ∧ vp_in (hI h 11 14 (nI j).toNatClampNeg) 30 ∧ (hI h 12 0 (hI h 11 14 (nI j).toNatClampNeg).toNatClampNeg = 0 → _) ∧ (¬ hI h 12 0 (hI h 11 14 (nI j).toNatClampNeg).toNatClampNeg = 0 → _))
      rw [ct]
      refine ⟨fun _ => ⟨hin, K⟩, fun q => ⟨hin, ?_⟩⟩
      rcases C.ahd hj with e | ⟨a, la, e⟩
      · rw [e] at q; exact absurd (by decide) q
      · rw [e, nc (by omega : a ≤ 1000000)]
        exact ⟨nin (by omega) (by omega), fun _ => ⟨hin, K⟩, fun q2 => absurd (ka a la e) q2⟩
    · rw [ka a la e] at z; exact absurd z (by decide)
  rcases (C.jn hj).2.2.1 with ⟨y, y2⟩ | ⟨a, la, y, y2, _⟩
  · refine fin (fun Q K => v_fn_fill_0 (d := d + 4) _ C.1 (sp_joint C hj ⟨_, rfl, C.1, sn0, ss0 ⟨fun q => absurd q c1', fun _ => ⟨fun _ => K, by rw [y]; exact ns0⟩⟩⟩)) (fun a la e => ?_)
    rw [y2] at e
    exact absurd e.symm (by intro z; have h0 := nnneg (n := a) (by omega); rw [z] at h0; exact h0 (by decide))
  · by_cases c2 : hI h 12 0 a = 0
    · have c2' : hI h 7 a 8 = 0 := (C.e8 (by omega)).trans c2
      refine fin (fun Q K => v_fn_fill_0 (d := d + 4) _ C.1 (sp_joint C hj ⟨_, rfl, C.1, sn0, ss0 ⟨fun q => absurd q c1', fun _ => ⟨by rw [y]; exact sn0, by rw [y]; exact ss0 ⟨fun _ => K, fun q => absurd c2' q⟩⟩⟩⟩)) (fun a' la' e => ?_)
      rw [y2] at e
      have := (neq_iff (by omega) (by omega)).mp e
      subst this
      exact c2
    · have c2' : ¬ hI h 7 a 8 = 0 := by rw [C.e8 (by omega)]; exact c2
      refine mB.ref I rf3 (-3) (fun Q K => v_fn_fill_0 (d := d + 4) _ C.1 (sp_joint C hj ⟨_, rfl, C.1, sn0, ss0 ⟨fun q => absurd q c1', fun _ => ⟨by rw [y]; exact sn0, by rw [y]; exact ss0 ⟨fun q => absurd q c2', fun _ => sp_refC (Q := fun y h => Q (some (vi y)) h) C.1 rf3 K⟩⟩⟩⟩)) (fun Q s K => ?_)
      refine v_fm_fill_0 (d := d + 6) _ s ⟨fun q => absurd q n0, fun _ => ⟨fun q => absurd q (ix C.k3), fun _ => ⟨hin, fun q => absurd (show hI h 12 0 (nI j).toNatClampNeg = 0 from q) (by rw [ct]; exact c1), fun _ => ⟨hin, ?_⟩⟩⟩⟩
      show (hI h 11 14 (nI j).toNatClampNeg < 0 → _) ∧ (¬ hI h 11 14 (nI j).toNatClampNeg < 0 → vp_in (nI j) 30 ∧ vp_in (hI h 11 14 (nI j).toNatClampNeg) 30 ∧ (hI h 12 0 (hI h 11 14 (nI j).toNatClampNeg).toNatClampNeg = 0 → _) ∧ (¬ hI h 12 0 (hI h 11 14 (nI j).toNatClampNeg).toNatClampNeg = 0 → _))
      rw [ct, y2, nc (by omega : a ≤ 1000000)]
      exact ⟨fun q => absurd q (nnneg (by omega)), fun _ => ⟨hin, nin (by omega) (by omega), fun q => absurd q c2, fun _ => sp_refM (Q := fun y h => Q (some (vi y)) h) s rf3 K⟩⟩
theorem op_empty {g : mG} {d : Nat} (I : mI h nT nJ nK nV vs) (x : Int32) : mB g me_fn_empty me_fm_empty (d + 9) 0 0 [some (vr 0 0), some (vi x), none] [some (vr 10 0), some (vi x)] h := by
  have C := I.1
  have bJ := C.2.1.2.1
  have bK := C.2.1.2.2.1
  rcases ix_cases x (n := nJ) (by omega) with hx | ⟨j, hj, rfl⟩
  · refine mB.ref I rf1 (-1) (fun Q K => v_fn_empty_0 (d := d + 4) x C.1 (sp_jointNo C hx ⟨none, rfl, C.1, fun _ => sp_refC (Q := fun y h => Q (some (vi y)) h) C.1 rf1 K, ns0⟩)) (fun Q s K => ?_)
    exact v_fm_empty_0 (d := d + 6) x s ⟨fun _ => sp_refM (Q := fun y h => Q (some (vi y)) h) s rf1 K, fun q => ⟨fun _ => sp_refM (Q := fun y h => Q (some (vi y)) h) s rf1 K, fun q2 => (hx.no C.k3 q q2).elim⟩⟩
  have n0 : ¬ nI j < 0 := nnneg (by omega)
  have ix : ∀ {a : Int32}, a = nI nJ → ¬ a ≤ nI j := fun e => ix_le e hj (by omega)
  have hin : vp_in (nI j) 30 := nin (by omega) (by omega)
  have ct : (nI j).toNatClampNeg = j := nc (by omega)
  have e8 := C.e8 hj
  -- behind it, in the model
  have bh : ∀ i, i < nJ → hI h 11 14 i = nI j → j < i := by
    intro i hi e
    rcases C.ahd hi with z | ⟨a, la, z⟩
    · rw [z] at e
      exact absurd e.symm (by intro z; have h0 := nnneg (n := j) (by omega); rw [z] at h0; exact h0 (by decide))
    · rw [z] at e
      have := (neq_iff (by omega) (by omega)).mp e
      omega
  -- the model's walk
  have md : ∀ (hm : mH) (Q : Option mV → mH → Prop), sameM h hm → ((hI h 12 0 j = 0 ∧ (∀ i, j < i → i < nJ → hI h 11 14 i = nI j → ¬ hI h 12 0 i = 0) ∧ drawO h (hI h 1 0 3) j = 0) → Q (some (vi 1)) (setI (setI hm 12 0 j 1) 10 0 55 0)) → (¬ (hI h 12 0 j = 0 ∧ (∀ i, j < i → i < nJ → hI h 11 14 i = nI j → ¬ hI h 12 0 i = 0) ∧ drawO h (hI h 1 0 3) j = 0) → Q (some (vi (-3))) (rfM hm (-3))) → mT g me_fm_empty (d + 9) 0 0 0 [some (vr 10 0), some (vi (nI j))] [] hm Q := by
    intro hm Q M K1 K0
    have hs : mSK hm := C.1.of M.1
    have r0 : ∀ i, hI hm 12 0 i = hI h 12 0 i := fun i => M.2 12 0 i rfl
    have r14 : ∀ i, hI hm 11 14 i = hI h 11 14 i := fun i => M.2 11 14 i rfl
    refine v_fm_empty_0 (d := d + 6) _ hs ⟨fun q => absurd q n0, fun _ => ⟨fun q => absurd q (ix ((M.2 10 0 3 rfl).trans C.k3)), fun _ => ?_⟩⟩
    refine sp_mayM (d := d + 7) hs ((M.2 10 0 3 rfl).trans C.k3) bJ hs.l12.1 hj (fun z => ?_) (fun z => ?_)
    · refine ⟨_, rfl, hs, fun q => absurd q (by decide), fun _ => ⟨hin, ?_⟩⟩
      rw [ct, M.2 11 20 j rfl]
      have z2 : hI h 12 0 j = 0 ∧ ∀ i, j < i → i < nJ → hI h 11 14 i = nI j → ¬ hI h 12 0 i = 0 := ⟨by rw [← r0]; exact z.1, fun i a b c => by rw [← r0]; exact z.2 i a b (by rw [r14]; exact c)⟩
      rcases C.drw hj with ⟨y1, y2⟩ | ⟨k, kl, y1, y2⟩
      · rw [y1]
        exact ⟨fun _ => ⟨hin, K1 ⟨z2.1, z2.2, y2⟩⟩, fun q => absurd (by decide) q⟩
      · rw [y1, nc (by omega : k ≤ 1000000), M.2 12 1 k rfl]
        exact ⟨fun q => absurd q (nnneg (by omega)), fun _ => ⟨hin, nin (by omega) (by omega), fun q => ⟨hin, K1 ⟨z2.1, z2.2, y2.mpr q⟩⟩, fun q => sp_refM (Q := fun y h => Q (some (vi y)) h) hs rf3 (K0 fun w => q (y2.mp w.2.2))⟩⟩
    · refine ⟨_, rfl, hs, fun _ => sp_refM (Q := fun y h => Q (some (vi y)) h) hs rf3 (K0 fun w => z ⟨by rw [r0]; exact w.1, fun i a b c => by rw [r0]; exact w.2.1 i a b (by rw [← r14]; exact c)⟩), fun q => absurd rfl q⟩
  by_cases c1 : hI h 12 0 j = 0
  · have c1' : hI h 7 j 8 = 0 := e8.trans c1
    by_cases c2 : (∀ i, j < i → i < nJ → hI h 11 14 i = nI j → ¬ hI h 12 0 i = 0) ∧ drawO h (hI h 1 0 3) j = 0
    · refine mB.mk 1 (setI h 7 j 8 1) _ (fun Q K => v_fn_empty_0 (d := d + 4) _ C.1 (sp_joint C hj ⟨_, rfl, C.1, sn0, ss0 ⟨fun q => absurd c1' q, fun _ => sp_mayC C hj (fun z => ?_) (fun z => ?_)⟩⟩)) (C.1.of rfl) ⟨rfl, fun _ => rfl⟩ (fun Q K => md _ Q (sameM.rf.sI rfl) (fun _ => K) (fun q => absurd ⟨c1, c2.1, c2.2⟩ q)) (I.frost hj (v := 1) (Or.inr rfl) (fun _ _ _ _ => rfl) (fun i hi lj e _ => (C.ez hi).resolve_left (c2.1 i lj hi e))) ⟨rfl, fun _ => rfl⟩
      · rw [if_pos c2.2]
        exact ⟨_, rfl, C.1, fun _ => K, fun q => absurd q (by decide)⟩
      · obtain ⟨i, i1, i2, i3⟩ := z
        exact absurd i3 (c2.1 i (bh i i1 i2) i1 i2)
    · refine mB.ref I rf3 (-3) (fun Q K => v_fn_empty_0 (d := d + 4) _ C.1 (sp_joint C hj ⟨_, rfl, C.1, sn0, ss0 ⟨fun q => absurd c1' q, fun _ => sp_mayC C hj (fun z => ?_) (fun z => ?_)⟩⟩)) (fun Q s K => md _ Q sameM.rfC (fun q => absurd ⟨q.2.1, q.2.2⟩ c2) (fun _ => K))
      · have c3 : ¬ drawO h (hI h 1 0 3) j = 0 := fun w => c2 ⟨fun i _ b c => z i b c, w⟩
        rw [if_neg c3]
        exact ⟨_, rfl, C.1, fun q => absurd rfl q, fun _ => sp_refC (Q := fun y h => Q (some (vi y)) h) C.1 rf3 K⟩
      · exact ⟨_, rfl, C.1, fun q => absurd rfl q, fun _ => sp_refC (Q := fun y h => Q (some (vi y)) h) C.1 rf3 K⟩
  · have c1' : ¬ hI h 7 j 8 = 0 := by rw [e8]; exact c1
    exact mB.ref I rf3 (-3) (fun Q K => v_fn_empty_0 (d := d + 4) _ C.1 (sp_joint C hj ⟨_, rfl, C.1, sn0, ss0 ⟨fun _ => sp_refC (Q := fun y h => Q (some (vi y)) h) C.1 rf3 K, fun q => absurd q c1'⟩⟩)) (fun Q s K => md _ Q sameM.rfC (fun q => absurd q.1 c1) (fun _ => K))
end CORE
