/-! explain, explained, rivals -/
section CORE
variable {h h' hC hM : mH} {nT nJ nK nV nT' nJ' nK' : Nat} {vs : Nat → Nat}
theorem mI.lk (I : mI h nT nJ nK nV vs) (L : lkP h hM nT nJ nK) : mI hM nT nJ nK nV vs := by
  have R : sameR h hM := ⟨L.1, fun k n f r => L.2.1 k n f (by unfold relA; rw [r]; rfl) (fun z => by rw [z.1] at r; have r' : Nat.blt f 8 = true := r; rw [Nat.blt_eq] at r'; omega)⟩
  have C := I.1
  refine ⟨C.of R, I.2.1.mk (fun t _ => ⟨R.2 11 12 t rfl, R.2 11 13 t rfl⟩) (fun j _ => ⟨R.2 12 0 j rfl, R.2 11 19 j rfl⟩) (fun k _ => R.2 12 1 k rfl) (fun j _ => L.2.1 7 j 7 rfl (by omega)), Or.inr ⟨L.2.2.1, ?_⟩⟩
  have e : lkE hM nT nJ nK = lkE h nT nJ nK := by
    funext X
    exact lkE_congr C (Nat.le_refl _) (Nat.le_refl _) (fun j _ => ⟨R.2 12 0 j rfl, R.2 11 14 j rfl, R.2 11 15 j rfl, R.2 11 16 j rfl, R.2 11 17 j rfl, R.2 11 18 j rfl⟩) (fun X => nOw_same C (fun j _ => R.2 11 20 j rfl) (fun k _ => ⟨R.2 12 1 k rfl, R.2 11 22 k rfl⟩) X) (fun t _ => ⟨R.2 11 11 t rfl, R.2 11 7 t rfl, R.2 11 8 t rfl⟩) (fun k _ => ⟨R.2 11 23 k rfl, R.2 12 1 k rfl, R.2 11 21 k rfl⟩) (fun k q1 q2 => by omega) (R.2 10 0 7 rfl) X
  rw [e, lkN_congr (Nat.le_refl _) (fun k _ => R.2 11 23 k rfl) (fun k q1 q2 => by omega)]
  exact L.2.2.2
theorem lkF_same (C : mCore h nT nJ nK nV vs) (R : sameA h hC) : lkF (lkE hC nT nJ nK) nJ (lkN hC nK) = lkF (lkE h nT nJ nK) nJ (lkN h nK) := by
  rw [show lkE hC nT nJ nK = lkE h nT nJ nK from funext (lkE_same C R.B), lkN_congr (Nat.le_refl _) (fun k _ => R.2 11 23 k rfl) (fun k q1 q2 => by omega)]
theorem mB.lk {g : mG} {f1 f2 : mMe} {d mc ms : Nat} {L1 L2 : List (Option mV)} (I : mI h nT nJ nK nV vs) (y : Int32) (h1 : ∀ Q : Option mV → mH → Prop, (∀ hC, sameA h hC → Q (some (vi y)) hC) → mT g f1 d mc ms 0 L1 [] h Q)
    (h2 : ∀ hC, mI hC nT nJ nK nV vs → lkF (lkE hC nT nJ nK) nJ (lkN hC nK) = lkF (lkE h nT nJ nK) nJ (lkN h nK) → ∀ Q : Option mV → mH → Prop, (∀ hM, lkP hC hM nT nJ nK → Q (some (vi y)) hM) → mT g f2 d 0 0 0 L2 [] hC Q) : mB g f1 f2 d mc ms L1 L2 h :=
  mB.mkR y (sameA h) (fun hC hM => lkP hC hM nT nJ nK) h1 (fun hC R => ⟨I.1.1.of R.1, R.kp⟩) (fun hC R Q K => h2 hC (mI.of I R) (lkF_same I.1 R) Q K) fun hC hM R L => ⟨⟨nT, nJ, nK, nV, vs, mI.lk (mI.of I R) L⟩, ⟨by unfold hL; rw [L.1], fun f => L.2.1 14 0 f rfl (by omega)⟩⟩
theorem op_explain {g : mG} {d : Nat} (I : mI h nT nJ nK nV vs) : mB g me_fn_explain me_fm_explain (d + 9) 0 0 [some (vr 0 0)] [some (vr 10 0)] h := by
  refine mB.lk I (lkF (lkE h nT nJ nK) nJ (lkN h nK)).1.1 (fun Q K => v_fn_explain_0 I.1.1 (sp_seek (d := d) I fun h2 R _ => ⟨_, rfl, I.1.1.of R.1, K h2 R⟩)) (fun hC I' e Q K => v_fm_explain_0 (d := d + 4) I'.1.1 (sp_look (d := d + 4) I' fun h2 L => ⟨rfl, I'.1.1.of L.1, ?_⟩))
  have e2 := L.2.2.2.trans e
  have e3 : hI h2 10 0 56 = (lkF (lkE h nT nJ nK) nJ (lkN h nK)).1.1 := congrArg (fun z : L5 × Int32 => z.1.1) e2
  rw [e3]
  exact K h2 L
theorem op_rivals {g : mG} {d : Nat} (I : mI h nT nJ nK nV vs) : mB g me_fn_rivals me_fm_rivals (d + 9) 0 0 [some (vr 0 0)] [some (vr 10 0)] h := by
  refine mB.lk I (lkF (lkE h nT nJ nK) nJ (lkN h nK)).2 (fun Q K => v_fn_rivals_0 I.1.1 (sp_howMany (d := d) I fun h2 R => ⟨_, rfl, I.1.1.of R.1, K h2 R⟩)) (fun hC I' e Q K => v_fm_rivals_0 (d := d + 4) I'.1.1 (sp_look (d := d + 4) I' fun h2 L => ⟨rfl, I'.1.1.of L.1, ?_⟩))
  have e2 := L.2.2.2.trans e
  have e3 : hI h2 10 0 61 = (lkF (lkE h nT nJ nK) nJ (lkN h nK)).2 := congrArg (fun z : L5 × Int32 => z.2) e2
  rw [e3]
  exact K h2 L
theorem op_explained {g : mG} {d : Nat} (I : mI h nT nJ nK nV vs) (x : Int32) : mB g me_fn_explained me_fm_explained (d + 9) 0 0 [some (vr 0 0), some (vi x)] [some (vr 10 0), some (vi x)] h := by
  have C := I.1
  rcases (ix_or x (n := 4) (by omega) : x < 0 ∨ (¬ x < 0 ∧ nI 4 ≤ x) ∨ ∃ j, j < 4 ∧ x = nI j) with q | ⟨q1, q2⟩ | ⟨j, hj, rfl⟩
  · exact mB.ref I rf2 (-2) (fun Q K => v_fn_explained_0 _ C.1 ⟨fun _ => sp_refC (Q := fun y h => Q (some (vi y)) h) C.1 rf2 K, fun z => absurd q z⟩) (fun Q s K => v_fm_explained_0 (d := d + 4) _ s ⟨fun _ => sp_refM (Q := fun y h => Q (some (vi y)) h) s rf2 K, fun z => absurd q z⟩)
  · have q3 : ¬ x ≤ 3 := fun z => by
      rw [ile] at z q2
      have e1 : (nI 4).toInt = 4 := by decide
      have e2 : (3 : Int32).toInt = 3 := by decide
      omega
    exact mB.ref I rf2 (-2) (fun Q K => v_fn_explained_0 _ C.1 ⟨fun z => absurd z q1, fun _ => ⟨fun z => absurd z q3, fun _ => sp_refC (Q := fun y h => Q (some (vi y)) h) C.1 rf2 K⟩⟩) (fun Q s K => v_fm_explained_0 (d := d + 4) _ s ⟨fun z => absurd z q1, fun _ => ⟨fun _ => sp_refM (Q := fun y h => Q (some (vi y)) h) s rf2 K, fun z => absurd q2 z⟩⟩)
  · have n0 : ¬ nI j < 0 := nnneg (by omega)
    have n3 : nI j ≤ 3 := nle (b := 3) (by omega) (by omega)
    have n4 : ¬ (4 : Int32) ≤ nI j := nnle (a := 4) (b := j) hj (by omega)
    have hn : j = 0 ∨ j = 1 ∨ j = 2 ∨ j = 3 := by omega
    refine mB.lk I (if j = 0 then (lkF (lkE h nT nJ nK) nJ (lkN h nK)).1.2.1 else if j = 1 then (lkF (lkE h nT nJ nK) nJ (lkN h nK)).1.2.2.1 else if j = 2 then (lkF (lkE h nT nJ nK) nJ (lkN h nK)).1.2.2.2.1 else (lkF (lkE h nT nJ nK) nJ (lkN h nK)).1.2.2.2.2) (fun Q K => v_fn_explained_0 _ C.1 ⟨fun z => absurd z n0, fun _ => ⟨fun _ => sp_seek (d := d) I fun h2 R e => ⟨_, rfl, I.1.1.of R.1, ?_⟩, fun z => absurd n3 z⟩⟩) (fun hC I' e Q K => v_fm_explained_0 (d := d + 4) _ I'.1.1 ⟨fun z => absurd z n0, fun _ => ⟨fun z => absurd z n4, fun _ => sp_look (d := d + 4) I' fun h2 L => ⟨rfl, I'.1.1.of L.1, ?_⟩⟩⟩)
    · have K2 := K h2 R
      rw [← e] at K2
      rcases hn with rfl | rfl | rfl | rfl
      · exact ⟨fun _ => K2, fun z => absurd z (by decide), fun z => absurd z (by decide), fun z => absurd rfl z⟩
      · exact ⟨fun z => absurd z (by decide), fun _ => K2, fun z => absurd z (by decide), fun _ z => absurd rfl z⟩
      · exact ⟨fun z => absurd z (by decide), fun z => absurd z (by decide), fun _ => K2, fun _ _ z => absurd rfl z⟩
      · exact ⟨fun z => absurd z (by decide), fun z => absurd z (by decide), fun z => absurd z (by decide), fun _ _ _ => K2⟩
    · have e2 := L.2.2.2.trans e
      have K2 := K h2 L
      rw [← e2] at K2
      rcases hn with rfl | rfl | rfl | rfl
      · exact ⟨fun z => absurd rfl z, fun _ => K2⟩
      · exact ⟨fun _ => ⟨fun z => absurd rfl z, fun _ => K2⟩, fun z => absurd z (by decide)⟩
      · exact ⟨fun _ => ⟨fun _ => ⟨fun z => absurd rfl z, fun _ => K2⟩, fun z => absurd z (by decide)⟩, fun z => absurd z (by decide)⟩
      · exact ⟨fun _ => ⟨fun _ => ⟨fun _ => K2, fun z => absurd z (by decide)⟩, fun z => absurd z (by decide)⟩, fun z => absurd z (by decide)⟩
end CORE
