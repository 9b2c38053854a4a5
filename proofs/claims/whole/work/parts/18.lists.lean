/-! printed by my own program: ArrayList.add and remove, by what the list stands on -/
theorem hI_cpyP {h : mH} {a b w k' n' f' : Nat} : hI (cpyP h a b w) k' n' f' = hI h k' n' f' := rfl
theorem hP_cpyk {h : mH} {a b w k' n' f' : Nat} (q : k' ≠ 13) : hP (cpyP h a b w) k' n' f' = hP h k' n' f' := if_neg (fun z => q z.1)
section TR
variable {g : mG} {m : mMe} {d mc ms pc : Nat} {L : List (Option mV)} {st : List mV} {h : mH} {Q : Option mV → mH → Prop}
theorem tr_newQx {n : Int32} {idx : Nat} (hc : decode m.2.1 pc = .ok (.anewarray idx, 3)) (h0 : ¬ n < 0) (hb : n.toNatClampNeg ≤ 74) (hl : Cond.classLink m.1.cls idx "java/lang/Object" ∈ mTb) (kk : mT g m d mc 0 (pc + 3) L (vr 13 (hC h 13) :: st) (newC h 13 n.toNatClampNeg) Q) : mT g m d (mc + 1) 74 pc L (vi n :: st) h Q := by
  have k2 := tr_newQ (ms := 74 - n.toNatClampNeg) hc h0 rfl (by omega) hl (mT.weaken kk (Nat.le_refl _) (Nat.zero_le _))
  rw [show 74 - n.toNatClampNeg + n.toNatClampNeg = 74 by omega] at k2
  exact k2
end TR
theorem v_al_add_0_r {g : mG} {d : Nat} (a0 a1 kx : Nat) (hkx : kx < 11) {h : mH} {Q : Option mV → mH → Prop} (a9 : Nat) (e0 : hP h 2 a0 0 = some (13, a9)) (hne : a9 ≠ hC h 13) (hv : ((¬ (hI h 2 a0 1) = (Int32.ofNat (hL h 13 a9)) → (vp_in (hI h 2 a0 1) (hL (setI h 2 a0 2 ((hI h 2 a0 2) + (1 : Int32))) 13 a9) ∧ Q (some (vi (1 : Int32))) (setI (setP (setI h 2 a0 2 ((hI h 2 a0 2) + (1 : Int32))) 13 a9 ((hI h 2 a0 1).toNatClampNeg) (some (kx, a1))) 2 a0 1 ((hI h 2 a0 1) + (1 : Int32))))) ∧ ((hI h 2 a0 1) = (Int32.ofNat (hL h 13 a9)) → ((0 < (Int32.ofNat (hL h 13 a9)) → ((((Int32.ofNat (hL h 13 a9)) + (if (((hI h 2 a0 1) + (1 : Int32)) - (Int32.ofNat (hL h 13 a9))) < ((Int32.ofNat (hL h 13 a9)) >>> ((1 : Int32) &&& 31)) then ((Int32.ofNat (hL h 13 a9)) >>> ((1 : Int32) &&& 31)) else (((hI h 2 a0 1) + (1 : Int32)) - (Int32.ofNat (hL h 13 a9))))) ≤ (0 : Int32) → False) ∧ (¬ ((Int32.ofNat (hL h 13 a9)) + (if (((hI h 2 a0 1) + (1 : Int32)) - (Int32.ofNat (hL h 13 a9))) < ((Int32.ofNat (hL h 13 a9)) >>> ((1 : Int32) &&& 31)) then ((Int32.ofNat (hL h 13 a9)) >>> ((1 : Int32) &&& 31)) else (((hI h 2 a0 1) + (1 : Int32)) - (Int32.ofNat (hL h 13 a9))))) ≤ (0 : Int32) → (((2147483639 : Int32) < ((Int32.ofNat (hL h 13 a9)) + (if (((hI h 2 a0 1) + (1 : Int32)) - (Int32.ofNat (hL h 13 a9))) < ((Int32.ofNat (hL h 13 a9)) >>> ((1 : Int32) &&& 31)) then ((Int32.ofNat (hL h 13 a9)) >>> ((1 : Int32) &&& 31)) else (((hI h 2 a0 1) + (1 : Int32)) - (Int32.ofNat (hL h 13 a9))))) → False) ∧ (¬ (2147483639 : Int32) < ((Int32.ofNat (hL h 13 a9)) + (if (((hI h 2 a0 1) + (1 : Int32)) - (Int32.ofNat (hL h 13 a9))) < ((Int32.ofNat (hL h 13 a9)) >>> ((1 : Int32) &&& 31)) then ((Int32.ofNat (hL h 13 a9)) >>> ((1 : Int32) &&& 31)) else (((hI h 2 a0 1) + (1 : Int32)) - (Int32.ofNat (hL h 13 a9))))) → ((¬ ((Int32.ofNat (hL h 13 a9)) + (if (((hI h 2 a0 1) + (1 : Int32)) - (Int32.ofNat (hL h 13 a9))) < ((Int32.ofNat (hL h 13 a9)) >>> ((1 : Int32) &&& 31)) then ((Int32.ofNat (hL h 13 a9)) >>> ((1 : Int32) &&& 31)) else (((hI h 2 a0 1) + (1 : Int32)) - (Int32.ofNat (hL h 13 a9))))) < 0) ∧ (((Int32.ofNat (hL h 13 a9)) + (if (((hI h 2 a0 1) + (1 : Int32)) - (Int32.ofNat (hL h 13 a9))) < ((Int32.ofNat (hL h 13 a9)) >>> ((1 : Int32) &&& 31)) then ((Int32.ofNat (hL h 13 a9)) >>> ((1 : Int32) &&& 31)) else (((hI h 2 a0 1) + (1 : Int32)) - (Int32.ofNat (hL h 13 a9))))).toNatClampNeg ≤ 74) ∧ ((¬ (if ((Int32.ofNat (hL h 13 a9)) + (if (((hI h 2 a0 1) + (1 : Int32)) - (Int32.ofNat (hL h 13 a9))) < ((Int32.ofNat (hL h 13 a9)) >>> ((1 : Int32) &&& 31)) then ((Int32.ofNat (hL h 13 a9)) >>> ((1 : Int32) &&& 31)) else (((hI h 2 a0 1) + (1 : Int32)) - (Int32.ofNat (hL h 13 a9))))) < (Int32.ofNat (hL h 13 a9)) then ((Int32.ofNat (hL h 13 a9)) + (if (((hI h 2 a0 1) + (1 : Int32)) - (Int32.ofNat (hL h 13 a9))) < ((Int32.ofNat (hL h 13 a9)) >>> ((1 : Int32) &&& 31)) then ((Int32.ofNat (hL h 13 a9)) >>> ((1 : Int32) &&& 31)) else (((hI h 2 a0 1) + (1 : Int32)) - (Int32.ofNat (hL h 13 a9))))) else (Int32.ofNat (hL h 13 a9))) < 0) ∧ ((if ((Int32.ofNat (hL h 13 a9)) + (if (((hI h 2 a0 1) + (1 : Int32)) - (Int32.ofNat (hL h 13 a9))) < ((Int32.ofNat (hL h 13 a9)) >>> ((1 : Int32) &&& 31)) then ((Int32.ofNat (hL h 13 a9)) >>> ((1 : Int32) &&& 31)) else (((hI h 2 a0 1) + (1 : Int32)) - (Int32.ofNat (hL h 13 a9))))) < (Int32.ofNat (hL h 13 a9)) then ((Int32.ofNat (hL h 13 a9)) + (if (((hI h 2 a0 1) + (1 : Int32)) - (Int32.ofNat (hL h 13 a9))) < ((Int32.ofNat (hL h 13 a9)) >>> ((1 : Int32) &&& 31)) then ((Int32.ofNat (hL h 13 a9)) >>> ((1 : Int32) &&& 31)) else (((hI h 2 a0 1) + (1 : Int32)) - (Int32.ofNat (hL h 13 a9))))) else (Int32.ofNat (hL h 13 a9))).toNatClampNeg ≤ hL (newC (setI h 2 a0 2 ((hI h 2 a0 2) + (1 : Int32))) 13 (((Int32.ofNat (hL h 13 a9)) + (if (((hI h 2 a0 1) + (1 : Int32)) - (Int32.ofNat (hL h 13 a9))) < ((Int32.ofNat (hL h 13 a9)) >>> ((1 : Int32) &&& 31)) then ((Int32.ofNat (hL h 13 a9)) >>> ((1 : Int32) &&& 31)) else (((hI h 2 a0 1) + (1 : Int32)) - (Int32.ofNat (hL h 13 a9))))).toNatClampNeg)) 13 a9) ∧ ((if ((Int32.ofNat (hL h 13 a9)) + (if (((hI h 2 a0 1) + (1 : Int32)) - (Int32.ofNat (hL h 13 a9))) < ((Int32.ofNat (hL h 13 a9)) >>> ((1 : Int32) &&& 31)) then ((Int32.ofNat (hL h 13 a9)) >>> ((1 : Int32) &&& 31)) else (((hI h 2 a0 1) + (1 : Int32)) - (Int32.ofNat (hL h 13 a9))))) < (Int32.ofNat (hL h 13 a9)) then ((Int32.ofNat (hL h 13 a9)) + (if (((hI h 2 a0 1) + (1 : Int32)) - (Int32.ofNat (hL h 13 a9))) < ((Int32.ofNat (hL h 13 a9)) >>> ((1 : Int32) &&& 31)) then ((Int32.ofNat (hL h 13 a9)) >>> ((1 : Int32) &&& 31)) else (((hI h 2 a0 1) + (1 : Int32)) - (Int32.ofNat (hL h 13 a9))))) else (Int32.ofNat (hL h 13 a9))).toNatClampNeg ≤ hL (newC (setI h 2 a0 2 ((hI h 2 a0 2) + (1 : Int32))) 13 (((Int32.ofNat (hL h 13 a9)) + (if (((hI h 2 a0 1) + (1 : Int32)) - (Int32.ofNat (hL h 13 a9))) < ((Int32.ofNat (hL h 13 a9)) >>> ((1 : Int32) &&& 31)) then ((Int32.ofNat (hL h 13 a9)) >>> ((1 : Int32) &&& 31)) else (((hI h 2 a0 1) + (1 : Int32)) - (Int32.ofNat (hL h 13 a9))))).toNatClampNeg)) 13 (hC h 13)) ∧ (∀ i, i < (if ((Int32.ofNat (hL h 13 a9)) + (if (((hI h 2 a0 1) + (1 : Int32)) - (Int32.ofNat (hL h 13 a9))) < ((Int32.ofNat (hL h 13 a9)) >>> ((1 : Int32) &&& 31)) then ((Int32.ofNat (hL h 13 a9)) >>> ((1 : Int32) &&& 31)) else (((hI h 2 a0 1) + (1 : Int32)) - (Int32.ofNat (hL h 13 a9))))) < (Int32.ofNat (hL h 13 a9)) then ((Int32.ofNat (hL h 13 a9)) + (if (((hI h 2 a0 1) + (1 : Int32)) - (Int32.ofNat (hL h 13 a9))) < ((Int32.ofNat (hL h 13 a9)) >>> ((1 : Int32) &&& 31)) then ((Int32.ofNat (hL h 13 a9)) >>> ((1 : Int32) &&& 31)) else (((hI h 2 a0 1) + (1 : Int32)) - (Int32.ofNat (hL h 13 a9))))) else (Int32.ofNat (hL h 13 a9))).toNatClampNeg → ∀ r, hP (newC (setI h 2 a0 2 ((hI h 2 a0 2) + (1 : Int32))) 13 (((Int32.ofNat (hL h 13 a9)) + (if (((hI h 2 a0 1) + (1 : Int32)) - (Int32.ofNat (hL h 13 a9))) < ((Int32.ofNat (hL h 13 a9)) >>> ((1 : Int32) &&& 31)) then ((Int32.ofNat (hL h 13 a9)) >>> ((1 : Int32) &&& 31)) else (((hI h 2 a0 1) + (1 : Int32)) - (Int32.ofNat (hL h 13 a9))))).toNatClampNeg)) 13 a9 i = some r → r.1 < 11) ∧ (vp_in (hI h 2 a0 1) (hL (setP (cpyP (newC (setI h 2 a0 2 ((hI h 2 a0 2) + (1 : Int32))) 13 (((Int32.ofNat (hL h 13 a9)) + (if (((hI h 2 a0 1) + (1 : Int32)) - (Int32.ofNat (hL h 13 a9))) < ((Int32.ofNat (hL h 13 a9)) >>> ((1 : Int32) &&& 31)) then ((Int32.ofNat (hL h 13 a9)) >>> ((1 : Int32) &&& 31)) else (((hI h 2 a0 1) + (1 : Int32)) - (Int32.ofNat (hL h 13 a9))))).toNatClampNeg)) a9 (hC h 13) ((if ((Int32.ofNat (hL h 13 a9)) + (if (((hI h 2 a0 1) + (1 : Int32)) - (Int32.ofNat (hL h 13 a9))) < ((Int32.ofNat (hL h 13 a9)) >>> ((1 : Int32) &&& 31)) then ((Int32.ofNat (hL h 13 a9)) >>> ((1 : Int32) &&& 31)) else (((hI h 2 a0 1) + (1 : Int32)) - (Int32.ofNat (hL h 13 a9))))) < (Int32.ofNat (hL h 13 a9)) then ((Int32.ofNat (hL h 13 a9)) + (if (((hI h 2 a0 1) + (1 : Int32)) - (Int32.ofNat (hL h 13 a9))) < ((Int32.ofNat (hL h 13 a9)) >>> ((1 : Int32) &&& 31)) then ((Int32.ofNat (hL h 13 a9)) >>> ((1 : Int32) &&& 31)) else (((hI h 2 a0 1) + (1 : Int32)) - (Int32.ofNat (hL h 13 a9))))) else (Int32.ofNat (hL h 13 a9))).toNatClampNeg)) 2 a0 0 (some (13, (hC h 13)))) 13 (hC h 13)) ∧ Q (some (vi (1 : Int32))) (setI (setP (setP (cpyP (newC (setI h 2 a0 2 ((hI h 2 a0 2) + (1 : Int32))) 13 (((Int32.ofNat (hL h 13 a9)) + (if (((hI h 2 a0 1) + (1 : Int32)) - (Int32.ofNat (hL h 13 a9))) < ((Int32.ofNat (hL h 13 a9)) >>> ((1 : Int32) &&& 31)) then ((Int32.ofNat (hL h 13 a9)) >>> ((1 : Int32) &&& 31)) else (((hI h 2 a0 1) + (1 : Int32)) - (Int32.ofNat (hL h 13 a9))))).toNatClampNeg)) a9 (hC h 13) ((if ((Int32.ofNat (hL h 13 a9)) + (if (((hI h 2 a0 1) + (1 : Int32)) - (Int32.ofNat (hL h 13 a9))) < ((Int32.ofNat (hL h 13 a9)) >>> ((1 : Int32) &&& 31)) then ((Int32.ofNat (hL h 13 a9)) >>> ((1 : Int32) &&& 31)) else (((hI h 2 a0 1) + (1 : Int32)) - (Int32.ofNat (hL h 13 a9))))) < (Int32.ofNat (hL h 13 a9)) then ((Int32.ofNat (hL h 13 a9)) + (if (((hI h 2 a0 1) + (1 : Int32)) - (Int32.ofNat (hL h 13 a9))) < ((Int32.ofNat (hL h 13 a9)) >>> ((1 : Int32) &&& 31)) then ((Int32.ofNat (hL h 13 a9)) >>> ((1 : Int32) &&& 31)) else (((hI h 2 a0 1) + (1 : Int32)) - (Int32.ofNat (hL h 13 a9))))) else (Int32.ofNat (hL h 13 a9))).toNatClampNeg)) 2 a0 0 (some (13, (hC h 13)))) 13 (hC h 13) ((hI h 2 a0 1).toNatClampNeg) (some (kx, a1))) 2 a0 1 ((hI h 2 a0 1) + (1 : Int32))))))))))) ∧ (¬ 0 < (Int32.ofNat (hL h 13 a9)) → ((((Int32.ofNat (hL h 13 a9)) + (if (((hI h 2 a0 1) + (1 : Int32)) - (Int32.ofNat (hL h 13 a9))) < ((Int32.ofNat (hL h 13 a9)) >>> ((1 : Int32) &&& 31)) then ((Int32.ofNat (hL h 13 a9)) >>> ((1 : Int32) &&& 31)) else (((hI h 2 a0 1) + (1 : Int32)) - (Int32.ofNat (hL h 13 a9))))) ≤ (0 : Int32) → False) ∧ (¬ ((Int32.ofNat (hL h 13 a9)) + (if (((hI h 2 a0 1) + (1 : Int32)) - (Int32.ofNat (hL h 13 a9))) < ((Int32.ofNat (hL h 13 a9)) >>> ((1 : Int32) &&& 31)) then ((Int32.ofNat (hL h 13 a9)) >>> ((1 : Int32) &&& 31)) else (((hI h 2 a0 1) + (1 : Int32)) - (Int32.ofNat (hL h 13 a9))))) ≤ (0 : Int32) → (((2147483639 : Int32) < ((Int32.ofNat (hL h 13 a9)) + (if (((hI h 2 a0 1) + (1 : Int32)) - (Int32.ofNat (hL h 13 a9))) < ((Int32.ofNat (hL h 13 a9)) >>> ((1 : Int32) &&& 31)) then ((Int32.ofNat (hL h 13 a9)) >>> ((1 : Int32) &&& 31)) else (((hI h 2 a0 1) + (1 : Int32)) - (Int32.ofNat (hL h 13 a9))))) → False) ∧ (¬ (2147483639 : Int32) < ((Int32.ofNat (hL h 13 a9)) + (if (((hI h 2 a0 1) + (1 : Int32)) - (Int32.ofNat (hL h 13 a9))) < ((Int32.ofNat (hL h 13 a9)) >>> ((1 : Int32) &&& 31)) then ((Int32.ofNat (hL h 13 a9)) >>> ((1 : Int32) &&& 31)) else (((hI h 2 a0 1) + (1 : Int32)) - (Int32.ofNat (hL h 13 a9))))) → ((¬ ((Int32.ofNat (hL h 13 a9)) + (if (((hI h 2 a0 1) + (1 : Int32)) - (Int32.ofNat (hL h 13 a9))) < ((Int32.ofNat (hL h 13 a9)) >>> ((1 : Int32) &&& 31)) then ((Int32.ofNat (hL h 13 a9)) >>> ((1 : Int32) &&& 31)) else (((hI h 2 a0 1) + (1 : Int32)) - (Int32.ofNat (hL h 13 a9))))) < 0) ∧ (((Int32.ofNat (hL h 13 a9)) + (if (((hI h 2 a0 1) + (1 : Int32)) - (Int32.ofNat (hL h 13 a9))) < ((Int32.ofNat (hL h 13 a9)) >>> ((1 : Int32) &&& 31)) then ((Int32.ofNat (hL h 13 a9)) >>> ((1 : Int32) &&& 31)) else (((hI h 2 a0 1) + (1 : Int32)) - (Int32.ofNat (hL h 13 a9))))).toNatClampNeg ≤ 74) ∧ ((¬ (if ((Int32.ofNat (hL h 13 a9)) + (if (((hI h 2 a0 1) + (1 : Int32)) - (Int32.ofNat (hL h 13 a9))) < ((Int32.ofNat (hL h 13 a9)) >>> ((1 : Int32) &&& 31)) then ((Int32.ofNat (hL h 13 a9)) >>> ((1 : Int32) &&& 31)) else (((hI h 2 a0 1) + (1 : Int32)) - (Int32.ofNat (hL h 13 a9))))) < (Int32.ofNat (hL h 13 a9)) then ((Int32.ofNat (hL h 13 a9)) + (if (((hI h 2 a0 1) + (1 : Int32)) - (Int32.ofNat (hL h 13 a9))) < ((Int32.ofNat (hL h 13 a9)) >>> ((1 : Int32) &&& 31)) then ((Int32.ofNat (hL h 13 a9)) >>> ((1 : Int32) &&& 31)) else (((hI h 2 a0 1) + (1 : Int32)) - (Int32.ofNat (hL h 13 a9))))) else (Int32.ofNat (hL h 13 a9))) < 0) ∧ ((if ((Int32.ofNat (hL h 13 a9)) + (if (((hI h 2 a0 1) + (1 : Int32)) - (Int32.ofNat (hL h 13 a9))) < ((Int32.ofNat (hL h 13 a9)) >>> ((1 : Int32) &&& 31)) then ((Int32.ofNat (hL h 13 a9)) >>> ((1 : Int32) &&& 31)) else (((hI h 2 a0 1) + (1 : Int32)) - (Int32.ofNat (hL h 13 a9))))) < (Int32.ofNat (hL h 13 a9)) then ((Int32.ofNat (hL h 13 a9)) + (if (((hI h 2 a0 1) + (1 : Int32)) - (Int32.ofNat (hL h 13 a9))) < ((Int32.ofNat (hL h 13 a9)) >>> ((1 : Int32) &&& 31)) then ((Int32.ofNat (hL h 13 a9)) >>> ((1 : Int32) &&& 31)) else (((hI h 2 a0 1) + (1 : Int32)) - (Int32.ofNat (hL h 13 a9))))) else (Int32.ofNat (hL h 13 a9))).toNatClampNeg ≤ hL (newC (setI h 2 a0 2 ((hI h 2 a0 2) + (1 : Int32))) 13 (((Int32.ofNat (hL h 13 a9)) + (if (((hI h 2 a0 1) + (1 : Int32)) - (Int32.ofNat (hL h 13 a9))) < ((Int32.ofNat (hL h 13 a9)) >>> ((1 : Int32) &&& 31)) then ((Int32.ofNat (hL h 13 a9)) >>> ((1 : Int32) &&& 31)) else (((hI h 2 a0 1) + (1 : Int32)) - (Int32.ofNat (hL h 13 a9))))).toNatClampNeg)) 13 a9) ∧ ((if ((Int32.ofNat (hL h 13 a9)) + (if (((hI h 2 a0 1) + (1 : Int32)) - (Int32.ofNat (hL h 13 a9))) < ((Int32.ofNat (hL h 13 a9)) >>> ((1 : Int32) &&& 31)) then ((Int32.ofNat (hL h 13 a9)) >>> ((1 : Int32) &&& 31)) else (((hI h 2 a0 1) + (1 : Int32)) - (Int32.ofNat (hL h 13 a9))))) < (Int32.ofNat (hL h 13 a9)) then ((Int32.ofNat (hL h 13 a9)) + (if (((hI h 2 a0 1) + (1 : Int32)) - (Int32.ofNat (hL h 13 a9))) < ((Int32.ofNat (hL h 13 a9)) >>> ((1 : Int32) &&& 31)) then ((Int32.ofNat (hL h 13 a9)) >>> ((1 : Int32) &&& 31)) else (((hI h 2 a0 1) + (1 : Int32)) - (Int32.ofNat (hL h 13 a9))))) else (Int32.ofNat (hL h 13 a9))).toNatClampNeg ≤ hL (newC (setI h 2 a0 2 ((hI h 2 a0 2) + (1 : Int32))) 13 (((Int32.ofNat (hL h 13 a9)) + (if (((hI h 2 a0 1) + (1 : Int32)) - (Int32.ofNat (hL h 13 a9))) < ((Int32.ofNat (hL h 13 a9)) >>> ((1 : Int32) &&& 31)) then ((Int32.ofNat (hL h 13 a9)) >>> ((1 : Int32) &&& 31)) else (((hI h 2 a0 1) + (1 : Int32)) - (Int32.ofNat (hL h 13 a9))))).toNatClampNeg)) 13 (hC h 13)) ∧ (∀ i, i < (if ((Int32.ofNat (hL h 13 a9)) + (if (((hI h 2 a0 1) + (1 : Int32)) - (Int32.ofNat (hL h 13 a9))) < ((Int32.ofNat (hL h 13 a9)) >>> ((1 : Int32) &&& 31)) then ((Int32.ofNat (hL h 13 a9)) >>> ((1 : Int32) &&& 31)) else (((hI h 2 a0 1) + (1 : Int32)) - (Int32.ofNat (hL h 13 a9))))) < (Int32.ofNat (hL h 13 a9)) then ((Int32.ofNat (hL h 13 a9)) + (if (((hI h 2 a0 1) + (1 : Int32)) - (Int32.ofNat (hL h 13 a9))) < ((Int32.ofNat (hL h 13 a9)) >>> ((1 : Int32) &&& 31)) then ((Int32.ofNat (hL h 13 a9)) >>> ((1 : Int32) &&& 31)) else (((hI h 2 a0 1) + (1 : Int32)) - (Int32.ofNat (hL h 13 a9))))) else (Int32.ofNat (hL h 13 a9))).toNatClampNeg → ∀ r, hP (newC (setI h 2 a0 2 ((hI h 2 a0 2) + (1 : Int32))) 13 (((Int32.ofNat (hL h 13 a9)) + (if (((hI h 2 a0 1) + (1 : Int32)) - (Int32.ofNat (hL h 13 a9))) < ((Int32.ofNat (hL h 13 a9)) >>> ((1 : Int32) &&& 31)) then ((Int32.ofNat (hL h 13 a9)) >>> ((1 : Int32) &&& 31)) else (((hI h 2 a0 1) + (1 : Int32)) - (Int32.ofNat (hL h 13 a9))))).toNatClampNeg)) 13 a9 i = some r → r.1 < 11) ∧ (vp_in (hI h 2 a0 1) (hL (setP (cpyP (newC (setI h 2 a0 2 ((hI h 2 a0 2) + (1 : Int32))) 13 (((Int32.ofNat (hL h 13 a9)) + (if (((hI h 2 a0 1) + (1 : Int32)) - (Int32.ofNat (hL h 13 a9))) < ((Int32.ofNat (hL h 13 a9)) >>> ((1 : Int32) &&& 31)) then ((Int32.ofNat (hL h 13 a9)) >>> ((1 : Int32) &&& 31)) else (((hI h 2 a0 1) + (1 : Int32)) - (Int32.ofNat (hL h 13 a9))))).toNatClampNeg)) a9 (hC h 13) ((if ((Int32.ofNat (hL h 13 a9)) + (if (((hI h 2 a0 1) + (1 : Int32)) - (Int32.ofNat (hL h 13 a9))) < ((Int32.ofNat (hL h 13 a9)) >>> ((1 : Int32) &&& 31)) then ((Int32.ofNat (hL h 13 a9)) >>> ((1 : Int32) &&& 31)) else (((hI h 2 a0 1) + (1 : Int32)) - (Int32.ofNat (hL h 13 a9))))) < (Int32.ofNat (hL h 13 a9)) then ((Int32.ofNat (hL h 13 a9)) + (if (((hI h 2 a0 1) + (1 : Int32)) - (Int32.ofNat (hL h 13 a9))) < ((Int32.ofNat (hL h 13 a9)) >>> ((1 : Int32) &&& 31)) then ((Int32.ofNat (hL h 13 a9)) >>> ((1 : Int32) &&& 31)) else (((hI h 2 a0 1) + (1 : Int32)) - (Int32.ofNat (hL h 13 a9))))) else (Int32.ofNat (hL h 13 a9))).toNatClampNeg)) 2 a0 0 (some (13, (hC h 13)))) 13 (hC h 13)) ∧ Q (some (vi (1 : Int32))) (setI (setP (setP (cpyP (newC (setI h 2 a0 2 ((hI h 2 a0 2) + (1 : Int32))) 13 (((Int32.ofNat (hL h 13 a9)) + (if (((hI h 2 a0 1) + (1 : Int32)) - (Int32.ofNat (hL h 13 a9))) < ((Int32.ofNat (hL h 13 a9)) >>> ((1 : Int32) &&& 31)) then ((Int32.ofNat (hL h 13 a9)) >>> ((1 : Int32) &&& 31)) else (((hI h 2 a0 1) + (1 : Int32)) - (Int32.ofNat (hL h 13 a9))))).toNatClampNeg)) a9 (hC h 13) ((if ((Int32.ofNat (hL h 13 a9)) + (if (((hI h 2 a0 1) + (1 : Int32)) - (Int32.ofNat (hL h 13 a9))) < ((Int32.ofNat (hL h 13 a9)) >>> ((1 : Int32) &&& 31)) then ((Int32.ofNat (hL h 13 a9)) >>> ((1 : Int32) &&& 31)) else (((hI h 2 a0 1) + (1 : Int32)) - (Int32.ofNat (hL h 13 a9))))) < (Int32.ofNat (hL h 13 a9)) then ((Int32.ofNat (hL h 13 a9)) + (if (((hI h 2 a0 1) + (1 : Int32)) - (Int32.ofNat (hL h 13 a9))) < ((Int32.ofNat (hL h 13 a9)) >>> ((1 : Int32) &&& 31)) then ((Int32.ofNat (hL h 13 a9)) >>> ((1 : Int32) &&& 31)) else (((hI h 2 a0 1) + (1 : Int32)) - (Int32.ofNat (hL h 13 a9))))) else (Int32.ofNat (hL h 13 a9))).toNatClampNeg)) 2 a0 0 (some (13, (hC h 13)))) 13 (hC h 13) ((hI h 2 a0 1).toNatClampNeg) (some (kx, a1))) 2 a0 1 ((hI h 2 a0 1) + (1 : Int32))))))))))))))) : mT g me_al_add (d + 6) 1 74 0 [some (vr 2 a0), some (vr kx a1)] [] h Q := by
  refine tr_aload_n (pc := 0) 0 k_al_add_0 rfl rfl ?_
  refine tr_dup (pc := 1) k_al_add_1 rfl ?_
  refine tr_getIx (pc := 2) k_al_add_2 fl_al_63 rfl rfl ?_
  refine tr_iconst (pc := 5) (v := 1) k_al_add_5 (by decide) ?_
  refine tr_iadd (pc := 6) k_al_add_6 ?_
  refine tr_putI (pc := 7) k_al_add_7 fl_al_63 (Or.inl rfl) rfl ⟨rfl, rfl⟩ ?_
  refine tr_aload_n (pc := 10) 0 k_al_add_10 rfl rfl ?_
  refine tr_aload_n (pc := 11) 1 k_al_add_11 rfl rfl ?_
  refine tr_aload_n (pc := 12) 0 k_al_add_12 rfl rfl ?_
  refine tr_getP (pc := 13) k_al_add_13 fl_al_9 rfl (Eq.trans (hP_setI) e0) ?_
  refine tr_aload_n (pc := 16) 0 k_al_add_16 rfl rfl ?_
  refine tr_getIx (pc := 17) k_al_add_17 fl_al_48 rfl (hI_nf (by decide)) ?_
  refine tr_callV (pc := 20) (d' := d + 5) (mc' := 1) (ms' := 74) [vr kx a1, vr 13 a9, vi (hI h 2 a0 1)] k_al_add_20 ca_al_add2 ml_al_131 ii_al_add2 ⟨by decide, rfl⟩ pa_al_add2 (by omega) (by omega) (by omega) rfl (Nat.le_of_ble_eq_true rfl) (Nat.le_of_ble_eq_true rfl) (Qk := fun v h9 => mT g me_al_add (d + 6) 0 0 23 [some (vr 2 a0), some (vr kx a1)] (v.toList ++ []) h9 _) ?_ (fun _ _ z => z)
  show mT g me_al_add2 (d + 5) 1 74 0 [some (vr 2 a0), some (vr kx a1), some (vr 13 a9), some (vi (hI h 2 a0 1))] [] (setI h 2 a0 2 ((hI h 2 a0 2) + (1 : Int32))) _
  refine tr_iload_n (pc := 0) 3 k_al_add2_0 rfl rfl ?_
  refine tr_aload_n (pc := 1) 2 k_al_add2_1 rfl rfl ?_
  refine tr_alen (pc := 2) (v := (Int32.ofNat (hL h 13 a9))) (by decide) k_al_add2_2 rfl ?_
  refine tr_icmp_ne (pc := 3) 11 k_al_add2_3 (by decide) (fun q => ?_) (fun q => ?_)
  · replace hv := hv.1 q
    refine tr_aload_n (pc := 11) 2 k_al_add2_11 rfl rfl ?_
    refine tr_iload_n (pc := 12) 3 k_al_add2_12 rfl rfl ?_
    refine tr_aload_n (pc := 13) 1 k_al_add2_13 rfl rfl ?_
    refine tr_aast (pc := 14) k_al_add2_14 hv.1 hkx ?_
    replace hv := hv.2
    refine tr_aload_n (pc := 15) 0 k_al_add2_15 rfl rfl ?_
    refine tr_iload_n (pc := 16) 3 k_al_add2_16 rfl rfl ?_
    refine tr_iconst (pc := 17) (v := 1) k_al_add2_17 (by decide) ?_
    refine tr_iadd (pc := 18) k_al_add2_18 ?_
    refine tr_putI (pc := 19) k_al_add2_19 fl_al_48 (Or.inl rfl) rfl ⟨rfl, rfl⟩ ?_
    refine tr_return (pc := 22) k_al_add2_22 rfl ?_
    show mT g me_al_add (d + 6) 0 0 23 [some (vr 2 a0), some (vr kx a1)] [] (setI (setP (setI h 2 a0 2 ((hI h 2 a0 2) + (1 : Int32))) 13 a9 ((hI h 2 a0 1).toNatClampNeg) (some (kx, a1))) 2 a0 1 ((hI h 2 a0 1) + (1 : Int32))) _
    refine tr_iconst (pc := 23) (v := 1) k_al_add_23 (by decide) ?_
    refine tr_ireturn (pc := 24) k_al_add_24 rfl rfl ?_
    exact hv
  · replace hv := hv.2 q
    refine tr_aload_n (pc := 6) 0 k_al_add2_6 rfl rfl ?_
    refine tr_callV (pc := 7) (d' := d + 4) (mc' := 1) (ms' := 74) [] k_al_add2_7 ca_al_grow ml_al_129 ii_al_grow ⟨by decide, rfl⟩ pa_al_grow (by omega) (by omega) (by omega) rfl (Nat.le_of_ble_eq_true rfl) (Nat.le_of_ble_eq_true rfl) (Qk := fun v h9 => mT g me_al_add2 (d + 5) 0 0 10 [some (vr 2 a0), some (vr kx a1), some (vr 13 a9), some (vi (hI h 2 a0 1))] (v.toList ++ []) h9 _) ?_ (fun _ _ z => z)
    show mT g me_al_grow (d + 4) 1 74 0 [some (vr 2 a0)] [] (setI h 2 a0 2 ((hI h 2 a0 2) + (1 : Int32))) _
    refine tr_aload_n (pc := 0) 0 k_al_grow_0 rfl rfl ?_
    refine tr_aload_n (pc := 1) 0 k_al_grow_1 rfl rfl ?_
    refine tr_getIx (pc := 2) k_al_grow_2 fl_al_48 rfl (hI_nf (by decide)) ?_
    refine tr_iconst (pc := 5) (v := 1) k_al_grow_5 (by decide) ?_
    refine tr_iadd (pc := 6) k_al_grow_6 ?_
    refine tr_callV (pc := 7) (d' := d + 3) (mc' := 1) (ms' := 74) [vi ((hI h 2 a0 1) + (1 : Int32))] k_al_grow_7 ca_al_grow2 ml_al_69 ii_al_grow2 ⟨by decide, rfl⟩ pa_al_grow2 (by omega) (by omega) (by omega) rfl (Nat.le_of_ble_eq_true rfl) (Nat.le_of_ble_eq_true rfl) (Qk := fun v h9 => mT g me_al_grow (d + 4) 0 0 10 [some (vr 2 a0)] (v.toList ++ []) h9 _) ?_ (fun _ _ z => z)
    show mT g me_al_grow2 (d + 3) 1 74 0 [some (vr 2 a0), some (vi ((hI h 2 a0 1) + (1 : Int32))), none, none] [] (setI h 2 a0 2 ((hI h 2 a0 2) + (1 : Int32))) _
    refine tr_aload_n (pc := 0) 0 k_al_grow2_0 rfl rfl ?_
    refine tr_getP (pc := 1) k_al_grow2_1 fl_al_9 rfl (Eq.trans (hP_setI) e0) ?_
    refine tr_alen (pc := 4) (v := (Int32.ofNat (hL h 13 a9))) (by decide) k_al_grow2_4 rfl ?_
    refine tr_istore_n (pc := 5) 2 k_al_grow2_5 rfl (by decide) rfl ?_
    show mT g me_al_grow2 (d + 3) 1 74 6 [some (vr 2 a0), some (vi ((hI h 2 a0 1) + (1 : Int32))), some (vi (Int32.ofNat (hL h 13 a9))), none] [] (setI h 2 a0 2 ((hI h 2 a0 2) + (1 : Int32))) _
    refine tr_iload_n (pc := 6) 2 k_al_grow2_6 rfl rfl ?_
    refine tr_if_gt (pc := 7) 20 k_al_grow2_7 (by decide) (fun q => ?_) (fun q => ?_)
    · replace hv := hv.1 q
      refine tr_iload_n (pc := 20) 2 k_al_grow2_20 rfl rfl ?_
      refine tr_iload_n (pc := 21) 1 k_al_grow2_21 rfl rfl ?_
      refine tr_iload_n (pc := 22) 2 k_al_grow2_22 rfl rfl ?_
      refine tr_isub (pc := 23) k_al_grow2_23 ?_
      refine tr_iload_n (pc := 24) 2 k_al_grow2_24 rfl rfl ?_
      refine tr_iconst (pc := 25) (v := 1) k_al_grow2_25 (by decide) ?_
      refine tr_ishr (pc := 26) k_al_grow2_26 ?_
      refine tr_callS (pc := 27) (d' := d + 2) (mc' := 0) (ms' := 0) [vi (Int32.ofNat (hL h 13 a9)), vi (((hI h 2 a0 1) + (1 : Int32)) - (Int32.ofNat (hL h 13 a9))), vi ((Int32.ofNat (hL h 13 a9)) >>> ((1 : Int32) &&& 31))] k_al_grow2_27 ca_as_newLength ml_al_73 is_as_newLength pa_as_newLength (by omega) (by omega) (by omega) rfl (Nat.le_of_ble_eq_true rfl) (Nat.le_of_ble_eq_true rfl) (Qk := fun v h9 => mT g me_al_grow2 (d + 3) 1 74 30 [some (vr 2 a0), some (vi ((hI h 2 a0 1) + (1 : Int32))), some (vi (Int32.ofNat (hL h 13 a9))), none] (v.toList ++ []) h9 _) ?_ (fun _ _ z => z)
      show mT g me_as_newLength (d + 2) 0 0 0 [some (vi (Int32.ofNat (hL h 13 a9))), some (vi (((hI h 2 a0 1) + (1 : Int32)) - (Int32.ofNat (hL h 13 a9)))), some (vi ((Int32.ofNat (hL h 13 a9)) >>> ((1 : Int32) &&& 31))), none] [] (setI h 2 a0 2 ((hI h 2 a0 2) + (1 : Int32))) _
      refine tr_iload_n (pc := 0) 0 k_as_newLength_0 rfl rfl ?_
      refine tr_iload_n (pc := 1) 1 k_as_newLength_1 rfl rfl ?_
      refine tr_iload_n (pc := 2) 2 k_as_newLength_2 rfl rfl ?_
      refine tr_max (pc := 3) k_as_newLength_3 ml_as_194 (by omega) (Nat.le_of_ble_eq_true rfl) ?_
      refine tr_iadd (pc := 6) k_as_newLength_6 ?_
      refine tr_istore_n (pc := 7) 3 k_as_newLength_7 rfl (by decide) rfl ?_
      show mT g me_as_newLength (d + 2) 0 0 8 [some (vi (Int32.ofNat (hL h 13 a9))), some (vi (((hI h 2 a0 1) + (1 : Int32)) - (Int32.ofNat (hL h 13 a9)))), some (vi ((Int32.ofNat (hL h 13 a9)) >>> ((1 : Int32) &&& 31))), some (vi ((Int32.ofNat (hL h 13 a9)) + (if (((hI h 2 a0 1) + (1 : Int32)) - (Int32.ofNat (hL h 13 a9))) < ((Int32.ofNat (hL h 13 a9)) >>> ((1 : Int32) &&& 31)) then ((Int32.ofNat (hL h 13 a9)) >>> ((1 : Int32) &&& 31)) else (((hI h 2 a0 1) + (1 : Int32)) - (Int32.ofNat (hL h 13 a9))))))] [] (setI h 2 a0 2 ((hI h 2 a0 2) + (1 : Int32))) _
      refine tr_iconst (pc := 8) (v := 0) k_as_newLength_8 (by decide) ?_
      refine tr_iload_n (pc := 9) 3 k_as_newLength_9 rfl rfl ?_
      refine tr_icmp_ge (pc := 10) 21 k_as_newLength_10 (by decide) (fun q => ?_) (fun q => ?_)
      · replace hv := hv.1 q
        refine tr_iload_n (pc := 21) 0 k_as_newLength_21 rfl rfl ?_
        refine tr_iload_n (pc := 22) 1 k_as_newLength_22 rfl rfl ?_
        exact hv.elim
      · replace hv := hv.2 q
        refine tr_iload_n (pc := 13) 3 k_as_newLength_13 rfl rfl ?_
        refine tr_ldc (pc := 14) (v := 2147483639) k_as_newLength_14 co_as_200 ?_
        refine tr_icmp_gt (pc := 16) 21 k_as_newLength_16 (by decide) (fun q => ?_) (fun q => ?_)
        · replace hv := hv.1 q
          refine tr_iload_n (pc := 21) 0 k_as_newLength_21 rfl rfl ?_
          refine tr_iload_n (pc := 22) 1 k_as_newLength_22 rfl rfl ?_
          exact hv.elim
        · replace hv := hv.2 q
          refine tr_iload_n (pc := 19) 3 k_as_newLength_19 rfl rfl ?_
          refine tr_ireturn (pc := 20) k_as_newLength_20 rfl rfl ?_
          show mT g me_al_grow2 (d + 3) 1 74 30 [some (vr 2 a0), some (vi ((hI h 2 a0 1) + (1 : Int32))), some (vi (Int32.ofNat (hL h 13 a9))), none] [vi ((Int32.ofNat (hL h 13 a9)) + (if (((hI h 2 a0 1) + (1 : Int32)) - (Int32.ofNat (hL h 13 a9))) < ((Int32.ofNat (hL h 13 a9)) >>> ((1 : Int32) &&& 31)) then ((Int32.ofNat (hL h 13 a9)) >>> ((1 : Int32) &&& 31)) else (((hI h 2 a0 1) + (1 : Int32)) - (Int32.ofNat (hL h 13 a9)))))] (setI h 2 a0 2 ((hI h 2 a0 2) + (1 : Int32))) _
          refine tr_istore_n (pc := 30) 3 k_al_grow2_30 rfl (by decide) rfl ?_
          show mT g me_al_grow2 (d + 3) 1 74 31 [some (vr 2 a0), some (vi ((hI h 2 a0 1) + (1 : Int32))), some (vi (Int32.ofNat (hL h 13 a9))), some (vi ((Int32.ofNat (hL h 13 a9)) + (if (((hI h 2 a0 1) + (1 : Int32)) - (Int32.ofNat (hL h 13 a9))) < ((Int32.ofNat (hL h 13 a9)) >>> ((1 : Int32) &&& 31)) then ((Int32.ofNat (hL h 13 a9)) >>> ((1 : Int32) &&& 31)) else (((hI h 2 a0 1) + (1 : Int32)) - (Int32.ofNat (hL h 13 a9))))))] [] (setI h 2 a0 2 ((hI h 2 a0 2) + (1 : Int32))) _
          refine tr_aload_n (pc := 31) 0 k_al_grow2_31 rfl rfl ?_
          refine tr_aload_n (pc := 32) 0 k_al_grow2_32 rfl rfl ?_
          refine tr_getP (pc := 33) k_al_grow2_33 fl_al_9 rfl (Eq.trans (hP_setI) e0) ?_
          refine tr_iload_n (pc := 36) 3 k_al_grow2_36 rfl rfl ?_
          refine tr_callS (pc := 37) (d' := d + 2) (mc' := 1) (ms' := 74) [vr 13 a9, vi ((Int32.ofNat (hL h 13 a9)) + (if (((hI h 2 a0 1) + (1 : Int32)) - (Int32.ofNat (hL h 13 a9))) < ((Int32.ofNat (hL h 13 a9)) >>> ((1 : Int32) &&& 31)) then ((Int32.ofNat (hL h 13 a9)) >>> ((1 : Int32) &&& 31)) else (((hI h 2 a0 1) + (1 : Int32)) - (Int32.ofNat (hL h 13 a9)))))] k_al_grow2_37 ca_ar_copyOf ml_al_66 is_ar_copyOf pa_ar_copyOf (by omega) (by omega) (by omega) rfl (Nat.le_of_ble_eq_true rfl) (Nat.le_of_ble_eq_true rfl) (Qk := fun v h9 => mT g me_al_grow2 (d + 3) 0 0 40 [some (vr 2 a0), some (vi ((hI h 2 a0 1) + (1 : Int32))), some (vi (Int32.ofNat (hL h 13 a9))), some (vi ((Int32.ofNat (hL h 13 a9)) + (if (((hI h 2 a0 1) + (1 : Int32)) - (Int32.ofNat (hL h 13 a9))) < ((Int32.ofNat (hL h 13 a9)) >>> ((1 : Int32) &&& 31)) then ((Int32.ofNat (hL h 13 a9)) >>> ((1 : Int32) &&& 31)) else (((hI h 2 a0 1) + (1 : Int32)) - (Int32.ofNat (hL h 13 a9))))))] (v.toList ++ [vr 2 a0]) h9 _) ?_ (fun _ _ z => z)
          show mT g me_ar_copyOf (d + 2) 1 74 0 [some (vr 13 a9), some (vi ((Int32.ofNat (hL h 13 a9)) + (if (((hI h 2 a0 1) + (1 : Int32)) - (Int32.ofNat (hL h 13 a9))) < ((Int32.ofNat (hL h 13 a9)) >>> ((1 : Int32) &&& 31)) then ((Int32.ofNat (hL h 13 a9)) >>> ((1 : Int32) &&& 31)) else (((hI h 2 a0 1) + (1 : Int32)) - (Int32.ofNat (hL h 13 a9))))))] [] (setI h 2 a0 2 ((hI h 2 a0 2) + (1 : Int32))) _
          refine tr_aload_n (pc := 0) 0 k_ar_copyOf_0 rfl rfl ?_
          refine tr_iload_n (pc := 1) 1 k_ar_copyOf_1 rfl rfl ?_
          refine tr_aload_n (pc := 2) 0 k_ar_copyOf_2 rfl rfl ?_
          refine tr_getC (pc := 3) k_ar_copyOf_3 ml_ar_86 (by omega) (Nat.le_of_ble_eq_true rfl) ?_
          refine tr_callS (pc := 6) (d' := d + 1) (mc' := 1) (ms' := 74) [vr 13 a9, vi ((Int32.ofNat (hL h 13 a9)) + (if (((hI h 2 a0 1) + (1 : Int32)) - (Int32.ofNat (hL h 13 a9))) < ((Int32.ofNat (hL h 13 a9)) >>> ((1 : Int32) &&& 31)) then ((Int32.ofNat (hL h 13 a9)) >>> ((1 : Int32) &&& 31)) else (((hI h 2 a0 1) + (1 : Int32)) - (Int32.ofNat (hL h 13 a9))))), vr 16 0] k_ar_copyOf_6 ca_ar_copyOf2 ml_ar_300 is_ar_copyOf2 pa_ar_copyOf2 (by omega) (by omega) (by omega) rfl (Nat.le_of_ble_eq_true rfl) (Nat.le_of_ble_eq_true rfl) (Qk := fun v h9 => mT g me_ar_copyOf (d + 2) 0 0 9 [some (vr 13 a9), some (vi ((Int32.ofNat (hL h 13 a9)) + (if (((hI h 2 a0 1) + (1 : Int32)) - (Int32.ofNat (hL h 13 a9))) < ((Int32.ofNat (hL h 13 a9)) >>> ((1 : Int32) &&& 31)) then ((Int32.ofNat (hL h 13 a9)) >>> ((1 : Int32) &&& 31)) else (((hI h 2 a0 1) + (1 : Int32)) - (Int32.ofNat (hL h 13 a9))))))] (v.toList ++ []) h9 _) ?_ (fun _ _ z => z)
          show mT g me_ar_copyOf2 (d + 1) 1 74 0 [some (vr 13 a9), some (vi ((Int32.ofNat (hL h 13 a9)) + (if (((hI h 2 a0 1) + (1 : Int32)) - (Int32.ofNat (hL h 13 a9))) < ((Int32.ofNat (hL h 13 a9)) >>> ((1 : Int32) &&& 31)) then ((Int32.ofNat (hL h 13 a9)) >>> ((1 : Int32) &&& 31)) else (((hI h 2 a0 1) + (1 : Int32)) - (Int32.ofNat (hL h 13 a9)))))), some (vr 16 0), none] [] (setI h 2 a0 2 ((hI h 2 a0 2) + (1 : Int32))) _
          refine tr_aload_n (pc := 0) 2 k_ar_copyOf2_0 rfl rfl ?_
          refine tr_ldcC (pc := 1) k_ar_copyOf2_1 cl_ar_110 ?_
          refine tr_acmp_ne (pc := 3) (r := some (16, 0)) (r' := some (16, 0)) 13 k_ar_copyOf2_3 (by decide) (fun a b e1 e2 => by cases e1; cases e2; exact (Or.inr (Or.inr (Or.inr ⟨rfl, by decide⟩)))) (fun q => absurd rfl q) (fun _ => ?_)
          refine tr_iload_n (pc := 6) 1 k_ar_copyOf2_6 rfl rfl ?_
          refine tr_newQx (pc := 7) k_ar_copyOf2_7 hv.1 hv.2.1 cl_ar_2 ?_
          replace hv := hv.2.2
          show mT g me_ar_copyOf2 (d + 1) 0 0 10 [some (vr 13 a9), some (vi ((Int32.ofNat (hL h 13 a9)) + (if (((hI h 2 a0 1) + (1 : Int32)) - (Int32.ofNat (hL h 13 a9))) < ((Int32.ofNat (hL h 13 a9)) >>> ((1 : Int32) &&& 31)) then ((Int32.ofNat (hL h 13 a9)) >>> ((1 : Int32) &&& 31)) else (((hI h 2 a0 1) + (1 : Int32)) - (Int32.ofNat (hL h 13 a9)))))), some (vr 16 0), none] [vr 13 (hC h 13)] (newC (setI h 2 a0 2 ((hI h 2 a0 2) + (1 : Int32))) 13 (((Int32.ofNat (hL h 13 a9)) + (if (((hI h 2 a0 1) + (1 : Int32)) - (Int32.ofNat (hL h 13 a9))) < ((Int32.ofNat (hL h 13 a9)) >>> ((1 : Int32) &&& 31)) then ((Int32.ofNat (hL h 13 a9)) >>> ((1 : Int32) &&& 31)) else (((hI h 2 a0 1) + (1 : Int32)) - (Int32.ofNat (hL h 13 a9))))).toNatClampNeg)) _
          refine tr_goto (pc := 10) 24 k_ar_copyOf2_10 (by decide) ?_
          refine tr_astore_n (pc := 24) 3 k_ar_copyOf2_24 rfl (by decide) rfl ?_
          show mT g me_ar_copyOf2 (d + 1) 0 0 25 [some (vr 13 a9), some (vi ((Int32.ofNat (hL h 13 a9)) + (if (((hI h 2 a0 1) + (1 : Int32)) - (Int32.ofNat (hL h 13 a9))) < ((Int32.ofNat (hL h 13 a9)) >>> ((1 : Int32) &&& 31)) then ((Int32.ofNat (hL h 13 a9)) >>> ((1 : Int32) &&& 31)) else (((hI h 2 a0 1) + (1 : Int32)) - (Int32.ofNat (hL h 13 a9)))))), some (vr 16 0), some (vr 13 (hC h 13))] [] (newC (setI h 2 a0 2 ((hI h 2 a0 2) + (1 : Int32))) 13 (((Int32.ofNat (hL h 13 a9)) + (if (((hI h 2 a0 1) + (1 : Int32)) - (Int32.ofNat (hL h 13 a9))) < ((Int32.ofNat (hL h 13 a9)) >>> ((1 : Int32) &&& 31)) then ((Int32.ofNat (hL h 13 a9)) >>> ((1 : Int32) &&& 31)) else (((hI h 2 a0 1) + (1 : Int32)) - (Int32.ofNat (hL h 13 a9))))).toNatClampNeg)) _
          refine tr_aload_n (pc := 25) 0 k_ar_copyOf2_25 rfl rfl ?_
          refine tr_iconst (pc := 26) (v := 0) k_ar_copyOf2_26 (by decide) ?_
          refine tr_aload_n (pc := 27) 3 k_ar_copyOf2_27 rfl rfl ?_
          refine tr_iconst (pc := 28) (v := 0) k_ar_copyOf2_28 (by decide) ?_
          refine tr_aload_n (pc := 29) 0 k_ar_copyOf2_29 rfl rfl ?_
          refine tr_alen (pc := 30) (v := (Int32.ofNat (hL h 13 a9))) (by decide) k_ar_copyOf2_30 (congrArg Int32.ofNat (newC_L (fun z => hne z.2))) ?_
          refine tr_iload_n (pc := 31) 1 k_ar_copyOf2_31 rfl rfl ?_
          refine tr_min (pc := 32) k_ar_copyOf2_32 ml_ar_304 (by omega) (Nat.le_of_ble_eq_true rfl) ?_
          refine tr_copy (pc := 35) (w := (if ((Int32.ofNat (hL h 13 a9)) + (if (((hI h 2 a0 1) + (1 : Int32)) - (Int32.ofNat (hL h 13 a9))) < ((Int32.ofNat (hL h 13 a9)) >>> ((1 : Int32) &&& 31)) then ((Int32.ofNat (hL h 13 a9)) >>> ((1 : Int32) &&& 31)) else (((hI h 2 a0 1) + (1 : Int32)) - (Int32.ofNat (hL h 13 a9))))) < (Int32.ofNat (hL h 13 a9)) then ((Int32.ofNat (hL h 13 a9)) + (if (((hI h 2 a0 1) + (1 : Int32)) - (Int32.ofNat (hL h 13 a9))) < ((Int32.ofNat (hL h 13 a9)) >>> ((1 : Int32) &&& 31)) then ((Int32.ofNat (hL h 13 a9)) >>> ((1 : Int32) &&& 31)) else (((hI h 2 a0 1) + (1 : Int32)) - (Int32.ofNat (hL h 13 a9))))) else (Int32.ofNat (hL h 13 a9))).toNatClampNeg) k_ar_copyOf2_35 ml_ar_150 (by omega) (Nat.le_of_ble_eq_true rfl) hv.1 rfl hv.2.1 hv.2.2.1 hv.2.2.2.1 ?_
          replace hv := hv.2.2.2.2
          refine tr_aload_n (pc := 38) 3 k_ar_copyOf2_38 rfl rfl ?_
          refine tr_areturn (pc := 39) k_ar_copyOf2_39 rfl rfl ?_
          show mT g me_ar_copyOf (d + 2) 0 0 9 [some (vr 13 a9), some (vi ((Int32.ofNat (hL h 13 a9)) + (if (((hI h 2 a0 1) + (1 : Int32)) - (Int32.ofNat (hL h 13 a9))) < ((Int32.ofNat (hL h 13 a9)) >>> ((1 : Int32) &&& 31)) then ((Int32.ofNat (hL h 13 a9)) >>> ((1 : Int32) &&& 31)) else (((hI h 2 a0 1) + (1 : Int32)) - (Int32.ofNat (hL h 13 a9))))))] [vr 13 (hC h 13)] (cpyP (newC (setI h 2 a0 2 ((hI h 2 a0 2) + (1 : Int32))) 13 (((Int32.ofNat (hL h 13 a9)) + (if (((hI h 2 a0 1) + (1 : Int32)) - (Int32.ofNat (hL h 13 a9))) < ((Int32.ofNat (hL h 13 a9)) >>> ((1 : Int32) &&& 31)) then ((Int32.ofNat (hL h 13 a9)) >>> ((1 : Int32) &&& 31)) else (((hI h 2 a0 1) + (1 : Int32)) - (Int32.ofNat (hL h 13 a9))))).toNatClampNeg)) a9 (hC h 13) ((if ((Int32.ofNat (hL h 13 a9)) + (if (((hI h 2 a0 1) + (1 : Int32)) - (Int32.ofNat (hL h 13 a9))) < ((Int32.ofNat (hL h 13 a9)) >>> ((1 : Int32) &&& 31)) then ((Int32.ofNat (hL h 13 a9)) >>> ((1 : Int32) &&& 31)) else (((hI h 2 a0 1) + (1 : Int32)) - (Int32.ofNat (hL h 13 a9))))) < (Int32.ofNat (hL h 13 a9)) then ((Int32.ofNat (hL h 13 a9)) + (if (((hI h 2 a0 1) + (1 : Int32)) - (Int32.ofNat (hL h 13 a9))) < ((Int32.ofNat (hL h 13 a9)) >>> ((1 : Int32) &&& 31)) then ((Int32.ofNat (hL h 13 a9)) >>> ((1 : Int32) &&& 31)) else (((hI h 2 a0 1) + (1 : Int32)) - (Int32.ofNat (hL h 13 a9))))) else (Int32.ofNat (hL h 13 a9))).toNatClampNeg)) _
          refine tr_areturn (pc := 9) k_ar_copyOf_9 rfl rfl ?_
          show mT g me_al_grow2 (d + 3) 0 0 40 [some (vr 2 a0), some (vi ((hI h 2 a0 1) + (1 : Int32))), some (vi (Int32.ofNat (hL h 13 a9))), some (vi ((Int32.ofNat (hL h 13 a9)) + (if (((hI h 2 a0 1) + (1 : Int32)) - (Int32.ofNat (hL h 13 a9))) < ((Int32.ofNat (hL h 13 a9)) >>> ((1 : Int32) &&& 31)) then ((Int32.ofNat (hL h 13 a9)) >>> ((1 : Int32) &&& 31)) else (((hI h 2 a0 1) + (1 : Int32)) - (Int32.ofNat (hL h 13 a9))))))] [vr 13 (hC h 13), vr 2 a0] (cpyP (newC (setI h 2 a0 2 ((hI h 2 a0 2) + (1 : Int32))) 13 (((Int32.ofNat (hL h 13 a9)) + (if (((hI h 2 a0 1) + (1 : Int32)) - (Int32.ofNat (hL h 13 a9))) < ((Int32.ofNat (hL h 13 a9)) >>> ((1 : Int32) &&& 31)) then ((Int32.ofNat (hL h 13 a9)) >>> ((1 : Int32) &&& 31)) else (((hI h 2 a0 1) + (1 : Int32)) - (Int32.ofNat (hL h 13 a9))))).toNatClampNeg)) a9 (hC h 13) ((if ((Int32.ofNat (hL h 13 a9)) + (if (((hI h 2 a0 1) + (1 : Int32)) - (Int32.ofNat (hL h 13 a9))) < ((Int32.ofNat (hL h 13 a9)) >>> ((1 : Int32) &&& 31)) then ((Int32.ofNat (hL h 13 a9)) >>> ((1 : Int32) &&& 31)) else (((hI h 2 a0 1) + (1 : Int32)) - (Int32.ofNat (hL h 13 a9))))) < (Int32.ofNat (hL h 13 a9)) then ((Int32.ofNat (hL h 13 a9)) + (if (((hI h 2 a0 1) + (1 : Int32)) - (Int32.ofNat (hL h 13 a9))) < ((Int32.ofNat (hL h 13 a9)) >>> ((1 : Int32) &&& 31)) then ((Int32.ofNat (hL h 13 a9)) >>> ((1 : Int32) &&& 31)) else (((hI h 2 a0 1) + (1 : Int32)) - (Int32.ofNat (hL h 13 a9))))) else (Int32.ofNat (hL h 13 a9))).toNatClampNeg)) _
          refine tr_dup_x1 (pc := 40) k_al_grow2_40 rfl rfl ?_
          refine tr_putP (pc := 41) k_al_grow2_41 fl_al_9 (Or.inl rfl) rfl ?_
          refine tr_areturn (pc := 44) k_al_grow2_44 rfl rfl ?_
          show mT g me_al_grow (d + 4) 0 0 10 [some (vr 2 a0)] [vr 13 (hC h 13)] (setP (cpyP (newC (setI h 2 a0 2 ((hI h 2 a0 2) + (1 : Int32))) 13 (((Int32.ofNat (hL h 13 a9)) + (if (((hI h 2 a0 1) + (1 : Int32)) - (Int32.ofNat (hL h 13 a9))) < ((Int32.ofNat (hL h 13 a9)) >>> ((1 : Int32) &&& 31)) then ((Int32.ofNat (hL h 13 a9)) >>> ((1 : Int32) &&& 31)) else (((hI h 2 a0 1) + (1 : Int32)) - (Int32.ofNat (hL h 13 a9))))).toNatClampNeg)) a9 (hC h 13) ((if ((Int32.ofNat (hL h 13 a9)) + (if (((hI h 2 a0 1) + (1 : Int32)) - (Int32.ofNat (hL h 13 a9))) < ((Int32.ofNat (hL h 13 a9)) >>> ((1 : Int32) &&& 31)) then ((Int32.ofNat (hL h 13 a9)) >>> ((1 : Int32) &&& 31)) else (((hI h 2 a0 1) + (1 : Int32)) - (Int32.ofNat (hL h 13 a9))))) < (Int32.ofNat (hL h 13 a9)) then ((Int32.ofNat (hL h 13 a9)) + (if (((hI h 2 a0 1) + (1 : Int32)) - (Int32.ofNat (hL h 13 a9))) < ((Int32.ofNat (hL h 13 a9)) >>> ((1 : Int32) &&& 31)) then ((Int32.ofNat (hL h 13 a9)) >>> ((1 : Int32) &&& 31)) else (((hI h 2 a0 1) + (1 : Int32)) - (Int32.ofNat (hL h 13 a9))))) else (Int32.ofNat (hL h 13 a9))).toNatClampNeg)) 2 a0 0 (some (13, (hC h 13)))) _
          refine tr_areturn (pc := 10) k_al_grow_10 rfl rfl ?_
          show mT g me_al_add2 (d + 5) 0 0 10 [some (vr 2 a0), some (vr kx a1), some (vr 13 a9), some (vi (hI h 2 a0 1))] [vr 13 (hC h 13)] (setP (cpyP (newC (setI h 2 a0 2 ((hI h 2 a0 2) + (1 : Int32))) 13 (((Int32.ofNat (hL h 13 a9)) + (if (((hI h 2 a0 1) + (1 : Int32)) - (Int32.ofNat (hL h 13 a9))) < ((Int32.ofNat (hL h 13 a9)) >>> ((1 : Int32) &&& 31)) then ((Int32.ofNat (hL h 13 a9)) >>> ((1 : Int32) &&& 31)) else (((hI h 2 a0 1) + (1 : Int32)) - (Int32.ofNat (hL h 13 a9))))).toNatClampNeg)) a9 (hC h 13) ((if ((Int32.ofNat (hL h 13 a9)) + (if (((hI h 2 a0 1) + (1 : Int32)) - (Int32.ofNat (hL h 13 a9))) < ((Int32.ofNat (hL h 13 a9)) >>> ((1 : Int32) &&& 31)) then ((Int32.ofNat (hL h 13 a9)) >>> ((1 : Int32) &&& 31)) else (((hI h 2 a0 1) + (1 : Int32)) - (Int32.ofNat (hL h 13 a9))))) < (Int32.ofNat (hL h 13 a9)) then ((Int32.ofNat (hL h 13 a9)) + (if (((hI h 2 a0 1) + (1 : Int32)) - (Int32.ofNat (hL h 13 a9))) < ((Int32.ofNat (hL h 13 a9)) >>> ((1 : Int32) &&& 31)) then ((Int32.ofNat (hL h 13 a9)) >>> ((1 : Int32) &&& 31)) else (((hI h 2 a0 1) + (1 : Int32)) - (Int32.ofNat (hL h 13 a9))))) else (Int32.ofNat (hL h 13 a9))).toNatClampNeg)) 2 a0 0 (some (13, (hC h 13)))) _
          refine tr_astore_n (pc := 10) 2 k_al_add2_10 rfl (by decide) rfl ?_
          show mT g me_al_add2 (d + 5) 0 0 11 [some (vr 2 a0), some (vr kx a1), some (vr 13 (hC h 13)), some (vi (hI h 2 a0 1))] [] (setP (cpyP (newC (setI h 2 a0 2 ((hI h 2 a0 2) + (1 : Int32))) 13 (((Int32.ofNat (hL h 13 a9)) + (if (((hI h 2 a0 1) + (1 : Int32)) - (Int32.ofNat (hL h 13 a9))) < ((Int32.ofNat (hL h 13 a9)) >>> ((1 : Int32) &&& 31)) then ((Int32.ofNat (hL h 13 a9)) >>> ((1 : Int32) &&& 31)) else (((hI h 2 a0 1) + (1 : Int32)) - (Int32.ofNat (hL h 13 a9))))).toNatClampNeg)) a9 (hC h 13) ((if ((Int32.ofNat (hL h 13 a9)) + (if (((hI h 2 a0 1) + (1 : Int32)) - (Int32.ofNat (hL h 13 a9))) < ((Int32.ofNat (hL h 13 a9)) >>> ((1 : Int32) &&& 31)) then ((Int32.ofNat (hL h 13 a9)) >>> ((1 : Int32) &&& 31)) else (((hI h 2 a0 1) + (1 : Int32)) - (Int32.ofNat (hL h 13 a9))))) < (Int32.ofNat (hL h 13 a9)) then ((Int32.ofNat (hL h 13 a9)) + (if (((hI h 2 a0 1) + (1 : Int32)) - (Int32.ofNat (hL h 13 a9))) < ((Int32.ofNat (hL h 13 a9)) >>> ((1 : Int32) &&& 31)) then ((Int32.ofNat (hL h 13 a9)) >>> ((1 : Int32) &&& 31)) else (((hI h 2 a0 1) + (1 : Int32)) - (Int32.ofNat (hL h 13 a9))))) else (Int32.ofNat (hL h 13 a9))).toNatClampNeg)) 2 a0 0 (some (13, (hC h 13)))) _
          refine tr_aload_n (pc := 11) 2 k_al_add2_11 rfl rfl ?_
          refine tr_iload_n (pc := 12) 3 k_al_add2_12 rfl rfl ?_
          refine tr_aload_n (pc := 13) 1 k_al_add2_13 rfl rfl ?_
          refine tr_aast (pc := 14) k_al_add2_14 hv.1 hkx ?_
          replace hv := hv.2
          refine tr_aload_n (pc := 15) 0 k_al_add2_15 rfl rfl ?_
          refine tr_iload_n (pc := 16) 3 k_al_add2_16 rfl rfl ?_
          refine tr_iconst (pc := 17) (v := 1) k_al_add2_17 (by decide) ?_
          refine tr_iadd (pc := 18) k_al_add2_18 ?_
          refine tr_putI (pc := 19) k_al_add2_19 fl_al_48 (Or.inl rfl) rfl ⟨rfl, rfl⟩ ?_
          refine tr_return (pc := 22) k_al_add2_22 rfl ?_
          show mT g me_al_add (d + 6) 0 0 23 [some (vr 2 a0), some (vr kx a1)] [] (setI (setP (setP (cpyP (newC (setI h 2 a0 2 ((hI h 2 a0 2) + (1 : Int32))) 13 (((Int32.ofNat (hL h 13 a9)) + (if (((hI h 2 a0 1) + (1 : Int32)) - (Int32.ofNat (hL h 13 a9))) < ((Int32.ofNat (hL h 13 a9)) >>> ((1 : Int32) &&& 31)) then ((Int32.ofNat (hL h 13 a9)) >>> ((1 : Int32) &&& 31)) else (((hI h 2 a0 1) + (1 : Int32)) - (Int32.ofNat (hL h 13 a9))))).toNatClampNeg)) a9 (hC h 13) ((if ((Int32.ofNat (hL h 13 a9)) + (if (((hI h 2 a0 1) + (1 : Int32)) - (Int32.ofNat (hL h 13 a9))) < ((Int32.ofNat (hL h 13 a9)) >>> ((1 : Int32) &&& 31)) then ((Int32.ofNat (hL h 13 a9)) >>> ((1 : Int32) &&& 31)) else (((hI h 2 a0 1) + (1 : Int32)) - (Int32.ofNat (hL h 13 a9))))) < (Int32.ofNat (hL h 13 a9)) then ((Int32.ofNat (hL h 13 a9)) + (if (((hI h 2 a0 1) + (1 : Int32)) - (Int32.ofNat (hL h 13 a9))) < ((Int32.ofNat (hL h 13 a9)) >>> ((1 : Int32) &&& 31)) then ((Int32.ofNat (hL h 13 a9)) >>> ((1 : Int32) &&& 31)) else (((hI h 2 a0 1) + (1 : Int32)) - (Int32.ofNat (hL h 13 a9))))) else (Int32.ofNat (hL h 13 a9))).toNatClampNeg)) 2 a0 0 (some (13, (hC h 13)))) 13 (hC h 13) ((hI h 2 a0 1).toNatClampNeg) (some (kx, a1))) 2 a0 1 ((hI h 2 a0 1) + (1 : Int32))) _
          refine tr_iconst (pc := 23) (v := 1) k_al_add_23 (by decide) ?_
          refine tr_ireturn (pc := 24) k_al_add_24 rfl rfl ?_
          exact hv
    · replace hv := hv.2 q
      refine tr_aload_n (pc := 10) 0 k_al_grow2_10 rfl rfl ?_
      refine tr_getP (pc := 11) k_al_grow2_11 fl_al_9 rfl (Eq.trans (hP_setI) e0) ?_
      refine tr_gets (pc := 14) k_al_grow2_14 fs_al_39 ?_
      refine tr_acmp_eq (pc := 17) (r := some (13, a9)) (r' := some (15, 0)) 45 k_al_grow2_17 (by decide) (fun a b e1 e2 => by cases e1; cases e2; exact (Or.inr (Or.inl ⟨(by show (13 : Nat) < 14; decide), rfl⟩))) (fun q => absurd q (by intro z; cases z)) (fun _ => ?_)
      refine tr_iload_n (pc := 20) 2 k_al_grow2_20 rfl rfl ?_
      refine tr_iload_n (pc := 21) 1 k_al_grow2_21 rfl rfl ?_
      refine tr_iload_n (pc := 22) 2 k_al_grow2_22 rfl rfl ?_
      refine tr_isub (pc := 23) k_al_grow2_23 ?_
      refine tr_iload_n (pc := 24) 2 k_al_grow2_24 rfl rfl ?_
      refine tr_iconst (pc := 25) (v := 1) k_al_grow2_25 (by decide) ?_
      refine tr_ishr (pc := 26) k_al_grow2_26 ?_
      refine tr_callS (pc := 27) (d' := d + 2) (mc' := 0) (ms' := 0) [vi (Int32.ofNat (hL h 13 a9)), vi (((hI h 2 a0 1) + (1 : Int32)) - (Int32.ofNat (hL h 13 a9))), vi ((Int32.ofNat (hL h 13 a9)) >>> ((1 : Int32) &&& 31))] k_al_grow2_27 ca_as_newLength ml_al_73 is_as_newLength pa_as_newLength (by omega) (by omega) (by omega) rfl (Nat.le_of_ble_eq_true rfl) (Nat.le_of_ble_eq_true rfl) (Qk := fun v h9 => mT g me_al_grow2 (d + 3) 1 74 30 [some (vr 2 a0), some (vi ((hI h 2 a0 1) + (1 : Int32))), some (vi (Int32.ofNat (hL h 13 a9))), none] (v.toList ++ []) h9 _) ?_ (fun _ _ z => z)
      show mT g me_as_newLength (d + 2) 0 0 0 [some (vi (Int32.ofNat (hL h 13 a9))), some (vi (((hI h 2 a0 1) + (1 : Int32)) - (Int32.ofNat (hL h 13 a9)))), some (vi ((Int32.ofNat (hL h 13 a9)) >>> ((1 : Int32) &&& 31))), none] [] (setI h 2 a0 2 ((hI h 2 a0 2) + (1 : Int32))) _
      refine tr_iload_n (pc := 0) 0 k_as_newLength_0 rfl rfl ?_
      refine tr_iload_n (pc := 1) 1 k_as_newLength_1 rfl rfl ?_
      refine tr_iload_n (pc := 2) 2 k_as_newLength_2 rfl rfl ?_
      refine tr_max (pc := 3) k_as_newLength_3 ml_as_194 (by omega) (Nat.le_of_ble_eq_true rfl) ?_
      refine tr_iadd (pc := 6) k_as_newLength_6 ?_
      refine tr_istore_n (pc := 7) 3 k_as_newLength_7 rfl (by decide) rfl ?_
      show mT g me_as_newLength (d + 2) 0 0 8 [some (vi (Int32.ofNat (hL h 13 a9))), some (vi (((hI h 2 a0 1) + (1 : Int32)) - (Int32.ofNat (hL h 13 a9)))), some (vi ((Int32.ofNat (hL h 13 a9)) >>> ((1 : Int32) &&& 31))), some (vi ((Int32.ofNat (hL h 13 a9)) + (if (((hI h 2 a0 1) + (1 : Int32)) - (Int32.ofNat (hL h 13 a9))) < ((Int32.ofNat (hL h 13 a9)) >>> ((1 : Int32) &&& 31)) then ((Int32.ofNat (hL h 13 a9)) >>> ((1 : Int32) &&& 31)) else (((hI h 2 a0 1) + (1 : Int32)) - (Int32.ofNat (hL h 13 a9))))))] [] (setI h 2 a0 2 ((hI h 2 a0 2) + (1 : Int32))) _
      refine tr_iconst (pc := 8) (v := 0) k_as_newLength_8 (by decide) ?_
      refine tr_iload_n (pc := 9) 3 k_as_newLength_9 rfl rfl ?_
      refine tr_icmp_ge (pc := 10) 21 k_as_newLength_10 (by decide) (fun q => ?_) (fun q => ?_)
      · replace hv := hv.1 q
        refine tr_iload_n (pc := 21) 0 k_as_newLength_21 rfl rfl ?_
        refine tr_iload_n (pc := 22) 1 k_as_newLength_22 rfl rfl ?_
        exact hv.elim
      · replace hv := hv.2 q
        refine tr_iload_n (pc := 13) 3 k_as_newLength_13 rfl rfl ?_
        refine tr_ldc (pc := 14) (v := 2147483639) k_as_newLength_14 co_as_200 ?_
        refine tr_icmp_gt (pc := 16) 21 k_as_newLength_16 (by decide) (fun q => ?_) (fun q => ?_)
        · replace hv := hv.1 q
          refine tr_iload_n (pc := 21) 0 k_as_newLength_21 rfl rfl ?_
          refine tr_iload_n (pc := 22) 1 k_as_newLength_22 rfl rfl ?_
          exact hv.elim
        · replace hv := hv.2 q
          refine tr_iload_n (pc := 19) 3 k_as_newLength_19 rfl rfl ?_
          refine tr_ireturn (pc := 20) k_as_newLength_20 rfl rfl ?_
          show mT g me_al_grow2 (d + 3) 1 74 30 [some (vr 2 a0), some (vi ((hI h 2 a0 1) + (1 : Int32))), some (vi (Int32.ofNat (hL h 13 a9))), none] [vi ((Int32.ofNat (hL h 13 a9)) + (if (((hI h 2 a0 1) + (1 : Int32)) - (Int32.ofNat (hL h 13 a9))) < ((Int32.ofNat (hL h 13 a9)) >>> ((1 : Int32) &&& 31)) then ((Int32.ofNat (hL h 13 a9)) >>> ((1 : Int32) &&& 31)) else (((hI h 2 a0 1) + (1 : Int32)) - (Int32.ofNat (hL h 13 a9)))))] (setI h 2 a0 2 ((hI h 2 a0 2) + (1 : Int32))) _
          refine tr_istore_n (pc := 30) 3 k_al_grow2_30 rfl (by decide) rfl ?_
          show mT g me_al_grow2 (d + 3) 1 74 31 [some (vr 2 a0), some (vi ((hI h 2 a0 1) + (1 : Int32))), some (vi (Int32.ofNat (hL h 13 a9))), some (vi ((Int32.ofNat (hL h 13 a9)) + (if (((hI h 2 a0 1) + (1 : Int32)) - (Int32.ofNat (hL h 13 a9))) < ((Int32.ofNat (hL h 13 a9)) >>> ((1 : Int32) &&& 31)) then ((Int32.ofNat (hL h 13 a9)) >>> ((1 : Int32) &&& 31)) else (((hI h 2 a0 1) + (1 : Int32)) - (Int32.ofNat (hL h 13 a9))))))] [] (setI h 2 a0 2 ((hI h 2 a0 2) + (1 : Int32))) _
          refine tr_aload_n (pc := 31) 0 k_al_grow2_31 rfl rfl ?_
          refine tr_aload_n (pc := 32) 0 k_al_grow2_32 rfl rfl ?_
          refine tr_getP (pc := 33) k_al_grow2_33 fl_al_9 rfl (Eq.trans (hP_setI) e0) ?_
          refine tr_iload_n (pc := 36) 3 k_al_grow2_36 rfl rfl ?_
          refine tr_callS (pc := 37) (d' := d + 2) (mc' := 1) (ms' := 74) [vr 13 a9, vi ((Int32.ofNat (hL h 13 a9)) + (if (((hI h 2 a0 1) + (1 : Int32)) - (Int32.ofNat (hL h 13 a9))) < ((Int32.ofNat (hL h 13 a9)) >>> ((1 : Int32) &&& 31)) then ((Int32.ofNat (hL h 13 a9)) >>> ((1 : Int32) &&& 31)) else (((hI h 2 a0 1) + (1 : Int32)) - (Int32.ofNat (hL h 13 a9)))))] k_al_grow2_37 ca_ar_copyOf ml_al_66 is_ar_copyOf pa_ar_copyOf (by omega) (by omega) (by omega) rfl (Nat.le_of_ble_eq_true rfl) (Nat.le_of_ble_eq_true rfl) (Qk := fun v h9 => mT g me_al_grow2 (d + 3) 0 0 40 [some (vr 2 a0), some (vi ((hI h 2 a0 1) + (1 : Int32))), some (vi (Int32.ofNat (hL h 13 a9))), some (vi ((Int32.ofNat (hL h 13 a9)) + (if (((hI h 2 a0 1) + (1 : Int32)) - (Int32.ofNat (hL h 13 a9))) < ((Int32.ofNat (hL h 13 a9)) >>> ((1 : Int32) &&& 31)) then ((Int32.ofNat (hL h 13 a9)) >>> ((1 : Int32) &&& 31)) else (((hI h 2 a0 1) + (1 : Int32)) - (Int32.ofNat (hL h 13 a9))))))] (v.toList ++ [vr 2 a0]) h9 _) ?_ (fun _ _ z => z)
          show mT g me_ar_copyOf (d + 2) 1 74 0 [some (vr 13 a9), some (vi ((Int32.ofNat (hL h 13 a9)) + (if (((hI h 2 a0 1) + (1 : Int32)) - (Int32.ofNat (hL h 13 a9))) < ((Int32.ofNat (hL h 13 a9)) >>> ((1 : Int32) &&& 31)) then ((Int32.ofNat (hL h 13 a9)) >>> ((1 : Int32) &&& 31)) else (((hI h 2 a0 1) + (1 : Int32)) - (Int32.ofNat (hL h 13 a9))))))] [] (setI h 2 a0 2 ((hI h 2 a0 2) + (1 : Int32))) _
          refine tr_aload_n (pc := 0) 0 k_ar_copyOf_0 rfl rfl ?_
          refine tr_iload_n (pc := 1) 1 k_ar_copyOf_1 rfl rfl ?_
          refine tr_aload_n (pc := 2) 0 k_ar_copyOf_2 rfl rfl ?_
          refine tr_getC (pc := 3) k_ar_copyOf_3 ml_ar_86 (by omega) (Nat.le_of_ble_eq_true rfl) ?_
          refine tr_callS (pc := 6) (d' := d + 1) (mc' := 1) (ms' := 74) [vr 13 a9, vi ((Int32.ofNat (hL h 13 a9)) + (if (((hI h 2 a0 1) + (1 : Int32)) - (Int32.ofNat (hL h 13 a9))) < ((Int32.ofNat (hL h 13 a9)) >>> ((1 : Int32) &&& 31)) then ((Int32.ofNat (hL h 13 a9)) >>> ((1 : Int32) &&& 31)) else (((hI h 2 a0 1) + (1 : Int32)) - (Int32.ofNat (hL h 13 a9))))), vr 16 0] k_ar_copyOf_6 ca_ar_copyOf2 ml_ar_300 is_ar_copyOf2 pa_ar_copyOf2 (by omega) (by omega) (by omega) rfl (Nat.le_of_ble_eq_true rfl) (Nat.le_of_ble_eq_true rfl) (Qk := fun v h9 => mT g me_ar_copyOf (d + 2) 0 0 9 [some (vr 13 a9), some (vi ((Int32.ofNat (hL h 13 a9)) + (if (((hI h 2 a0 1) + (1 : Int32)) - (Int32.ofNat (hL h 13 a9))) < ((Int32.ofNat (hL h 13 a9)) >>> ((1 : Int32) &&& 31)) then ((Int32.ofNat (hL h 13 a9)) >>> ((1 : Int32) &&& 31)) else (((hI h 2 a0 1) + (1 : Int32)) - (Int32.ofNat (hL h 13 a9))))))] (v.toList ++ []) h9 _) ?_ (fun _ _ z => z)
          show mT g me_ar_copyOf2 (d + 1) 1 74 0 [some (vr 13 a9), some (vi ((Int32.ofNat (hL h 13 a9)) + (if (((hI h 2 a0 1) + (1 : Int32)) - (Int32.ofNat (hL h 13 a9))) < ((Int32.ofNat (hL h 13 a9)) >>> ((1 : Int32) &&& 31)) then ((Int32.ofNat (hL h 13 a9)) >>> ((1 : Int32) &&& 31)) else (((hI h 2 a0 1) + (1 : Int32)) - (Int32.ofNat (hL h 13 a9)))))), some (vr 16 0), none] [] (setI h 2 a0 2 ((hI h 2 a0 2) + (1 : Int32))) _
          refine tr_aload_n (pc := 0) 2 k_ar_copyOf2_0 rfl rfl ?_
          refine tr_ldcC (pc := 1) k_ar_copyOf2_1 cl_ar_110 ?_
          refine tr_acmp_ne (pc := 3) (r := some (16, 0)) (r' := some (16, 0)) 13 k_ar_copyOf2_3 (by decide) (fun a b e1 e2 => by cases e1; cases e2; exact (Or.inr (Or.inr (Or.inr ⟨rfl, by decide⟩)))) (fun q => absurd rfl q) (fun _ => ?_)
          refine tr_iload_n (pc := 6) 1 k_ar_copyOf2_6 rfl rfl ?_
          refine tr_newQx (pc := 7) k_ar_copyOf2_7 hv.1 hv.2.1 cl_ar_2 ?_
          replace hv := hv.2.2
          show mT g me_ar_copyOf2 (d + 1) 0 0 10 [some (vr 13 a9), some (vi ((Int32.ofNat (hL h 13 a9)) + (if (((hI h 2 a0 1) + (1 : Int32)) - (Int32.ofNat (hL h 13 a9))) < ((Int32.ofNat (hL h 13 a9)) >>> ((1 : Int32) &&& 31)) then ((Int32.ofNat (hL h 13 a9)) >>> ((1 : Int32) &&& 31)) else (((hI h 2 a0 1) + (1 : Int32)) - (Int32.ofNat (hL h 13 a9)))))), some (vr 16 0), none] [vr 13 (hC h 13)] (newC (setI h 2 a0 2 ((hI h 2 a0 2) + (1 : Int32))) 13 (((Int32.ofNat (hL h 13 a9)) + (if (((hI h 2 a0 1) + (1 : Int32)) - (Int32.ofNat (hL h 13 a9))) < ((Int32.ofNat (hL h 13 a9)) >>> ((1 : Int32) &&& 31)) then ((Int32.ofNat (hL h 13 a9)) >>> ((1 : Int32) &&& 31)) else (((hI h 2 a0 1) + (1 : Int32)) - (Int32.ofNat (hL h 13 a9))))).toNatClampNeg)) _
          refine tr_goto (pc := 10) 24 k_ar_copyOf2_10 (by decide) ?_
          refine tr_astore_n (pc := 24) 3 k_ar_copyOf2_24 rfl (by decide) rfl ?_
          show mT g me_ar_copyOf2 (d + 1) 0 0 25 [some (vr 13 a9), some (vi ((Int32.ofNat (hL h 13 a9)) + (if (((hI h 2 a0 1) + (1 : Int32)) - (Int32.ofNat (hL h 13 a9))) < ((Int32.ofNat (hL h 13 a9)) >>> ((1 : Int32) &&& 31)) then ((Int32.ofNat (hL h 13 a9)) >>> ((1 : Int32) &&& 31)) else (((hI h 2 a0 1) + (1 : Int32)) - (Int32.ofNat (hL h 13 a9)))))), some (vr 16 0), some (vr 13 (hC h 13))] [] (newC (setI h 2 a0 2 ((hI h 2 a0 2) + (1 : Int32))) 13 (((Int32.ofNat (hL h 13 a9)) + (if (((hI h 2 a0 1) + (1 : Int32)) - (Int32.ofNat (hL h 13 a9))) < ((Int32.ofNat (hL h 13 a9)) >>> ((1 : Int32) &&& 31)) then ((Int32.ofNat (hL h 13 a9)) >>> ((1 : Int32) &&& 31)) else (((hI h 2 a0 1) + (1 : Int32)) - (Int32.ofNat (hL h 13 a9))))).toNatClampNeg)) _
          refine tr_aload_n (pc := 25) 0 k_ar_copyOf2_25 rfl rfl ?_
          refine tr_iconst (pc := 26) (v := 0) k_ar_copyOf2_26 (by decide) ?_
          refine tr_aload_n (pc := 27) 3 k_ar_copyOf2_27 rfl rfl ?_
          refine tr_iconst (pc := 28) (v := 0) k_ar_copyOf2_28 (by decide) ?_
          refine tr_aload_n (pc := 29) 0 k_ar_copyOf2_29 rfl rfl ?_
          refine tr_alen (pc := 30) (v := (Int32.ofNat (hL h 13 a9))) (by decide) k_ar_copyOf2_30 (congrArg Int32.ofNat (newC_L (fun z => hne z.2))) ?_
          refine tr_iload_n (pc := 31) 1 k_ar_copyOf2_31 rfl rfl ?_
          refine tr_min (pc := 32) k_ar_copyOf2_32 ml_ar_304 (by omega) (Nat.le_of_ble_eq_true rfl) ?_
          refine tr_copy (pc := 35) (w := (if ((Int32.ofNat (hL h 13 a9)) + (if (((hI h 2 a0 1) + (1 : Int32)) - (Int32.ofNat (hL h 13 a9))) < ((Int32.ofNat (hL h 13 a9)) >>> ((1 : Int32) &&& 31)) then ((Int32.ofNat (hL h 13 a9)) >>> ((1 : Int32) &&& 31)) else (((hI h 2 a0 1) + (1 : Int32)) - (Int32.ofNat (hL h 13 a9))))) < (Int32.ofNat (hL h 13 a9)) then ((Int32.ofNat (hL h 13 a9)) + (if (((hI h 2 a0 1) + (1 : Int32)) - (Int32.ofNat (hL h 13 a9))) < ((Int32.ofNat (hL h 13 a9)) >>> ((1 : Int32) &&& 31)) then ((Int32.ofNat (hL h 13 a9)) >>> ((1 : Int32) &&& 31)) else (((hI h 2 a0 1) + (1 : Int32)) - (Int32.ofNat (hL h 13 a9))))) else (Int32.ofNat (hL h 13 a9))).toNatClampNeg) k_ar_copyOf2_35 ml_ar_150 (by omega) (Nat.le_of_ble_eq_true rfl) hv.1 rfl hv.2.1 hv.2.2.1 hv.2.2.2.1 ?_
          replace hv := hv.2.2.2.2
          refine tr_aload_n (pc := 38) 3 k_ar_copyOf2_38 rfl rfl ?_
          refine tr_areturn (pc := 39) k_ar_copyOf2_39 rfl rfl ?_
          show mT g me_ar_copyOf (d + 2) 0 0 9 [some (vr 13 a9), some (vi ((Int32.ofNat (hL h 13 a9)) + (if (((hI h 2 a0 1) + (1 : Int32)) - (Int32.ofNat (hL h 13 a9))) < ((Int32.ofNat (hL h 13 a9)) >>> ((1 : Int32) &&& 31)) then ((Int32.ofNat (hL h 13 a9)) >>> ((1 : Int32) &&& 31)) else (((hI h 2 a0 1) + (1 : Int32)) - (Int32.ofNat (hL h 13 a9))))))] [vr 13 (hC h 13)] (cpyP (newC (setI h 2 a0 2 ((hI h 2 a0 2) + (1 : Int32))) 13 (((Int32.ofNat (hL h 13 a9)) + (if (((hI h 2 a0 1) + (1 : Int32)) - (Int32.ofNat (hL h 13 a9))) < ((Int32.ofNat (hL h 13 a9)) >>> ((1 : Int32) &&& 31)) then ((Int32.ofNat (hL h 13 a9)) >>> ((1 : Int32) &&& 31)) else (((hI h 2 a0 1) + (1 : Int32)) - (Int32.ofNat (hL h 13 a9))))).toNatClampNeg)) a9 (hC h 13) ((if ((Int32.ofNat (hL h 13 a9)) + (if (((hI h 2 a0 1) + (1 : Int32)) - (Int32.ofNat (hL h 13 a9))) < ((Int32.ofNat (hL h 13 a9)) >>> ((1 : Int32) &&& 31)) then ((Int32.ofNat (hL h 13 a9)) >>> ((1 : Int32) &&& 31)) else (((hI h 2 a0 1) + (1 : Int32)) - (Int32.ofNat (hL h 13 a9))))) < (Int32.ofNat (hL h 13 a9)) then ((Int32.ofNat (hL h 13 a9)) + (if (((hI h 2 a0 1) + (1 : Int32)) - (Int32.ofNat (hL h 13 a9))) < ((Int32.ofNat (hL h 13 a9)) >>> ((1 : Int32) &&& 31)) then ((Int32.ofNat (hL h 13 a9)) >>> ((1 : Int32) &&& 31)) else (((hI h 2 a0 1) + (1 : Int32)) - (Int32.ofNat (hL h 13 a9))))) else (Int32.ofNat (hL h 13 a9))).toNatClampNeg)) _
          refine tr_areturn (pc := 9) k_ar_copyOf_9 rfl rfl ?_
          show mT g me_al_grow2 (d + 3) 0 0 40 [some (vr 2 a0), some (vi ((hI h 2 a0 1) + (1 : Int32))), some (vi (Int32.ofNat (hL h 13 a9))), some (vi ((Int32.ofNat (hL h 13 a9)) + (if (((hI h 2 a0 1) + (1 : Int32)) - (Int32.ofNat (hL h 13 a9))) < ((Int32.ofNat (hL h 13 a9)) >>> ((1 : Int32) &&& 31)) then ((Int32.ofNat (hL h 13 a9)) >>> ((1 : Int32) &&& 31)) else (((hI h 2 a0 1) + (1 : Int32)) - (Int32.ofNat (hL h 13 a9))))))] [vr 13 (hC h 13), vr 2 a0] (cpyP (newC (setI h 2 a0 2 ((hI h 2 a0 2) + (1 : Int32))) 13 (((Int32.ofNat (hL h 13 a9)) + (if (((hI h 2 a0 1) + (1 : Int32)) - (Int32.ofNat (hL h 13 a9))) < ((Int32.ofNat (hL h 13 a9)) >>> ((1 : Int32) &&& 31)) then ((Int32.ofNat (hL h 13 a9)) >>> ((1 : Int32) &&& 31)) else (((hI h 2 a0 1) + (1 : Int32)) - (Int32.ofNat (hL h 13 a9))))).toNatClampNeg)) a9 (hC h 13) ((if ((Int32.ofNat (hL h 13 a9)) + (if (((hI h 2 a0 1) + (1 : Int32)) - (Int32.ofNat (hL h 13 a9))) < ((Int32.ofNat (hL h 13 a9)) >>> ((1 : Int32) &&& 31)) then ((Int32.ofNat (hL h 13 a9)) >>> ((1 : Int32) &&& 31)) else (((hI h 2 a0 1) + (1 : Int32)) - (Int32.ofNat (hL h 13 a9))))) < (Int32.ofNat (hL h 13 a9)) then ((Int32.ofNat (hL h 13 a9)) + (if (((hI h 2 a0 1) + (1 : Int32)) - (Int32.ofNat (hL h 13 a9))) < ((Int32.ofNat (hL h 13 a9)) >>> ((1 : Int32) &&& 31)) then ((Int32.ofNat (hL h 13 a9)) >>> ((1 : Int32) &&& 31)) else (((hI h 2 a0 1) + (1 : Int32)) - (Int32.ofNat (hL h 13 a9))))) else (Int32.ofNat (hL h 13 a9))).toNatClampNeg)) _
          refine tr_dup_x1 (pc := 40) k_al_grow2_40 rfl rfl ?_
          refine tr_putP (pc := 41) k_al_grow2_41 fl_al_9 (Or.inl rfl) rfl ?_
          refine tr_areturn (pc := 44) k_al_grow2_44 rfl rfl ?_
          show mT g me_al_grow (d + 4) 0 0 10 [some (vr 2 a0)] [vr 13 (hC h 13)] (setP (cpyP (newC (setI h 2 a0 2 ((hI h 2 a0 2) + (1 : Int32))) 13 (((Int32.ofNat (hL h 13 a9)) + (if (((hI h 2 a0 1) + (1 : Int32)) - (Int32.ofNat (hL h 13 a9))) < ((Int32.ofNat (hL h 13 a9)) >>> ((1 : Int32) &&& 31)) then ((Int32.ofNat (hL h 13 a9)) >>> ((1 : Int32) &&& 31)) else (((hI h 2 a0 1) + (1 : Int32)) - (Int32.ofNat (hL h 13 a9))))).toNatClampNeg)) a9 (hC h 13) ((if ((Int32.ofNat (hL h 13 a9)) + (if (((hI h 2 a0 1) + (1 : Int32)) - (Int32.ofNat (hL h 13 a9))) < ((Int32.ofNat (hL h 13 a9)) >>> ((1 : Int32) &&& 31)) then ((Int32.ofNat (hL h 13 a9)) >>> ((1 : Int32) &&& 31)) else (((hI h 2 a0 1) + (1 : Int32)) - (Int32.ofNat (hL h 13 a9))))) < (Int32.ofNat (hL h 13 a9)) then ((Int32.ofNat (hL h 13 a9)) + (if (((hI h 2 a0 1) + (1 : Int32)) - (Int32.ofNat (hL h 13 a9))) < ((Int32.ofNat (hL h 13 a9)) >>> ((1 : Int32) &&& 31)) then ((Int32.ofNat (hL h 13 a9)) >>> ((1 : Int32) &&& 31)) else (((hI h 2 a0 1) + (1 : Int32)) - (Int32.ofNat (hL h 13 a9))))) else (Int32.ofNat (hL h 13 a9))).toNatClampNeg)) 2 a0 0 (some (13, (hC h 13)))) _
          refine tr_areturn (pc := 10) k_al_grow_10 rfl rfl ?_
          show mT g me_al_add2 (d + 5) 0 0 10 [some (vr 2 a0), some (vr kx a1), some (vr 13 a9), some (vi (hI h 2 a0 1))] [vr 13 (hC h 13)] (setP (cpyP (newC (setI h 2 a0 2 ((hI h 2 a0 2) + (1 : Int32))) 13 (((Int32.ofNat (hL h 13 a9)) + (if (((hI h 2 a0 1) + (1 : Int32)) - (Int32.ofNat (hL h 13 a9))) < ((Int32.ofNat (hL h 13 a9)) >>> ((1 : Int32) &&& 31)) then ((Int32.ofNat (hL h 13 a9)) >>> ((1 : Int32) &&& 31)) else (((hI h 2 a0 1) + (1 : Int32)) - (Int32.ofNat (hL h 13 a9))))).toNatClampNeg)) a9 (hC h 13) ((if ((Int32.ofNat (hL h 13 a9)) + (if (((hI h 2 a0 1) + (1 : Int32)) - (Int32.ofNat (hL h 13 a9))) < ((Int32.ofNat (hL h 13 a9)) >>> ((1 : Int32) &&& 31)) then ((Int32.ofNat (hL h 13 a9)) >>> ((1 : Int32) &&& 31)) else (((hI h 2 a0 1) + (1 : Int32)) - (Int32.ofNat (hL h 13 a9))))) < (Int32.ofNat (hL h 13 a9)) then ((Int32.ofNat (hL h 13 a9)) + (if (((hI h 2 a0 1) + (1 : Int32)) - (Int32.ofNat (hL h 13 a9))) < ((Int32.ofNat (hL h 13 a9)) >>> ((1 : Int32) &&& 31)) then ((Int32.ofNat (hL h 13 a9)) >>> ((1 : Int32) &&& 31)) else (((hI h 2 a0 1) + (1 : Int32)) - (Int32.ofNat (hL h 13 a9))))) else (Int32.ofNat (hL h 13 a9))).toNatClampNeg)) 2 a0 0 (some (13, (hC h 13)))) _
          refine tr_astore_n (pc := 10) 2 k_al_add2_10 rfl (by decide) rfl ?_
          show mT g me_al_add2 (d + 5) 0 0 11 [some (vr 2 a0), some (vr kx a1), some (vr 13 (hC h 13)), some (vi (hI h 2 a0 1))] [] (setP (cpyP (newC (setI h 2 a0 2 ((hI h 2 a0 2) + (1 : Int32))) 13 (((Int32.ofNat (hL h 13 a9)) + (if (((hI h 2 a0 1) + (1 : Int32)) - (Int32.ofNat (hL h 13 a9))) < ((Int32.ofNat (hL h 13 a9)) >>> ((1 : Int32) &&& 31)) then ((Int32.ofNat (hL h 13 a9)) >>> ((1 : Int32) &&& 31)) else (((hI h 2 a0 1) + (1 : Int32)) - (Int32.ofNat (hL h 13 a9))))).toNatClampNeg)) a9 (hC h 13) ((if ((Int32.ofNat (hL h 13 a9)) + (if (((hI h 2 a0 1) + (1 : Int32)) - (Int32.ofNat (hL h 13 a9))) < ((Int32.ofNat (hL h 13 a9)) >>> ((1 : Int32) &&& 31)) then ((Int32.ofNat (hL h 13 a9)) >>> ((1 : Int32) &&& 31)) else (((hI h 2 a0 1) + (1 : Int32)) - (Int32.ofNat (hL h 13 a9))))) < (Int32.ofNat (hL h 13 a9)) then ((Int32.ofNat (hL h 13 a9)) + (if (((hI h 2 a0 1) + (1 : Int32)) - (Int32.ofNat (hL h 13 a9))) < ((Int32.ofNat (hL h 13 a9)) >>> ((1 : Int32) &&& 31)) then ((Int32.ofNat (hL h 13 a9)) >>> ((1 : Int32) &&& 31)) else (((hI h 2 a0 1) + (1 : Int32)) - (Int32.ofNat (hL h 13 a9))))) else (Int32.ofNat (hL h 13 a9))).toNatClampNeg)) 2 a0 0 (some (13, (hC h 13)))) _
          refine tr_aload_n (pc := 11) 2 k_al_add2_11 rfl rfl ?_
          refine tr_iload_n (pc := 12) 3 k_al_add2_12 rfl rfl ?_
          refine tr_aload_n (pc := 13) 1 k_al_add2_13 rfl rfl ?_
          refine tr_aast (pc := 14) k_al_add2_14 hv.1 hkx ?_
          replace hv := hv.2
          refine tr_aload_n (pc := 15) 0 k_al_add2_15 rfl rfl ?_
          refine tr_iload_n (pc := 16) 3 k_al_add2_16 rfl rfl ?_
          refine tr_iconst (pc := 17) (v := 1) k_al_add2_17 (by decide) ?_
          refine tr_iadd (pc := 18) k_al_add2_18 ?_
          refine tr_putI (pc := 19) k_al_add2_19 fl_al_48 (Or.inl rfl) rfl ⟨rfl, rfl⟩ ?_
          refine tr_return (pc := 22) k_al_add2_22 rfl ?_
          show mT g me_al_add (d + 6) 0 0 23 [some (vr 2 a0), some (vr kx a1)] [] (setI (setP (setP (cpyP (newC (setI h 2 a0 2 ((hI h 2 a0 2) + (1 : Int32))) 13 (((Int32.ofNat (hL h 13 a9)) + (if (((hI h 2 a0 1) + (1 : Int32)) - (Int32.ofNat (hL h 13 a9))) < ((Int32.ofNat (hL h 13 a9)) >>> ((1 : Int32) &&& 31)) then ((Int32.ofNat (hL h 13 a9)) >>> ((1 : Int32) &&& 31)) else (((hI h 2 a0 1) + (1 : Int32)) - (Int32.ofNat (hL h 13 a9))))).toNatClampNeg)) a9 (hC h 13) ((if ((Int32.ofNat (hL h 13 a9)) + (if (((hI h 2 a0 1) + (1 : Int32)) - (Int32.ofNat (hL h 13 a9))) < ((Int32.ofNat (hL h 13 a9)) >>> ((1 : Int32) &&& 31)) then ((Int32.ofNat (hL h 13 a9)) >>> ((1 : Int32) &&& 31)) else (((hI h 2 a0 1) + (1 : Int32)) - (Int32.ofNat (hL h 13 a9))))) < (Int32.ofNat (hL h 13 a9)) then ((Int32.ofNat (hL h 13 a9)) + (if (((hI h 2 a0 1) + (1 : Int32)) - (Int32.ofNat (hL h 13 a9))) < ((Int32.ofNat (hL h 13 a9)) >>> ((1 : Int32) &&& 31)) then ((Int32.ofNat (hL h 13 a9)) >>> ((1 : Int32) &&& 31)) else (((hI h 2 a0 1) + (1 : Int32)) - (Int32.ofNat (hL h 13 a9))))) else (Int32.ofNat (hL h 13 a9))).toNatClampNeg)) 2 a0 0 (some (13, (hC h 13)))) 13 (hC h 13) ((hI h 2 a0 1).toNatClampNeg) (some (kx, a1))) 2 a0 1 ((hI h 2 a0 1) + (1 : Int32))) _
          refine tr_iconst (pc := 23) (v := 1) k_al_add_23 (by decide) ?_
          refine tr_ireturn (pc := 24) k_al_add_24 rfl rfl ?_
          exact hv
theorem v_al_add_0_d {g : mG} {d : Nat} (a0 a1 kx : Nat) (hkx : kx < 11) {h : mH} {Q : Option mV → mH → Prop} (e0 : hP h 2 a0 0 = some (15, 0)) (hv : ((¬ (hI h 2 a0 1) = (0 : Int32) → False) ∧ ((hI h 2 a0 1) = (0 : Int32) → ((¬ (if (10 : Int32) < ((hI h 2 a0 1) + (1 : Int32)) then ((hI h 2 a0 1) + (1 : Int32)) else (10 : Int32)) < 0) ∧ ((if (10 : Int32) < ((hI h 2 a0 1) + (1 : Int32)) then ((hI h 2 a0 1) + (1 : Int32)) else (10 : Int32)).toNatClampNeg ≤ 74) ∧ (vp_in (hI h 2 a0 1) (hL (setP (newC (setI h 2 a0 2 ((hI h 2 a0 2) + (1 : Int32))) 13 ((if (10 : Int32) < ((hI h 2 a0 1) + (1 : Int32)) then ((hI h 2 a0 1) + (1 : Int32)) else (10 : Int32)).toNatClampNeg)) 2 a0 0 (some (13, (hC h 13)))) 13 (hC h 13)) ∧ Q (some (vi (1 : Int32))) (setI (setP (setP (newC (setI h 2 a0 2 ((hI h 2 a0 2) + (1 : Int32))) 13 ((if (10 : Int32) < ((hI h 2 a0 1) + (1 : Int32)) then ((hI h 2 a0 1) + (1 : Int32)) else (10 : Int32)).toNatClampNeg)) 2 a0 0 (some (13, (hC h 13)))) 13 (hC h 13) ((hI h 2 a0 1).toNatClampNeg) (some (kx, a1))) 2 a0 1 ((hI h 2 a0 1) + (1 : Int32)))))))) : mT g me_al_add (d + 6) 1 74 0 [some (vr 2 a0), some (vr kx a1)] [] h Q := by
  refine tr_aload_n (pc := 0) 0 k_al_add_0 rfl rfl ?_
  refine tr_dup (pc := 1) k_al_add_1 rfl ?_
  refine tr_getIx (pc := 2) k_al_add_2 fl_al_63 rfl rfl ?_
  refine tr_iconst (pc := 5) (v := 1) k_al_add_5 (by decide) ?_
  refine tr_iadd (pc := 6) k_al_add_6 ?_
  refine tr_putI (pc := 7) k_al_add_7 fl_al_63 (Or.inl rfl) rfl ⟨rfl, rfl⟩ ?_
  refine tr_aload_n (pc := 10) 0 k_al_add_10 rfl rfl ?_
  refine tr_aload_n (pc := 11) 1 k_al_add_11 rfl rfl ?_
  refine tr_aload_n (pc := 12) 0 k_al_add_12 rfl rfl ?_
  refine tr_getP (pc := 13) k_al_add_13 fl_al_9 rfl (Eq.trans (hP_setI) e0) ?_
  refine tr_aload_n (pc := 16) 0 k_al_add_16 rfl rfl ?_
  refine tr_getIx (pc := 17) k_al_add_17 fl_al_48 rfl (hI_nf (by decide)) ?_
  refine tr_callV (pc := 20) (d' := d + 5) (mc' := 1) (ms' := 74) [vr kx a1, vr 15 0, vi (hI h 2 a0 1)] k_al_add_20 ca_al_add2 ml_al_131 ii_al_add2 ⟨by decide, rfl⟩ pa_al_add2 (by omega) (by omega) (by omega) rfl (Nat.le_of_ble_eq_true rfl) (Nat.le_of_ble_eq_true rfl) (Qk := fun v h9 => mT g me_al_add (d + 6) 0 0 23 [some (vr 2 a0), some (vr kx a1)] (v.toList ++ []) h9 _) ?_ (fun _ _ z => z)
  show mT g me_al_add2 (d + 5) 1 74 0 [some (vr 2 a0), some (vr kx a1), some (vr 15 0), some (vi (hI h 2 a0 1))] [] (setI h 2 a0 2 ((hI h 2 a0 2) + (1 : Int32))) _
  refine tr_iload_n (pc := 0) 3 k_al_add2_0 rfl rfl ?_
  refine tr_aload_n (pc := 1) 2 k_al_add2_1 rfl rfl ?_
  refine tr_dlen (pc := 2) k_al_add2_2 ?_
  refine tr_icmp_ne (pc := 3) 11 k_al_add2_3 (by decide) (fun q => ?_) (fun q => ?_)
  · replace hv := hv.1 q
    refine tr_aload_n (pc := 11) 2 k_al_add2_11 rfl rfl ?_
    refine tr_iload_n (pc := 12) 3 k_al_add2_12 rfl rfl ?_
    refine tr_aload_n (pc := 13) 1 k_al_add2_13 rfl rfl ?_
    exact hv.elim
  · replace hv := hv.2 q
    refine tr_aload_n (pc := 6) 0 k_al_add2_6 rfl rfl ?_
    refine tr_callV (pc := 7) (d' := d + 4) (mc' := 1) (ms' := 74) [] k_al_add2_7 ca_al_grow ml_al_129 ii_al_grow ⟨by decide, rfl⟩ pa_al_grow (by omega) (by omega) (by omega) rfl (Nat.le_of_ble_eq_true rfl) (Nat.le_of_ble_eq_true rfl) (Qk := fun v h9 => mT g me_al_add2 (d + 5) 0 0 10 [some (vr 2 a0), some (vr kx a1), some (vr 15 0), some (vi (hI h 2 a0 1))] (v.toList ++ []) h9 _) ?_ (fun _ _ z => z)
    show mT g me_al_grow (d + 4) 1 74 0 [some (vr 2 a0)] [] (setI h 2 a0 2 ((hI h 2 a0 2) + (1 : Int32))) _
    refine tr_aload_n (pc := 0) 0 k_al_grow_0 rfl rfl ?_
    refine tr_aload_n (pc := 1) 0 k_al_grow_1 rfl rfl ?_
    refine tr_getIx (pc := 2) k_al_grow_2 fl_al_48 rfl (hI_nf (by decide)) ?_
    refine tr_iconst (pc := 5) (v := 1) k_al_grow_5 (by decide) ?_
    refine tr_iadd (pc := 6) k_al_grow_6 ?_
    refine tr_callV (pc := 7) (d' := d + 3) (mc' := 1) (ms' := 74) [vi ((hI h 2 a0 1) + (1 : Int32))] k_al_grow_7 ca_al_grow2 ml_al_69 ii_al_grow2 ⟨by decide, rfl⟩ pa_al_grow2 (by omega) (by omega) (by omega) rfl (Nat.le_of_ble_eq_true rfl) (Nat.le_of_ble_eq_true rfl) (Qk := fun v h9 => mT g me_al_grow (d + 4) 0 0 10 [some (vr 2 a0)] (v.toList ++ []) h9 _) ?_ (fun _ _ z => z)
    show mT g me_al_grow2 (d + 3) 1 74 0 [some (vr 2 a0), some (vi ((hI h 2 a0 1) + (1 : Int32))), none, none] [] (setI h 2 a0 2 ((hI h 2 a0 2) + (1 : Int32))) _
    refine tr_aload_n (pc := 0) 0 k_al_grow2_0 rfl rfl ?_
    refine tr_getP (pc := 1) k_al_grow2_1 fl_al_9 rfl (Eq.trans (hP_setI) e0) ?_
    refine tr_dlen (pc := 4) k_al_grow2_4 ?_
    refine tr_istore_n (pc := 5) 2 k_al_grow2_5 rfl (by decide) rfl ?_
    show mT g me_al_grow2 (d + 3) 1 74 6 [some (vr 2 a0), some (vi ((hI h 2 a0 1) + (1 : Int32))), some (vi (0 : Int32)), none] [] (setI h 2 a0 2 ((hI h 2 a0 2) + (1 : Int32))) _
    refine tr_iload_n (pc := 6) 2 k_al_grow2_6 rfl rfl ?_
    refine tr_if_gt (pc := 7) 20 k_al_grow2_7 (by decide) (fun q => absurd q (by decide)) (fun _ => ?_)
    refine tr_aload_n (pc := 10) 0 k_al_grow2_10 rfl rfl ?_
    refine tr_getP (pc := 11) k_al_grow2_11 fl_al_9 rfl (Eq.trans (hP_setI) e0) ?_
    refine tr_gets (pc := 14) k_al_grow2_14 fs_al_39 ?_
    refine tr_acmp_eq (pc := 17) (r := some (15, 0)) (r' := some (15, 0)) 45 k_al_grow2_17 (by decide) (fun a b e1 e2 => by cases e1; cases e2; exact (Or.inr (Or.inr (Or.inr ⟨rfl, by decide⟩)))) (fun _ => ?_) (fun q => absurd rfl q)
    refine tr_aload_n (pc := 45) 0 k_al_grow2_45 rfl rfl ?_
    refine tr_bipush (pc := 46) (v := 10) k_al_grow2_46 (by decide) ?_
    refine tr_iload_n (pc := 48) 1 k_al_grow2_48 rfl rfl ?_
    refine tr_max (pc := 49) k_al_grow2_49 ml_al_79 (by omega) (Nat.le_of_ble_eq_true rfl) ?_
    refine tr_newQx (pc := 52) k_al_grow2_52 hv.1 hv.2.1 cl_al_7 ?_
    replace hv := hv.2.2
    show mT g me_al_grow2 (d + 3) 0 0 55 [some (vr 2 a0), some (vi ((hI h 2 a0 1) + (1 : Int32))), some (vi (0 : Int32)), none] [vr 13 (hC h 13), vr 2 a0] (newC (setI h 2 a0 2 ((hI h 2 a0 2) + (1 : Int32))) 13 ((if (10 : Int32) < ((hI h 2 a0 1) + (1 : Int32)) then ((hI h 2 a0 1) + (1 : Int32)) else (10 : Int32)).toNatClampNeg)) _
    refine tr_dup_x1 (pc := 55) k_al_grow2_55 rfl rfl ?_
    refine tr_putP (pc := 56) k_al_grow2_56 fl_al_9 (Or.inl rfl) rfl ?_
    refine tr_areturn (pc := 59) k_al_grow2_59 rfl rfl ?_
    show mT g me_al_grow (d + 4) 0 0 10 [some (vr 2 a0)] [vr 13 (hC h 13)] (setP (newC (setI h 2 a0 2 ((hI h 2 a0 2) + (1 : Int32))) 13 ((if (10 : Int32) < ((hI h 2 a0 1) + (1 : Int32)) then ((hI h 2 a0 1) + (1 : Int32)) else (10 : Int32)).toNatClampNeg)) 2 a0 0 (some (13, (hC h 13)))) _
    refine tr_areturn (pc := 10) k_al_grow_10 rfl rfl ?_
    show mT g me_al_add2 (d + 5) 0 0 10 [some (vr 2 a0), some (vr kx a1), some (vr 15 0), some (vi (hI h 2 a0 1))] [vr 13 (hC h 13)] (setP (newC (setI h 2 a0 2 ((hI h 2 a0 2) + (1 : Int32))) 13 ((if (10 : Int32) < ((hI h 2 a0 1) + (1 : Int32)) then ((hI h 2 a0 1) + (1 : Int32)) else (10 : Int32)).toNatClampNeg)) 2 a0 0 (some (13, (hC h 13)))) _
    refine tr_astore_n (pc := 10) 2 k_al_add2_10 rfl (by decide) rfl ?_
    show mT g me_al_add2 (d + 5) 0 0 11 [some (vr 2 a0), some (vr kx a1), some (vr 13 (hC h 13)), some (vi (hI h 2 a0 1))] [] (setP (newC (setI h 2 a0 2 ((hI h 2 a0 2) + (1 : Int32))) 13 ((if (10 : Int32) < ((hI h 2 a0 1) + (1 : Int32)) then ((hI h 2 a0 1) + (1 : Int32)) else (10 : Int32)).toNatClampNeg)) 2 a0 0 (some (13, (hC h 13)))) _
    refine tr_aload_n (pc := 11) 2 k_al_add2_11 rfl rfl ?_
    refine tr_iload_n (pc := 12) 3 k_al_add2_12 rfl rfl ?_
    refine tr_aload_n (pc := 13) 1 k_al_add2_13 rfl rfl ?_
    refine tr_aast (pc := 14) k_al_add2_14 hv.1 hkx ?_
    replace hv := hv.2
    refine tr_aload_n (pc := 15) 0 k_al_add2_15 rfl rfl ?_
    refine tr_iload_n (pc := 16) 3 k_al_add2_16 rfl rfl ?_
    refine tr_iconst (pc := 17) (v := 1) k_al_add2_17 (by decide) ?_
    refine tr_iadd (pc := 18) k_al_add2_18 ?_
    refine tr_putI (pc := 19) k_al_add2_19 fl_al_48 (Or.inl rfl) rfl ⟨rfl, rfl⟩ ?_
    refine tr_return (pc := 22) k_al_add2_22 rfl ?_
    show mT g me_al_add (d + 6) 0 0 23 [some (vr 2 a0), some (vr kx a1)] [] (setI (setP (setP (newC (setI h 2 a0 2 ((hI h 2 a0 2) + (1 : Int32))) 13 ((if (10 : Int32) < ((hI h 2 a0 1) + (1 : Int32)) then ((hI h 2 a0 1) + (1 : Int32)) else (10 : Int32)).toNatClampNeg)) 2 a0 0 (some (13, (hC h 13)))) 13 (hC h 13) ((hI h 2 a0 1).toNatClampNeg) (some (kx, a1))) 2 a0 1 ((hI h 2 a0 1) + (1 : Int32))) _
    refine tr_iconst (pc := 23) (v := 1) k_al_add_23 (by decide) ?_
    refine tr_ireturn (pc := 24) k_al_add_24 rfl rfl ?_
    exact hv
theorem v_al_remove_0_r {g : mG} {d : Nat} (a0 : Nat) (x1 : Int32) {h : mH} {Q : Option mV → mH → Prop} (a9 : Nat) (e0 : hP h 2 a0 0 = some (13, a9)) (hv : ((x1 < 0 → False) ∧ (¬ x1 < 0 → ((x1 < (hI h 2 a0 1) → (vp_in x1 (hL h 13 a9) ∧ ((((hI h 2 a0 1) - (1 : Int32)) ≤ x1 → (vp_in ((hI h 2 a0 1) - (1 : Int32)) (hL (setI (setI h 2 a0 2 ((hI h 2 a0 2) + (1 : Int32))) 2 a0 1 ((hI h 2 a0 1) - (1 : Int32))) 13 a9) ∧ Q (some (vp (hP h 13 a9 x1.toNatClampNeg))) (setP (setI (setI h 2 a0 2 ((hI h 2 a0 2) + (1 : Int32))) 2 a0 1 ((hI h 2 a0 1) - (1 : Int32))) 13 a9 (((hI h 2 a0 1) - (1 : Int32)).toNatClampNeg) none))) ∧ (¬ ((hI h 2 a0 1) - (1 : Int32)) ≤ x1 → False)))) ∧ (¬ x1 < (hI h 2 a0 1) → False))))) : mT g me_al_remove (d + 3) 0 0 0 [some (vr 2 a0), some (vi x1), none, none] [] h Q := by
  refine tr_iload_n (pc := 0) 1 k_al_remove_0 rfl rfl ?_
  refine tr_aload_n (pc := 1) 0 k_al_remove_1 rfl rfl ?_
  refine tr_getIx (pc := 2) k_al_remove_2 fl_al_48 rfl rfl ?_
  refine tr_callS (pc := 5) (d' := d + 2) (mc' := 0) (ms' := 0) [vi x1, vi (hI h 2 a0 1)] k_al_remove_5 ca_os_checkIndex ml_al_118 is_os_checkIndex pa_os_checkIndex (by omega) (by omega) (by omega) rfl (Nat.le_of_ble_eq_true rfl) (Nat.le_of_ble_eq_true rfl) (Qk := fun v h9 => mT g me_al_remove (d + 3) 0 0 8 [some (vr 2 a0), some (vi x1), none, none] (v.toList ++ []) h9 _) ?_ (fun _ _ z => z)
  show mT g me_os_checkIndex (d + 2) 0 0 0 [some (vi x1), some (vi (hI h 2 a0 1))] [] h _
  refine tr_iload_n (pc := 0) 0 k_os_checkIndex_0 rfl rfl ?_
  refine tr_iload_n (pc := 1) 1 k_os_checkIndex_1 rfl rfl ?_
  refine tr_null (pc := 2) k_os_checkIndex_2 ?_
  refine tr_callS (pc := 3) (d' := d + 1) (mc' := 0) (ms' := 0) [vi x1, vi (hI h 2 a0 1), vn] k_os_checkIndex_3 ca_pr_checkIndex ml_os_105 is_pr_checkIndex pa_pr_checkIndex (by omega) (by omega) (by omega) rfl (Nat.le_of_ble_eq_true rfl) (Nat.le_of_ble_eq_true rfl) (Qk := fun v h9 => mT g me_os_checkIndex (d + 2) 0 0 6 [some (vi x1), some (vi (hI h 2 a0 1))] (v.toList ++ []) h9 _) ?_ (fun _ _ z => z)
  show mT g me_pr_checkIndex (d + 1) 0 0 0 [some (vi x1), some (vi (hI h 2 a0 1)), some (vn)] [] h _
  refine tr_iload_n (pc := 0) 0 k_pr_checkIndex_0 rfl rfl ?_
  refine tr_if_lt (pc := 1) 9 k_pr_checkIndex_1 (by decide) (fun q => ?_) (fun q => ?_)
  · replace hv := hv.1 q
    refine tr_aload_n (pc := 9) 2 k_pr_checkIndex_9 rfl rfl ?_
    refine tr_iload_n (pc := 10) 0 k_pr_checkIndex_10 rfl rfl ?_
    refine tr_iload_n (pc := 11) 1 k_pr_checkIndex_11 rfl rfl ?_
    exact hv.elim
  · replace hv := hv.2 q
    refine tr_iload_n (pc := 4) 0 k_pr_checkIndex_4 rfl rfl ?_
    refine tr_iload_n (pc := 5) 1 k_pr_checkIndex_5 rfl rfl ?_
    refine tr_icmp_lt (pc := 6) 16 k_pr_checkIndex_6 (by decide) (fun q => ?_) (fun q => ?_)
    · replace hv := hv.1 q
      refine tr_iload_n (pc := 16) 0 k_pr_checkIndex_16 rfl rfl ?_
      refine tr_ireturn (pc := 17) k_pr_checkIndex_17 rfl rfl ?_
      show mT g me_os_checkIndex (d + 2) 0 0 6 [some (vi x1), some (vi (hI h 2 a0 1))] [vi x1] h _
      refine tr_ireturn (pc := 6) k_os_checkIndex_6 rfl rfl ?_
      show mT g me_al_remove (d + 3) 0 0 8 [some (vr 2 a0), some (vi x1), none, none] [vi x1] h _
      refine tr_pop (pc := 8) k_al_remove_8 rfl ?_
      refine tr_aload_n (pc := 9) 0 k_al_remove_9 rfl rfl ?_
      refine tr_getP (pc := 10) k_al_remove_10 fl_al_9 rfl (Eq.trans rfl e0) ?_
      refine tr_astore_n (pc := 13) 2 k_al_remove_13 rfl (by decide) rfl ?_
      show mT g me_al_remove (d + 3) 0 0 14 [some (vr 2 a0), some (vi x1), some (vr 13 a9), none] [] h _
      refine tr_aload_n (pc := 14) 2 k_al_remove_14 rfl rfl ?_
      refine tr_iload_n (pc := 15) 1 k_al_remove_15 rfl rfl ?_
      refine tr_aald (pc := 16) k_al_remove_16 hv.1 rfl ?_
      replace hv := hv.2
      refine tr_astore_n (pc := 17) 3 k_al_remove_17 rfl (by decide) rfl ?_
      show mT g me_al_remove (d + 3) 0 0 18 [some (vr 2 a0), some (vi x1), some (vr 13 a9), some (vp (hP h 13 a9 x1.toNatClampNeg))] [] h _
      refine tr_aload_n (pc := 18) 0 k_al_remove_18 rfl rfl ?_
      refine tr_aload_n (pc := 19) 2 k_al_remove_19 rfl rfl ?_
      refine tr_iload_n (pc := 20) 1 k_al_remove_20 rfl rfl ?_
      refine tr_callV (pc := 21) (d' := d + 2) (mc' := 0) (ms' := 0) [vr 13 a9, vi x1] k_al_remove_21 ca_al_fastRemove ml_al_144 ii_al_fastRemove ⟨by decide, rfl⟩ pa_al_fastRemove (by omega) (by omega) (by omega) rfl (Nat.le_of_ble_eq_true rfl) (Nat.le_of_ble_eq_true rfl) (Qk := fun v h9 => mT g me_al_remove (d + 3) 0 0 24 [some (vr 2 a0), some (vi x1), some (vr 13 a9), some (vp (hP h 13 a9 x1.toNatClampNeg))] (v.toList ++ []) h9 _) ?_ (fun _ _ z => z)
      show mT g me_al_fastRemove (d + 2) 0 0 0 [some (vr 2 a0), some (vr 13 a9), some (vi x1), none] [] h _
      refine tr_aload_n (pc := 0) 0 k_al_fastRemove_0 rfl rfl ?_
      refine tr_dup (pc := 1) k_al_fastRemove_1 rfl ?_
      refine tr_getIx (pc := 2) k_al_fastRemove_2 fl_al_63 rfl rfl ?_
      refine tr_iconst (pc := 5) (v := 1) k_al_fastRemove_5 (by decide) ?_
      refine tr_iadd (pc := 6) k_al_fastRemove_6 ?_
      refine tr_putI (pc := 7) k_al_fastRemove_7 fl_al_63 (Or.inl rfl) rfl ⟨rfl, rfl⟩ ?_
      refine tr_aload_n (pc := 10) 0 k_al_fastRemove_10 rfl rfl ?_
      refine tr_getIx (pc := 11) k_al_fastRemove_11 fl_al_48 rfl (hI_nf (by decide)) ?_
      refine tr_iconst (pc := 14) (v := 1) k_al_fastRemove_14 (by decide) ?_
      refine tr_isub (pc := 15) k_al_fastRemove_15 ?_
      refine tr_dup (pc := 16) k_al_fastRemove_16 rfl ?_
      refine tr_istore_n (pc := 17) 3 k_al_fastRemove_17 rfl (by decide) rfl ?_
      show mT g me_al_fastRemove (d + 2) 0 0 18 [some (vr 2 a0), some (vr 13 a9), some (vi x1), some (vi ((hI h 2 a0 1) - (1 : Int32)))] [vi ((hI h 2 a0 1) - (1 : Int32))] (setI h 2 a0 2 ((hI h 2 a0 2) + (1 : Int32))) _
      refine tr_iload_n (pc := 18) 2 k_al_fastRemove_18 rfl rfl ?_
      refine tr_icmp_le (pc := 19) 34 k_al_fastRemove_19 (by decide) (fun q => ?_) (fun q => ?_)
      · replace hv := hv.1 q
        refine tr_aload_n (pc := 34) 1 k_al_fastRemove_34 rfl rfl ?_
        refine tr_aload_n (pc := 35) 0 k_al_fastRemove_35 rfl rfl ?_
        refine tr_iload_n (pc := 36) 3 k_al_fastRemove_36 rfl rfl ?_
        refine tr_dup_x1 (pc := 37) k_al_fastRemove_37 rfl rfl ?_
        refine tr_putI (pc := 38) k_al_fastRemove_38 fl_al_48 (Or.inl rfl) rfl ⟨rfl, rfl⟩ ?_
        refine tr_null (pc := 41) k_al_fastRemove_41 ?_
        refine tr_aastN (pc := 42) k_al_fastRemove_42 hv.1 ?_
        replace hv := hv.2
        refine tr_return (pc := 43) k_al_fastRemove_43 rfl ?_
        show mT g me_al_remove (d + 3) 0 0 24 [some (vr 2 a0), some (vi x1), some (vr 13 a9), some (vp (hP h 13 a9 x1.toNatClampNeg))] [] (setP (setI (setI h 2 a0 2 ((hI h 2 a0 2) + (1 : Int32))) 2 a0 1 ((hI h 2 a0 1) - (1 : Int32))) 13 a9 (((hI h 2 a0 1) - (1 : Int32)).toNatClampNeg) none) _
        refine tr_aload_n (pc := 24) 3 k_al_remove_24 rfl rfl ?_
        refine tr_areturn (pc := 25) k_al_remove_25 rfl rfl ?_
        exact hv
      · replace hv := hv.2 q
        refine tr_aload_n (pc := 22) 1 k_al_fastRemove_22 rfl rfl ?_
        refine tr_iload_n (pc := 23) 2 k_al_fastRemove_23 rfl rfl ?_
        refine tr_iconst (pc := 24) (v := 1) k_al_fastRemove_24 (by decide) ?_
        refine tr_iadd (pc := 25) k_al_fastRemove_25 ?_
        refine tr_aload_n (pc := 26) 1 k_al_fastRemove_26 rfl rfl ?_
        refine tr_iload_n (pc := 27) 2 k_al_fastRemove_27 rfl rfl ?_
        refine tr_iload_n (pc := 28) 3 k_al_fastRemove_28 rfl rfl ?_
        refine tr_iload_n (pc := 29) 2 k_al_fastRemove_29 rfl rfl ?_
        refine tr_isub (pc := 30) k_al_fastRemove_30 ?_
        exact hv.elim
    · replace hv := hv.2 q
      refine tr_aload_n (pc := 9) 2 k_pr_checkIndex_9 rfl rfl ?_
      refine tr_iload_n (pc := 10) 0 k_pr_checkIndex_10 rfl rfl ?_
      refine tr_iload_n (pc := 11) 1 k_pr_checkIndex_11 rfl rfl ?_
      exact hv.elim
