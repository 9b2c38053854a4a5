/-! a place of a list -/
theorem v_al_get_0 {g : mG} {d : Nat} (a0 : Nat) (x1 : Int32) {h : mH} {Q : Option mV → mH → Prop} (hv : ((x1 < 0 → False) ∧ (¬ x1 < 0 → ((x1 < (hI h 2 a0 1) → (∃ n1, hP h 2 a0 0 = some (13, n1) ∧ (vp_in x1 (hL h 13 n1) ∧ Q (some (vp (hP h 13 n1 x1.toNatClampNeg))) h))) ∧ (¬ x1 < (hI h 2 a0 1) → False))))) : mT g me_al_get (d + 3) 0 0 0 [some (vr 2 a0), some (vi x1)] [] h Q := by
  refine tr_iload_n (pc := 0) 1 k_al_get_0 rfl rfl ?_
  refine tr_aload_n (pc := 1) 0 k_al_get_1 rfl rfl ?_
  refine tr_getIx (pc := 2) k_al_get_2 fl_al_48 rfl rfl ?_
  refine tr_callS (pc := 5) (d' := d + 2) (mc' := 0) (ms' := 0) [vi x1, vi (hI h 2 a0 1)] k_al_get_5 ca_os_checkIndex ml_al_118 is_os_checkIndex pa_os_checkIndex (by omega) (by omega) (by omega) rfl (Nat.le_of_ble_eq_true rfl) (Nat.le_of_ble_eq_true rfl) (Qk := fun v h9 => mT g me_al_get (d + 3) 0 0 8 [some (vr 2 a0), some (vi x1)] (v.toList ++ []) h9 _) ?_ (fun _ _ z => z)
  show mT g me_os_checkIndex (d + 2) 0 0 0 [some (vi x1), some (vi (hI h 2 a0 1))] [] h _
  refine tr_iload_n (pc := 0) 0 k_os_checkIndex_0 rfl rfl ?_
  refine tr_iload_n (pc := 1) 1 k_os_checkIndex_1 rfl rfl ?_
  refine tr_null (pc := 2) k_os_checkIndex_2 ?_
  refine tr_callS (pc := 3) (d' := d + 1) (mc' := 0) (ms' := 0) [vi x1, vi (hI h 2 a0 1), vn] k_os_checkIndex_3 ca_pr_checkIndex ml_os_105 is_pr_checkIndex pa_pr_checkIndex (by omega) (by omega) (by omega) rfl (Nat.le_of_ble_eq_true rfl) (Nat.le_of_ble_eq_true rfl) (Qk := fun v h9 => mT g me_os_checkIndex (d + 2) 0 0 6 [some (vi x1), some (vi (hI h 2 a0 1))] (v.toList ++ []) h9 _) ?_ (fun _ _ z => z)
  show mT g me_pr_checkIndex (d + 1) 0 0 0 [some (vi x1), some (vi (hI h 2 a0 1)), some (vn)] [] h _
  refine tr_iload_n (pc := 0) 0 k_pr_checkIndex_0 rfl rfl ?_
  refine tr_if_lt (pc := 1) 9 k_pr_checkIndex_1 (by decide) (fun q => ?_) (fun q => ?_)
  · replace hv := hv.1 q
    refine tr_aload_n (pc := 9) 2 k_pr_checkIndex_9 rfl rfl ?_
    refine tr_iload_n (pc := 10) 0 k_pr_checkIndex_10 rfl rfl ?_
    refine tr_iload_n (pc := 11) 1 k_pr_checkIndex_11 rfl rfl ?_
    exact hv.elim
  · replace hv := hv.2 q
    refine tr_iload_n (pc := 4) 0 k_pr_checkIndex_4 rfl rfl ?_
    refine tr_iload_n (pc := 5) 1 k_pr_checkIndex_5 rfl rfl ?_
    refine tr_icmp_lt (pc := 6) 16 k_pr_checkIndex_6 (by decide) (fun q => ?_) (fun q => ?_)
    · replace hv := hv.1 q
      refine tr_iload_n (pc := 16) 0 k_pr_checkIndex_16 rfl rfl ?_
      refine tr_ireturn (pc := 17) k_pr_checkIndex_17 rfl rfl ?_
      show mT g me_os_checkIndex (d + 2) 0 0 6 [some (vi x1), some (vi (hI h 2 a0 1))] [vi x1] h _
      refine tr_ireturn (pc := 6) k_os_checkIndex_6 rfl rfl ?_
      show mT g me_al_get (d + 3) 0 0 8 [some (vr 2 a0), some (vi x1)] [vi x1] h _
      refine tr_pop (pc := 8) k_al_get_8 rfl ?_
      refine tr_aload_n (pc := 9) 0 k_al_get_9 rfl rfl ?_
      refine tr_iload_n (pc := 10) 1 k_al_get_10 rfl rfl ?_
      refine tr_callV (pc := 11) (d' := d + 2) (mc' := 0) (ms' := 0) [vi x1] k_al_get_11 ca_al_elementData ml_al_123 ii_al_elementData ⟨by decide, rfl⟩ pa_al_elementData (by omega) (by omega) (by omega) rfl (Nat.le_of_ble_eq_true rfl) (Nat.le_of_ble_eq_true rfl) (Qk := fun v h9 => mT g me_al_get (d + 3) 0 0 14 [some (vr 2 a0), some (vi x1)] (v.toList ++ []) h9 _) ?_ (fun _ _ z => z)
      show mT g me_al_elementData (d + 2) 0 0 0 [some (vr 2 a0), some (vi x1)] [] h _
      refine tr_aload_n (pc := 0) 0 k_al_elementData_0 rfl rfl ?_
      obtain ⟨n1, e2, hv⟩ := hv
      refine tr_getP (pc := 1) k_al_elementData_1 fl_al_9 rfl (Eq.trans rfl e2) ?_
      refine tr_iload_n (pc := 4) 1 k_al_elementData_4 rfl rfl ?_
      refine tr_aald (pc := 5) k_al_elementData_5 hv.1 rfl ?_
      replace hv := hv.2
      refine tr_areturn (pc := 6) k_al_elementData_6 rfl rfl ?_
      show mT g me_al_get (d + 3) 0 0 14 [some (vr 2 a0), some (vi x1)] [vp (hP h 13 n1 x1.toNatClampNeg)] h _
      refine tr_areturn (pc := 14) k_al_get_14 rfl rfl ?_
      exact hv
    · replace hv := hv.2 q
      refine tr_aload_n (pc := 9) 2 k_pr_checkIndex_9 rfl rfl ?_
      refine tr_iload_n (pc := 10) 0 k_pr_checkIndex_10 rfl rfl ?_
      refine tr_iload_n (pc := 11) 1 k_pr_checkIndex_11 rfl rfl ?_
      exact hv.elim
section TR
variable {g : mG} {m : mMe} {d mc ms pc : Nat} {L : List (Option mV)} {st : List mV} {h : mH} {Q : Option mV → mH → Prop}
theorem tr_alget {idx l : Nat} {i : Int32} {r : Option (Nat × Nat)} (hc : decode m.2.1 pc = .ok (.invokevirtual idx, 3)) (hl : Cond.methodLink m.1.cls idx me_al_get.1 ∈ mTb) (hd : 3 < d) (hs : st.length ≤ 4) (G : mGet h l i r) (kk : mT g m d mc ms (pc + 3) L (vp r :: st) h Q) : mT g m d mc ms pc L (vi i :: vr 2 l :: st) h Q := by
  obtain ⟨e, rfl⟩ : ∃ e, d = e + 4 := ⟨d - 4, by omega⟩
  obtain ⟨ed, g1, g2, g3, g4, g5⟩ := G
  refine tr_callV (d' := e + 3) (mc' := 0) (ms' := 0) [vi i] hc ca_al_get hl ii_al_get ⟨by decide, rfl⟩ pa_al_get (by omega) (by omega) (by omega) rfl (Nat.le_of_ble_eq_true rfl) hs (Qk := fun v h' => v = some (vp r) ∧ h' = h) ?_ ?_
  · exact v_al_get_0 l i ⟨fun q => absurd q g2, fun _ => ⟨fun _ => ⟨ed, g1, g4, by rw [g5], rfl⟩, fun q => absurd g3 q⟩⟩
  · rintro v h' ⟨rfl, rfl⟩
    exact kk
end TR
