/-! rules: rows, new cells, casts, statics -/
def cpyP (h : mH) (n0 n1 len : Nat) : mH := ((h.1.1, h.1.2.1, fun k n f => if k = 13 ∧ n = n1 ∧ f < len then h.1.2.2 13 n0 f else h.1.2.2 k n f), h.2)
theorem mwf_c {h h' : mH} (hc : ∀ k, hC h' k = hC h k) : ∀ v, mwf h v → mwf h' v := by
  intro w
  rcases w with x | x | r | r
  · exact id
  · exact id
  · exact id
  · show r.2 < _ → r.2 < _
    rw [hc]
    exact id
theorem mX.heap {g : mG} {m : mMe} {d mc ms : Nat} {L : List (Option mV)} {st st' : List mV} {h h' : mH} {p : Program} {R : Room} {s : State} {mi : MethodId} {args : Array Value} {meth : Method} {c : Code} {H H1 : Heap} {ls : Array Slot} {locs locs1 : List Loc} {cells slots : Nat} {ad ad0 : Nat → Nat → Nat} {h0 : mH}
    (X : mX g m d mc ms L st h p R s mi args meth c H ls locs cells slots ad ad0 h0) (hc : ∀ k, hC h' k = hC h k) (hS : mSim g ad h' H1) (h2 : ∀ v ∈ st', mwf h v) (S1 : va_S (mA g) s.heap H1 locs1) : mX g m d mc ms L st' h' p R s mi args meth c H1 ls locs1 cells slots ad ad0 h0 :=
  ⟨X.1, X.2.1, X.2.2.1, ⟨fun k n hn => by rw [hc]; exact X.2.2.2.1.1 k n hn, hS⟩, ⟨⟨X.2.2.2.2.1.1.1, X.2.2.2.2.1.1.2.1, X.2.2.2.2.1.1.2.2.1, fun i w hi => ⟨(X.2.2.2.2.1.1.2.2.2 i w hi).1, mwf_c hc w (X.2.2.2.2.1.1.2.2.2 i w hi).2⟩⟩, fun w hw => mwf_c hc w (h2 w hw)⟩, S1⟩
theorem ment_i {g : mG} {ad : Nat → Nat → Nat} {h : mH} {n : Nat} : ment g ad h 11 n = .inl (g.2.2.1.1, hL h 11 n, .inl (hI h 11 n)) := rfl
theorem ment_z {g : mG} {ad : Nat → Nat → Nat} {h : mH} {n : Nat} : ment g ad h 12 n = .inl (g.2.2.1.2.1, hL h 12 n, .inl (hI h 12 n)) := rfl
theorem ment_q {g : mG} {ad : Nat → Nat → Nat} {h : mH} {n : Nat} : ment g ad h 13 n = .inl (g.2.2.1.2.2, hL h 13 n, .inr (.inr (.inr (.inr (mpt ad h n))))) := rfl
theorem mCo.sI {g : mG} {ad : Nat → Nat → Nat} {h : mH} (k n f : Nat) (v : Int32) (hk : k < 14) (C : mCo g ad h) : mCo g ad (setI h k n f v) := by
  obtain ⟨⟨a1, a2, a3, a4, a5, a6, a7, a8, a9⟩, b, c⟩ := C
  refine ⟨⟨a1, a2, a3, a4, a5, a6, ?_, a8, a9⟩, b, c⟩
  rw [hI_ne (fun q => by omega)]
  exact a7
section TR
variable {g : mG} {m : mMe} {d mc ms pc : Nat} {L : List (Option mV)} {st : List mV} {h : mH} {Q : Option mV → mH → Prop}
theorem tr_iald {n : Nat} {i : Int32} (hc : decode m.2.1 pc = .ok (.iaload, 1)) (hin : vp_in i (hL h 11 n)) (kk : mT g m d mc ms (pc + 1) L (vi (hI h 11 n i.toNatClampNeg) :: st) h Q) : mT g m d mc ms pc L (vi i :: vr 11 n :: st) h Q := by
  intro p R e s mi args below meth c H ls locs cells slots ad ad0 h0 Qf X E
  have hst := List.forall_mem_cons.mp (List.forall_mem_cons.mp X.2.2.2.2.1.2).2
  obtain ⟨ws, ix, S⟩ := X.2.2.2.1.2
  exact va_iald X.1.1 X.1.2.1 X.2.2.1.2 S.2.2.1 (ix 11 n) 0 ((S.1 11 n (by omega) hst.1).trans (by rw [ment_i])) rfl hin hc (kk.use (X.to X.2.2.2.2.1.1 (List.forall_mem_cons.mpr ⟨trivial, hst.2⟩)) E)
theorem tr_zald {n : Nat} {i : Int32} (hc : decode m.2.1 pc = .ok (.baload, 1)) (hin : vp_in i (hL h 12 n)) (kk : mT g m d mc ms (pc + 1) L (vi (hI h 12 n i.toNatClampNeg) :: st) h Q) : mT g m d mc ms pc L (vi i :: vr 12 n :: st) h Q := by
  intro p R e s mi args below meth c H ls locs cells slots ad ad0 h0 Qf X E
  have hst := List.forall_mem_cons.mp (List.forall_mem_cons.mp X.2.2.2.2.1.2).2
  obtain ⟨ws, ix, S⟩ := X.2.2.2.1.2
  exact va_zald X.1.1 X.1.2.1 X.2.2.1.2 S.2.2.1 (ix 12 n) 1 ((S.1 12 n (by omega) hst.1).trans (by rw [ment_z])) rfl hin hc (kk.use (X.to X.2.2.2.2.1.1 (List.forall_mem_cons.mpr ⟨trivial, hst.2⟩)) E)
theorem tr_sald {i : Int32} (hc : decode m.2.1 pc = .ok (.iaload, 1)) (hin : vp_in i (hL h 14 0)) (kk : mT g m d mc ms (pc + 1) L (vi (hI h 14 0 i.toNatClampNeg) :: st) h Q) : mT g m d mc ms pc L (vi i :: vr 14 0 :: st) h Q := by
  intro p R e s mi args below meth c H ls locs cells slots ad ad0 h0 Qf X E
  have hst := List.forall_mem_cons.mp (List.forall_mem_cons.mp X.2.2.2.2.1.2).2
  obtain ⟨ws, ix, S⟩ := X.2.2.2.1.2
  obtain ⟨⟨a1, a2, a3, a4, a5, a6, a7, a8, a9⟩, b, c⟩ := S.2.2.2.2
  have kk' := kk.use (X.to X.2.2.2.2.1.1 (List.forall_mem_cons.mpr ⟨trivial, hst.2⟩)) E
  rw [a7] at kk'
  rw [a5] at hin
  have O := X.2.2.1.1
  show W p g.1 e R s mi args below meth _ H locs cells slots Qf (F0 mi pc ls (.int i :: .ref (ad 14 0) :: st.map (mco ad)))
  rw [a1]
  exact va_sld X.1.1 X.1.2.1 O.2.1 (Nat.lt_of_lt_of_le O.2.2.2.1 O.2.2.2.2.2.1) (Nat.not_le.mpr O.2.2.2.1) X.2.2.2.2.2 hin hc kk'
theorem tr_slen {v : Int32} (hc : decode m.2.1 pc = .ok (.arraylength, 1)) (hv : Int32.ofNat (hL h 14 0) = v) (kk : mT g m d mc ms (pc + 1) L (vi v :: st) h Q) : mT g m d mc ms pc L (vr 14 0 :: st) h Q := by
  intro p R e s mi args below meth c H ls locs cells slots ad ad0 h0 Qf X E
  have hst := List.forall_mem_cons.mp X.2.2.2.2.1.2
  obtain ⟨ws, ix, S⟩ := X.2.2.2.1.2
  obtain ⟨⟨a1, a2, a3, a4, a5, a6, a7, a8, a9⟩, b, c⟩ := S.2.2.2.2
  have kk' := kk.use (X.to X.2.2.2.2.1.1 (List.forall_mem_cons.mpr ⟨trivial, hst.2⟩)) E
  rw [← hv, a5] at kk'
  have O := X.2.2.1.1
  show W p g.1 e R s mi args below meth _ H locs cells slots Qf (F0 mi pc ls (.ref (ad 14 0) :: st.map (mco ad)))
  rw [a1]
  exact va_slen X.1.1 X.1.2.1 O.2.1 (Nat.lt_of_lt_of_le O.2.2.2.1 O.2.2.2.2.2.1) (Nat.not_le.mpr O.2.2.2.1) X.2.2.2.2.2 hc kk'
theorem tr_dlen (hc : decode m.2.1 pc = .ok (.arraylength, 1)) (kk : mT g m d mc ms (pc + 1) L (vi 0 :: st) h Q) : mT g m d mc ms pc L (vr 15 0 :: st) h Q := by
  intro p R e s mi args below meth c H ls locs cells slots ad ad0 h0 Qf X E
  have hst := List.forall_mem_cons.mp X.2.2.2.2.1.2
  obtain ⟨ws, ix, S⟩ := X.2.2.2.1.2
  obtain ⟨⟨a1, a2, a3, a4, a5, a6, a7, a8, a9⟩, b, c⟩ := S.2.2.2.2
  have kk' := kk.use (X.to X.2.2.2.2.1.1 (List.forall_mem_cons.mpr ⟨trivial, hst.2⟩)) E
  have O := X.2.2.1.1
  obtain ⟨cell, q1, q2, q3, q4⟩ := O.2.2.1
  show W p g.1 e R s mi args below meth _ H locs cells slots Qf (F0 mi pc ls (.ref (ad 15 0) :: st.map (mco ad)))
  rw [a2]
  exact W.alen (n := 0) X.1.1 X.1.2.1 (by rw [X.2.2.2.2.2.2.1 _ (Nat.lt_of_lt_of_le O.2.2.2.2.1 O.2.2.2.2.2.1) (Nat.not_le.mpr O.2.2.2.2.1)]; exact q1) q2 (by rw [q4]; rfl) rfl rfl hc kk'
theorem tr_alen {k n : Nat} {v : Int32} (hk : k = 11 ∨ k = 12 ∨ k = 13) (hc : decode m.2.1 pc = .ok (.arraylength, 1)) (hv : Int32.ofNat (hL h k n) = v) (kk : mT g m d mc ms (pc + 1) L (vi v :: st) h Q) : mT g m d mc ms pc L (vr k n :: st) h Q := by
  intro p R e s mi args below meth c H ls locs cells slots ad ad0 h0 Qf X E
  have hst := List.forall_mem_cons.mp X.2.2.2.2.1.2
  obtain ⟨ws, ix, S⟩ := X.2.2.2.1.2
  have kk' := kk.use (X.to X.2.2.2.2.1.1 (List.forall_mem_cons.mpr ⟨trivial, hst.2⟩)) E
  rcases hk with rfl | rfl | rfl
  · exact va_alen X.1.1 X.1.2.1 X.2.2.1.2 S.2.2.1 (ix 11 n) 0 (S.1 11 n (by omega) hst.1) rfl hv hc kk'
  · exact va_alen X.1.1 X.1.2.1 X.2.2.1.2 S.2.2.1 (ix 12 n) 1 (S.1 12 n (by omega) hst.1) rfl hv hc kk'
  · exact va_alen X.1.1 X.1.2.1 X.2.2.1.2 S.2.2.1 (ix 13 n) 2 (S.1 13 n (by omega) hst.1) rfl hv hc kk'
theorem tr_aald {n : Nat} {i : Int32} {r : Option (Nat × Nat)} (hc : decode m.2.1 pc = .ok (.aaload, 1)) (hin : vp_in i (hL h 13 n)) (hr : hP h 13 n i.toNatClampNeg = r) (kk : mT g m d mc ms (pc + 1) L (vp r :: st) h Q) : mT g m d mc ms pc L (vi i :: vr 13 n :: st) h Q := by
  intro p R e s mi args below meth c H ls locs cells slots ad ad0 h0 Qf X E
  have hst := List.forall_mem_cons.mp (List.forall_mem_cons.mp X.2.2.2.2.1.2).2
  obtain ⟨ws, ix, S⟩ := X.2.2.2.1.2
  have hw : mwf h (vp r) := by
    cases r with
    | none => exact trivial
    | some r => exact S.2.2.2.2.2.1 _ _ _ _ hr
  have kk' := kk.use (X.to X.2.2.2.2.1.1 (List.forall_mem_cons.mpr ⟨hw, hst.2⟩)) E
  have he : mco ad (vp r) = va_rf (mpt ad h n i.toNatClampNeg) := by
    unfold mpt
    rw [hr]
    cases r <;> rfl
  rw [List.map_cons, he] at kk'
  exact va_aldq (C := "java/lang/Object") X.1.1 X.1.2.1 X.2.2.1.2 S.2.2.1 (ix 13 n) 2 ((S.1 13 n (by omega) hst.1).trans (by rw [ment_q])) rfl hin hc kk'
theorem upd_hI (h : mH) (k n i : Nat) (x : Int32) : upd (hI h k n) i x = hI (setI h k n i x) k n := by
  funext j
  show (if j = i then x else hI h k n j) = if k = k ∧ n = n ∧ j = i then x else hI h k n j
  by_cases q : j = i
  · rw [if_pos q, if_pos ⟨rfl, rfl, q⟩]
  · rw [if_neg q, if_neg (fun z => q z.2.2)]
theorem tr_iast {n : Nat} {i x : Int32} (hc : decode m.2.1 pc = .ok (.iastore, 1)) (hin : vp_in i (hL h 11 n)) (kk : mT g m d mc ms (pc + 1) L st (setI h 11 n i.toNatClampNeg x) Q) : mT g m d mc ms pc L (vi x :: vi i :: vr 11 n :: st) h Q := by
  intro p R e s mi args below meth c H ls locs cells slots ad ad0 h0 Qf X E
  have hst := List.forall_mem_cons.mp (List.forall_mem_cons.mp (List.forall_mem_cons.mp X.2.2.2.2.1.2).2).2
  obtain ⟨ws, ix, S⟩ := X.2.2.2.1.2
  refine va_iast X.1.1 X.1.2.1 X.2.2.1.2 S.2.2.1 S.2.2.2.1 X.2.2.2.2.2 (ix 11 n) 0 ((S.1 11 n (by omega) hst.1).trans (by rw [ment_i])) rfl hin hc fun H1 locs1 P1 D1 S1 => ?_
  exact kk.use (X.heap (h' := setI h 11 n i.toNatClampNeg x) (fun _ => rfl) (S.set (by omega) hst.1 (by rw [ment_i, upd_hI]; rfl) (fun _ => rfl) (fun k' n' hk' q => ment_congr (hI_ne q) rfl rfl hk') (S.2.2.2.2.sI _ _ _ _ (by omega)) P1 D1) hst.2 S1) E
theorem tr_zast {n : Nat} {i x : Int32} (hc : decode m.2.1 pc = .ok (.bastore, 1)) (hin : vp_in i (hL h 12 n)) (hx : vp_nar .boolean x = x) (kk : mT g m d mc ms (pc + 1) L st (setI h 12 n i.toNatClampNeg x) Q) : mT g m d mc ms pc L (vi x :: vi i :: vr 12 n :: st) h Q := by
  intro p R e s mi args below meth c H ls locs cells slots ad ad0 h0 Qf X E
  have hst := List.forall_mem_cons.mp (List.forall_mem_cons.mp (List.forall_mem_cons.mp X.2.2.2.2.1.2).2).2
  obtain ⟨ws, ix, S⟩ := X.2.2.2.1.2
  refine va_zast X.1.1 X.1.2.1 X.2.2.1.2 S.2.2.1 S.2.2.2.1 X.2.2.2.2.2 (ix 12 n) 1 ((S.1 12 n (by omega) hst.1).trans (by rw [ment_z])) rfl hin hc fun H1 locs1 P1 D1 S1 => ?_
  exact kk.use (X.heap (h' := setI h 12 n i.toNatClampNeg x) (fun _ => rfl) (S.set (by omega) hst.1 (by rw [ment_z, hx, upd_hI]; rfl) (fun _ => rfl) (fun k' n' hk' q => ment_congr (hI_ne q) rfl rfl hk') (S.2.2.2.2.sI _ _ _ _ (by omega)) P1 D1) hst.2 S1) E
theorem up_mpt (ad : Nat → Nat → Nat) (h : mH) (n i : Nat) (r : Option (Nat × Nat)) : va_up (mpt ad h n) i (r.map fun r => ad r.1 r.2) = mpt ad (setP h 13 n i r) n := by
  funext j
  show (if j = i then (r.map fun r => ad r.1 r.2) else mpt ad h n j) = (if (13:Nat) = 13 ∧ n = n ∧ j = i then r else hP h 13 n j).map fun r => ad r.1 r.2
  by_cases q : j = i
  · rw [if_pos q, if_pos ⟨rfl, rfl, q⟩]
  · rw [if_neg q, if_neg (fun z => q z.2.2)]
    rfl
theorem mCo.sP {g : mG} {ad : Nat → Nat → Nat} {h : mH} (k n f : Nat) (v : Option (Nat × Nat)) (hv : mwf h (vp v)) (C : mCo g ad h) : mCo g ad (setP h k n f v) := by
  obtain ⟨a, b, c⟩ := C
  refine ⟨a, ?_, c⟩
  intro k' n' f' r' hr
  by_cases q : k' = k ∧ n' = n ∧ f' = f
  · have e : hP (setP h k n f v) k' n' f' = v := if_pos q
    rw [e] at hr
    subst hr
    exact hv
  · have e : hP (setP h k n f v) k' n' f' = hP h k' n' f' := if_neg q
    rw [e] at hr
    exact b _ _ _ _ hr
theorem mAny {s : State} {H : Heap} {ad : Nat → Nat → Nat} {ws : va_W} {ix : Nat → Nat → Nat} {k n : Nat} {H0 : Heap} (hO : mOld g s H0) (hK : va_K g.2.1 mcl (mtys g) s) (S : mSm g ad h H ws ix) (hk : k < 11) (hn : n < hC h k) : va_Any "java/lang/Object" s H (ad k n) := by
  have hin := S.1 k n (by omega) hn
  rw [ment_o hk] at hin
  refine va_rAny hK S.2.2.1 hin (mcl_at hk) fun comp c0 h1 h2 => ?_
  obtain ⟨c1, t1, f1, f2, f3⟩ := Cond.castable_spec (va_Nw.use (A := #[]) rfl (hO.2.2.2.2.2.2.2.1 k hk))
  cases h2.symm.trans f1
  cases h1.symm.trans f2
  exact f3
theorem tr_aast {n k n' : Nat} {i : Int32} (hc : decode m.2.1 pc = .ok (.aastore, 1)) (hin : vp_in i (hL h 13 n)) (hk : k < 11) (kk : mT g m d mc ms (pc + 1) L st (setP h 13 n i.toNatClampNeg (some (k, n'))) Q) : mT g m d mc ms pc L (vr k n' :: vi i :: vr 13 n :: st) h Q := by
  intro p R e s mi args below meth c H ls locs cells slots ad ad0 h0 Qf X E
  have hv := List.forall_mem_cons.mp X.2.2.2.2.1.2
  have hst := List.forall_mem_cons.mp (List.forall_mem_cons.mp hv.2).2
  obtain ⟨ws, ix, S⟩ := X.2.2.2.1.2
  refine va_astqM X.1.1 X.1.2.1 X.2.2.1.2 S.2.2.1 S.2.2.2.1 X.2.2.2.2.2 (ix 13 n) 2 (E := "java/lang/Object") ((S.1 13 n (by omega) hst.1).trans (by rw [ment_q])) rfl (mAny X.2.2.1.1 X.2.2.1.2 S hk hv.1) hin hc fun H1 locs1 P1 D1 S1 => ?_
  exact kk.use (X.heap (h' := setP h 13 n i.toNatClampNeg (some (k, n'))) (fun _ => rfl) (S.set (by omega) hst.1 (by rw [ment_q, ← up_mpt]; rfl) (fun _ => rfl) (fun k' n' hk' q => ment_congr rfl (hP_ne q) rfl hk') (S.2.2.2.2.sP _ _ _ _ hv.1) P1 D1) hst.2 S1) E
theorem tr_aastN {n : Nat} {i : Int32} (hc : decode m.2.1 pc = .ok (.aastore, 1)) (hin : vp_in i (hL h 13 n)) (kk : mT g m d mc ms (pc + 1) L st (setP h 13 n i.toNatClampNeg none) Q) : mT g m d mc ms pc L (vn :: vi i :: vr 13 n :: st) h Q := by
  intro p R e s mi args below meth c H ls locs cells slots ad ad0 h0 Qf X E
  have hv := List.forall_mem_cons.mp X.2.2.2.2.1.2
  have hst := List.forall_mem_cons.mp (List.forall_mem_cons.mp hv.2).2
  obtain ⟨ws, ix, S⟩ := X.2.2.2.1.2
  refine va_astqN (C := "java/lang/Object") X.1.1 X.1.2.1 X.2.2.1.2 S.2.2.1 S.2.2.2.1 X.2.2.2.2.2 (ix 13 n) 2 ((S.1 13 n (by omega) hst.1).trans (by rw [ment_q])) rfl hin hc fun H1 locs1 P1 D1 S1 => ?_
  exact kk.use (X.heap (h' := setP h 13 n i.toNatClampNeg none) (fun _ => rfl) (S.set (by omega) hst.1 (by rw [ment_q, ← up_mpt]; rfl) (fun _ => rfl) (fun k' n' hk' q => ment_congr rfl (hP_ne q) rfl hk') (S.2.2.2.2.sP _ _ _ _ trivial) P1 D1) hst.2 S1) E
end TR
