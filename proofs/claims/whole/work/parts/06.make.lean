/-! rules: new cells, casts, statics, constants, the numbers' own helpers -/
def newAd (ad : Nat → Nat → Nat) (k n q : Nat) : Nat → Nat → Nat := fun k' n' => if k' = k ∧ n' = n then q else ad k' n'
theorem hC_newC (h : mH) (k len k' : Nat) : hC (newC h k len) k' = if k' = k then hC h k + 1 else hC h k' := rfl
theorem hC_le (h : mH) (k len k' : Nat) : hC h k' ≤ hC (newC h k len) k' := by
  rw [hC_newC]
  split
  · rename_i q; subst q; omega
  · omega
theorem newC_I {h : mH} {k len k' n' : Nat} (q : ¬ (k' = k ∧ n' = hC h k)) : hI (newC h k len) k' n' = hI h k' n' := by
  funext f
  exact if_neg q
theorem newC_P {h : mH} {k len k' n' : Nat} (q : ¬ (k' = k ∧ n' = hC h k)) : hP (newC h k len) k' n' = hP h k' n' := by
  funext f
  exact if_neg q
theorem newC_L {h : mH} {k len k' n' : Nat} (q : ¬ (k' = k ∧ n' = hC h k)) : hL (newC h k len) k' n' = hL h k' n' := if_neg q
theorem newC_I0 (h : mH) (k len f : Nat) : hI (newC h k len) k (hC h k) f = 0 := if_pos ⟨rfl, rfl⟩
theorem newC_P0 (h : mH) (k len f : Nat) : hP (newC h k len) k (hC h k) f = none := if_pos ⟨rfl, rfl⟩
theorem newC_L0 (h : mH) (k len : Nat) : hL (newC h k len) k (hC h k) = len := if_pos ⟨rfl, rfl⟩
theorem newC_wf {h : mH} {k len : Nat} (hw : ∀ (k n f : Nat) (r : Nat × Nat), hP h k n f = some r → r.2 < hC h r.1) : ∀ (k' n f : Nat) (r : Nat × Nat), hP (newC h k len) k' n f = some r → r.2 < hC h r.1 := by
  intro k' n f r hr
  by_cases q : k' = k ∧ n = hC h k
  · have e : hP (newC h k len) k' n f = none := if_pos q
    rw [e] at hr
    cases hr
  · rw [newC_P q] at hr
    exact hw _ _ _ _ hr
theorem newAd_old {ad : Nat → Nat → Nat} {h : mH} {k q k' n' : Nat} (hn : n' < hC h k') : newAd ad k (hC h k) q k' n' = ad k' n' := by
  unfold newAd
  rw [if_neg]
  rintro ⟨rfl, rfl⟩
  omega
theorem mco_new {ad : Nat → Nat → Nat} {h : mH} {k q : Nat} {v : mV} (hw : mwf h v) : mco (newAd ad k (hC h k) q) v = mco ad v := by
  rcases v with x | x | r | r
  · rfl
  · rfl
  · rfl
  · show Value.ref _ = Value.ref _
    rw [newAd_old hw]
theorem mSm.push {g : mG} {ad : Nat → Nat → Nat} {h : mH} {H H' : Heap} {ws : va_W} {ix : Nat → Nat → Nat} {k len q : Nat} {e : va_E} (S : mSm g ad h H ws ix) (hk : k < 14) (he : e = ment g (newAd ad k (hC h k) q) (newC h k len) k (hC h k))
    (P' : va_P g.2.1 mcl (ws ++ [(q, e)]) H') (D' : va_D (mA g) (ws ++ [(q, e)])) : mSim g (newAd ad k (hC h k) q) (newC h k len) H' := by
  obtain ⟨⟨a1, a2, a3, a4, a5, a6, a7, a8, a9⟩, b, c⟩ := S.2.2.2.2
  have ho : ∀ k' n', k' < 14 → n' < hC h k' → ment g (newAd ad k (hC h k) q) (newC h k len) k' n' = ment g ad h k' n' := by
    intro k' n' hk' hn'
    have hne : ¬ (k' = k ∧ n' = hC h k) := by rintro ⟨rfl, rfl⟩; omega
    rw [ment_congr (newC_I hne) (newC_P hne) (newC_L hne) hk']
    exact ment_ad (fun f r hr => newAd_old (b _ _ _ _ hr)) hk'
  have hold : ∀ k' n', k' < 14 → n' < hC h k' → ix k' n' < ws.length := fun k' n' h1 h2 => (List.getElem?_eq_some_iff.mp (S.1 k' n' h1 h2)).1
  refine ⟨ws ++ [(q, e)], fun k' n' => if k' = k ∧ n' = hC h k then ws.length else ix k' n', ?_, ?_, P', D', ⟨?_, ?_, ?_⟩⟩
  · intro k' n' hk' hn'
    dsimp only
    by_cases z : k' = k ∧ n' = hC h k
    · obtain ⟨rfl, rfl⟩ := z
      rw [if_pos ⟨rfl, rfl⟩, List.getElem?_append_right (Nat.le_refl _), Nat.sub_self, he]
      show some (q, _) = some (newAd ad k' (hC h k') q k' (hC h k'), _)
      have e2 : newAd ad k' (hC h k') q k' (hC h k') = q := if_pos ⟨rfl, rfl⟩
      rw [e2]
    · have hn2 : n' < hC h k' := by
        rw [hC_newC] at hn'
        split at hn'
        · rename_i y; subst y
          have : n' ≠ hC h k' := fun w => z ⟨rfl, w⟩
          omega
        · exact hn'
      rw [if_neg z, List.getElem?_append_left (hold _ _ hk' hn2), S.1 _ _ hk' hn2, ho _ _ hk' hn2, newAd_old hn2]
  · intro k1 n1 k2 n2 x1 x2 x3 x4 hix
    have hlt : ∀ k' n', n' < hC (newC h k len) k' → ¬ (k' = k ∧ n' = hC h k) → n' < hC h k' := by
      intro k' n' hn' z
      rw [hC_newC] at hn'
      split at hn'
      · rename_i y; subst y
        have : n' ≠ hC h k' := fun w => z ⟨rfl, w⟩
        omega
      · exact hn'
    dsimp only at hix
    by_cases z1 : k1 = k ∧ n1 = hC h k <;> by_cases z2 : k2 = k ∧ n2 = hC h k
    · exact ⟨z1.1.trans z2.1.symm, z1.2.trans z2.2.symm⟩
    · rw [if_pos z1, if_neg z2] at hix
      have := hold _ _ x3 (hlt _ _ x4 z2)
      omega
    · rw [if_neg z1, if_pos z2] at hix
      have := hold _ _ x1 (hlt _ _ x2 z1)
      omega
    · rw [if_neg z1, if_neg z2] at hix
      exact S.2.1 _ _ _ _ x1 (hlt _ _ x2 z1) x3 (hlt _ _ x4 z2) hix
  · have n14 : ∀ k', 14 ≤ k' → ∀ n, newAd ad k (hC h k) q k' n = ad k' n := fun k' hk' n => if_neg (by omega)
    have c14 : ∀ k', 14 ≤ k' → hC (newC h k len) k' = hC h k' := fun k' hk' => if_neg (by omega)
    refine ⟨by rw [n14 _ (by omega)]; exact a1, by rw [n14 _ (by omega)]; exact a2, by rw [c14 _ (by omega)]; exact a3, by rw [c14 _ (by omega)]; exact a4, by rw [newC_L (by omega)]; exact a5, by rw [newC_L (by omega)]; exact a6, by rw [newC_I (by omega)]; exact a7, by rw [n14 _ (by omega)]; exact a8, by rw [c14 _ (by omega)]; exact a9⟩
  · intro k' n f r hr
    exact Nat.lt_of_lt_of_le (newC_wf b _ _ _ _ hr) (hC_le _ _ _ _)
  · intro k' hk'
    rw [hC_newC, if_neg (by omega)]
    exact c k' hk'
theorem mX.born {g : mG} {m : mMe} {d mc ms w : Nat} {L : List (Option mV)} {st st' : List mV} {h : mH} {p : Program} {R : Room} {s : State} {mi : MethodId} {args : Array Value} {meth : Method} {c : Code} {H H1 : Heap} {ls : Array Slot} {locs : List Loc} {cells slots : Nat} {ad ad0 : Nat → Nat → Nat} {h0 : mH} {k len q : Nat}
    (X : mX g m d (mc + 1) (ms + w) L st h p R s mi args meth c H ls locs cells slots ad ad0 h0) (hS : mSim g (newAd ad k (hC h k) q) (newC h k len) H1) (h2 : ∀ v ∈ st', mwf h v) (S1 : va_S (mA g) s.heap H1 locs) :
    mX g m d mc ms L (vr k (hC h k) :: st') (newC h k len) p R s mi args meth c H1 ls locs (cells + 1) (slots + w) (newAd ad k (hC h k) q) ad0 h0 := by
  have hw : ∀ v, mwf h v → mwf (newC h k len) v := by
    intro v
    rcases v with x | x | r | r
    · exact id
    · exact id
    · exact id
    · exact fun hr => Nat.lt_of_lt_of_le hr (hC_le _ _ _ _)
  refine ⟨X.1, ⟨X.2.1.1, X.2.1.2.1, by have := X.2.1.2.2.1; omega, by have := X.2.1.2.2.2; omega⟩, X.2.2.1, ⟨fun k' n' hn => ?_, hS⟩, ⟨⟨X.2.2.2.2.1.1.1, X.2.2.2.2.1.1.2.1, X.2.2.2.2.1.1.2.2.1, fun i v hi => ?_⟩, ?_⟩, S1⟩
  · obtain ⟨h1, h3⟩ := X.2.2.2.1.1 k' n' hn
    exact ⟨Nat.lt_of_lt_of_le h1 (hC_le _ _ _ _), by rw [newAd_old h1]; exact h3⟩
  · obtain ⟨h1, h3⟩ := X.2.2.2.2.1.1.2.2.2 i v hi
    exact ⟨by rw [mco_new h3]; exact h1, hw v h3⟩
  · refine List.forall_mem_cons.mpr ⟨?_, fun v hv => hw v (h2 v hv)⟩
    show hC h k < hC (newC h k len) k
    rw [hC_newC, if_pos rfl]
    omega
theorem mstk_new {ad : Nat → Nat → Nat} {h : mH} {k q : Nat} {st : List mV} (hw : ∀ v ∈ st, mwf h v) : st.map (mco (newAd ad k (hC h k) q)) = st.map (mco ad) := List.map_congr_left fun v hv => mco_new (hw v hv)
theorem newAd_self (ad : Nat → Nat → Nat) (k n q : Nat) : newAd ad k n q k n = q := if_pos ⟨rfl, rfl⟩
set_option maxRecDepth 100000 in
theorem mdef_ok : ∀ k, k < 11 → ∀ f, f < (mkd k).2.2 → defaultValue (mty k f) = if misR (mty k f) = true then Value.null else Value.int 0 := by decide +kernel
section TR
variable {g : mG} {m : mMe} {d mc ms pc : Nat} {L : List (Option mV)} {st : List mV} {h : mH} {Q : Option mV → mH → Prop}
theorem tr_new {k w idx : Nat} (hc : decode m.2.1 pc = .ok (.new idx, 3)) (hk : k < 11) (hw : (mkd k).2.2 = w) (hl : Cond.classLink m.1.cls idx (mkd k).1 ∈ mTb) (hi : Cond.instantiable (mkd k).1 (mkd k).2.2 ∈ mTb) (hn : Cond.initialized (mkd k).1 ∈ mTb)
    (kk : mT g m d mc ms (pc + 3) L (vr k (hC h k) :: st) (newC h k 0) Q) : mT g m d (mc + 1) (ms + w) pc L st h Q := by
  intro p R e s mi args below meth c H ls locs cells slots ad ad0 h0 Qf X E
  subst hw
  obtain ⟨ws, ix, S⟩ := X.2.2.2.1.2
  have hA : ∀ q, s.heap.size ≤ q → mA g q := fun q hq => Nat.le_trans X.2.2.1.1.2.2.2.2.2.1 hq
  refine va_new (T := (mkd k).2.1) (N := (mkd k).2.2) (C := (mkd k).1) X.1.1 X.1.2.1 X.1.2.2.2.2.1 (mlays k hk) (mty k) (mtys_ok k hk) X.1.2.2.2.1 (X.1.2.2.2.2.1 _ hl) (X.1.2.2.2.2.1 _ hi) (X.1.2.2.2.2.1 _ hn) X.2.2.1.2 S.2.2.1 S.2.2.2.1 X.2.2.2.2.2 hA (mcl_at hk) (fs := mfs ad (newC h k 0) k (hC h k)) ?_ (by have := X.2.1.2.2.1; omega) (by have := X.2.1.2.2.2; omega) hc fun q H1 P1 D1 S1 => ?_
  · intro j hj
    rw [mdef_ok k hk j hj]
    show _ = (mfs ad (newC h k 0) k (hC h k)).getD j .null
    rw [List.getD_eq_getElem?_getD, mfs_at hj]
    show _ = mfv _ _ _ _ _
    unfold mfv
    rw [newC_I0, newC_P0]
    rfl
  · have e : mfs (newAd ad k (hC h k) q) (newC h k 0) k (hC h k) = mfs ad (newC h k 0) k (hC h k) := by
      unfold mfs
      refine List.map_congr_left fun f _ => ?_
      unfold mfv
      rw [newC_P0]
      rfl
    have kk' := kk.use (X.born (S.push (len := 0) (by omega) (by rw [ment_o hk, e]) P1 D1) X.2.2.2.2.1.2 S1) E
    rw [List.map_cons, mstk_new X.2.2.2.2.1.2] at kk'
    have e3 : mco (newAd ad k (hC h k) q) (vr k (hC h k)) = .ref q := congrArg Value.ref (newAd_self _ _ _ _)
    rw [e3] at kk'
    exact kk'
theorem mRA_int {s : State} {cA cB : ClassId} {ty : FieldType} (hn : ∀ C, ty ≠ .object C) (h1 : va_RA s cA ty) (h2 : va_RA s cB ty) : cA = cB := by
  cases ty with
  | object C => exact absurd rfl (hn C)
  | _ => exact Option.some.inj (Eq.trans (Eq.symm h1) h2)
theorem tr_newI {n : Int32} {w : Nat} (hc : decode m.2.1 pc = .ok (.newarray .int, 2)) (h0 : ¬ n < 0) (hw : n.toNatClampNeg = w) (hb : w ≤ 1000000) (hl : Cond.arrayClass .int ∈ mTb) (kk : mT g m d mc ms (pc + 2) L (vr 11 (hC h 11) :: st) (newC h 11 w) Q) : mT g m d (mc + 1) (ms + w) pc L (vi n :: st) h Q := by
  intro p R e s mi args below meth c H ls locs cells slots ad ad0 h0' Qf X E
  obtain ⟨ws, ix, S⟩ := X.2.2.2.1.2
  have hst := (List.forall_mem_cons.mp X.2.2.2.2.1.2).2
  have hA : ∀ q, s.heap.size ≤ q → mA g q := fun q hq => Nat.le_trans X.2.2.1.1.2.2.2.2.2.1 hq
  refine va_newa (atype := .int) (ty := .int) (a0 := (w, .inl (fun _ => 0))) X.1.1 X.1.2.1 (X.1.2.2.2.2.1 _ hl) rfl X.2.2.1.2 S.2.2.1 S.2.2.2.1 X.2.2.2.2.2 hA (fun _ => rfl) h0 hw (by show w * 4 ≤ _; omega) (by have := X.2.1.2.2.1; omega) (by have := X.2.1.2.2.2; omega) hc fun q cA H1 K1 P1 D1 S1 => ?_
  have e : cA = g.2.2.1.1 := mRA_int (fun C hC => by cases hC) (K1.2 3 (cA, .int) rfl).2 (K1.2 0 _ rfl).2
  subst e
  have kk' := kk.use (X.born (S.push (len := w) (by omega) (by rw [ment_i, newC_L0, show hI (newC h 11 w) 11 (hC h 11) = (fun _ => 0) from funext fun f => newC_I0 _ _ _ _]) P1 D1) hst S1) E
  rw [List.map_cons, mstk_new hst] at kk'
  have e3 : mco (newAd ad 11 (hC h 11) q) (vr 11 (hC h 11)) = .ref q := congrArg Value.ref (newAd_self _ _ _ _)
  rw [e3] at kk'
  exact kk'
theorem tr_newZ {n : Int32} {w : Nat} (hc : decode m.2.1 pc = .ok (.newarray .boolean, 2)) (h0 : ¬ n < 0) (hw : n.toNatClampNeg = w) (hb : w ≤ 1000000) (hl : Cond.arrayClass .boolean ∈ mTb) (kk : mT g m d mc ms (pc + 2) L (vr 12 (hC h 12) :: st) (newC h 12 w) Q) : mT g m d (mc + 1) (ms + w) pc L (vi n :: st) h Q := by
  intro p R e s mi args below meth c H ls locs cells slots ad ad0 h0' Qf X E
  obtain ⟨ws, ix, S⟩ := X.2.2.2.1.2
  have hst := (List.forall_mem_cons.mp X.2.2.2.2.1.2).2
  have hA : ∀ q, s.heap.size ≤ q → mA g q := fun q hq => Nat.le_trans X.2.2.1.1.2.2.2.2.2.1 hq
  refine va_newa (atype := .boolean) (ty := .boolean) (a0 := (w, .inl (fun _ => 0))) X.1.1 X.1.2.1 (X.1.2.2.2.2.1 _ hl) rfl X.2.2.1.2 S.2.2.1 S.2.2.2.1 X.2.2.2.2.2 hA (fun _ => rfl) h0 hw (by show w * 1 ≤ _; omega) (by have := X.2.1.2.2.1; omega) (by have := X.2.1.2.2.2; omega) hc fun q cA H1 K1 P1 D1 S1 => ?_
  have e : cA = g.2.2.1.2.1 := mRA_int (fun C hC => by cases hC) (K1.2 3 (cA, .boolean) rfl).2 (K1.2 1 _ rfl).2
  subst e
  have kk' := kk.use (X.born (S.push (len := w) (by omega) (by rw [ment_z, newC_L0, show hI (newC h 12 w) 12 (hC h 12) = (fun _ => 0) from funext fun f => newC_I0 _ _ _ _]) P1 D1) hst S1) E
  rw [List.map_cons, mstk_new hst] at kk'
  have e3 : mco (newAd ad 12 (hC h 12) q) (vr 12 (hC h 12)) = .ref q := congrArg Value.ref (newAd_self _ _ _ _)
  rw [e3] at kk'
  exact kk'
theorem tr_newQ {n : Int32} {w idx : Nat} (hc : decode m.2.1 pc = .ok (.anewarray idx, 3)) (h0 : ¬ n < 0) (hw : n.toNatClampNeg = w) (hb : w ≤ 1000000) (hl : Cond.classLink m.1.cls idx "java/lang/Object" ∈ mTb) (kk : mT g m d mc ms (pc + 3) L (vr 13 (hC h 13) :: st) (newC h 13 w) Q) : mT g m d (mc + 1) (ms + w) pc L (vi n :: st) h Q := by
  intro p R e s mi args below meth c H ls locs cells slots ad ad0 h0' Qf X E
  obtain ⟨ws, ix, S⟩ := X.2.2.2.1.2
  have hst := (List.forall_mem_cons.mp X.2.2.2.2.1.2).2
  have hA : ∀ q, s.heap.size ≤ q → mA g q := fun q hq => Nat.le_trans X.2.2.1.1.2.2.2.2.2.1 hq
  refine va_newq (C := "java/lang/Object") X.1.1 X.1.2.1 X.1.2.2.2.1 (X.1.2.2.2.2.1 _ hl) X.2.2.1.1.2.2.2.2.2.2.2.2.1 X.2.2.1.2 S.2.2.1 S.2.2.2.1 X.2.2.2.2.2 hA h0 hw (by omega) (by have := X.2.1.2.2.1; omega) (by have := X.2.1.2.2.2; omega) hc fun q cA H1 K1 P1 D1 S1 => ?_
  have e : cA = g.2.2.1.2.2 := by
    obtain ⟨k1, c1, x1, x2, x3, x4⟩ := (K1.2 3 (cA, .object "java/lang/Object") rfl).2
    obtain ⟨k2, c2, y1, y2, y3, y4⟩ := (K1.2 2 _ rfl).2
    exact Option.some.inj (x4.symm.trans y4)
  subst e
  have kk' := kk.use (X.born (S.push (len := w) (by omega) (by rw [ment_q, newC_L0, show mpt (newAd ad 13 (hC h 13) q) (newC h 13 w) (hC h 13) = (fun _ => none) from funext fun f => by unfold mpt; rw [newC_P0]; rfl]) P1 D1) hst S1) E
  rw [List.map_cons, mstk_new hst] at kk'
  have e3 : mco (newAd ad 13 (hC h 13) q) (vr 13 (hC h 13)) = .ref q := congrArg Value.ref (newAd_self _ _ _ _)
  rw [e3] at kk'
  exact kk'
end TR
