/-! rules: calls -/
abbrev mR (d mc ms : Nat) : Room := { frames := d, cells := mc, slots := ms, locals := 40 * d }
def mPU (g : mG) (ad : Nat → Nat → Nat) (h : mH) (U : State) : Prop := mOld g U U.heap ∧ va_K g.2.1 mcl (mtys g) U ∧ mSim g ad h U.heap
def mQc (g : mG) (ad0 : Nat → Nat → Nat) (h0 : mH) (Q : Option mV → mH → Prop) : Array Value → State → Outcome → State → Prop := fun _ st o t =>
  (∃ (v : Option mV) (h : mH) (ad : Nat → Nat → Nat), o = .returned (v.map (mco ad)) ∧ Q v h ∧ mExt h0 ad0 h ad ∧ mSim g ad h t.heap ∧ ∀ x, v = some x → mwf h x) ∧ va_F (mA g) st t
/-- the locals with which a method begins -/
def margs (vs : List mV) (n : Nat) : List (Option mV) := vs.map some ++ List.replicate (n - vs.length) none
theorem lv_args1 {ad : Nat → Nat → Nat} : ∀ (vs : List mV) (i : Nat), (∀ v ∈ vs, mc1 v = true) → ∀ (j : Nat) (v : mV), vs[j]? = some v → (i + j, mco ad v) ∈ lv_args i (vs.map (mco ad))
  | [], _, _, j, v, h => by simp at h
  | w :: vs, i, hv, j, v, h => by
    have hw := List.forall_mem_cons.mp hv
    rw [List.map_cons]
    unfold lv_args
    rw [if_neg (by rw [mc1_cat hw.1]; omega)]
    cases j with
    | zero =>
      cases h
      exact List.mem_cons_self
    | succ j =>
      have := lv_args1 (ad := ad) vs (i + 1) hw.2 j v (by simpa using h)
      rw [show i + 1 + j = i + (j + 1) by omega] at this
      exact List.mem_cons_of_mem _ this
theorem lg_len1 {ad : Nat → Nat → Nat} : ∀ (vs : List mV), (∀ v ∈ vs, mc1 v = true) → (lg_sl (vs.map (mco ad))).length = vs.length
  | [], _ => rfl
  | w :: vs, hv => by
    have hw := List.forall_mem_cons.mp hv
    have ih := lg_len1 (ad := ad) vs hw.2
    unfold lg_sl at ih ⊢
    rw [List.map_cons, List.flatMap_cons, List.length_append, ih, if_neg (by rw [mc1_cat hw.1]; omega)]
    simp
    omega
theorem mLoc.entry {ad : Nat → Nat → Nat} {h : mH} {vs : List mV} {n : Nat} (hv : ∀ v ∈ vs, mc1 v = true) (hn : vs.length ≤ n) (hw : ∀ v ∈ vs, mwf h v) : mLoc ad h n (margs vs n) ((lg_sl (vs.map (mco ad)) ++ List.replicate (n - (lg_sl (vs.map (mco ad))).length) Slot.unset).toArray) := by
  have hl := lv_entry (vs.map (mco ad)) (n := n) (by rw [lg_len1 vs hv]; exact hn)
  refine ⟨by unfold margs; simp; omega, hl.1, hl.2.1, ?_⟩
  intro i v hi
  have hi2 : vs[i]? = some v := by
    unfold margs at hi
    by_cases hlt : i < vs.length
    · rw [List.getElem?_append_left (by simpa using hlt), List.getElem?_map] at hi
      cases hq : vs[i]? with
      | none => rw [hq] at hi; cases hi
      | some w => rw [hq] at hi; cases hi; rfl
    · rw [List.getElem?_append_right (by simpa using hlt), List.getElem?_replicate] at hi
      split at hi
      · cases hi
      · cases hi
  have hm := lv_args1 (ad := ad) vs 0 hv i v hi2
  rw [Nat.zero_add] at hm
  exact ⟨hl.2.2 _ hm, hw v (List.mem_of_getElem? hi2)⟩
theorem mT.met {g : mG} {y : mMe} {d mc ms : Nat} {vs : List mV} {h : mH} {Q : Option mV → mH → Prop} (hy : plainFor y.1 = true) (hv : ∀ v ∈ vs, mc1 v = true) (hn : vs.length ≤ y.2.2.1) (B : mT g y d mc ms 0 (margs vs y.2.2.1) [] h Q) (ad : Nat → Nat → Nat) (hw : ∀ v ∈ vs, mwf h v) :
    Met g.1 y.1 (Cond.code y.1 y.2.1 y.2.2.1 y.2.2.2 :: mTb) (mR d mc ms) (va_Pc (vs.map (mco ad)) (mPU g ad h)) (mQc g ad h Q) mc ms (mA g) := by
  refine va_MetF (cc := y.2.1) (maxL := y.2.2.1) (ret := y.2.2.2) hy rfl ?_
  intro p e s m args below meth c s₁ B0 hml hv0
  obtain ⟨rfl, hO, hK, hS⟩ := hv0
  have hts := atoms_spec (ws := Cond.code y.1 y.2.1 y.2.2.1 y.2.2.2 :: mTb) B0.pre
  rw [lg_entry_eq]
  refine B.use (p := p) (R := mR d mc ms) (ad := ad) (ad0 := ad) (h0 := h) (cells := 0) (slots := 0) ⟨⟨B0.exec, B0.bytes, hml, findClass_of_methodNamed B0.named, fun w hw => hts w (List.mem_cons_of_mem _ hw), B0.returns, B0.notSynchronized, fun hi => (name_of_methodNamed B0.named B0.method).1.trans hi⟩, ⟨Nat.le_refl _, Nat.le_refl _, by show 0 + mc ≤ mc; omega, by show 0 + ms ≤ ms; omega⟩, ⟨hO, hK⟩, ⟨fun k n hn => ⟨hn, rfl⟩, hS⟩, ⟨mLoc.entry hv hn hw, fun v hv => absurd hv List.not_mem_nil⟩, va_S.rf⟩ ?_
  intro H ls locs pc h' ad' v cells slots hret hq hext hsim hwf hS1 hc hs
  refine W.widen (k := mc) (n := ms) hc hs ?_
  have hlocks := B0.notSynchronized
  have hQ : ∀ t : State, t.heap = H → s.WarmedH t.vm → mQc g ad h Q (vs.map (mco ad)).toArray s (.returned (v.map (mco ad'))) t := fun t ht hW => ⟨⟨v, h', ad', rfl, hq, hext, by rw [ht]; exact hsim, hwf⟩, hS1.F ht⟩
  rcases v with _ | (x | x | r)
  · exact W.vret B0.exec B0.bytes (B0.returns.trans hret.1) hQ hS1.2.2 hret.2
  · obtain ⟨h1, ty, h2, h3⟩ := hret
    exact W.zret B0.exec B0.bytes (B0.returns.trans h2) h3 hQ hS1.2.2 h1
  · exact hret.elim
  · obtain ⟨h1, ty, h2, h3⟩ := hret
    exact W.aret B0.exec B0.bytes (B0.returns.trans h2) h3 (by cases r with
      | none => exact Or.inl rfl
      | some r => exact Or.inr ⟨_, rfl⟩) hQ hS1.2.2 h1
theorem mgood : ∀ w ∈ mTb, goodWord w = true := fun w hw => (List.mem_filter.mp hw).2
theorem mgoodIn {ws : List Cond} (h : ∀ w ∈ ws, w ∈ mTb) : GoodIn mTb ws := fun w hw => ⟨h w hw, good_of_word (mgood w (h w hw))⟩
theorem mcat_sum (ad : Nat → Nat → Nat) : ∀ st : List mV, ((st.map (mco ad)).map fun v => v.category).sum ≤ 2 * st.length
  | [] => Nat.le_refl _
  | v :: st => by
    have := mcat_sum ad st
    have h2 := lv_cat (mco ad v)
    simp only [List.map_cons, List.sum_cons, List.length_cons]
    omega
theorem mOld.warm {g : mG} {s U : State} {H : Heap} {locs : List Loc} (h : mOld g s s.heap) (hS : va_S (mA g) s.heap H locs) (hvm : s.vm.Alike U.vm) : mOld g U H := by
  obtain ⟨a1, a2, ⟨cell, b1, b2, b3, b4⟩, a4, a5, a6, a7, a8, a9, a10⟩ := h
  have hk : ∀ q : Nat, q < g.2.2.2.1.2.2.1 → H[q]? = s.heap[q]? := fun q hq => hS.2.1 q (Nat.lt_of_lt_of_le hq a6) (Nat.not_le.mpr hq)
  exact ⟨(a1.kept fun q h1 h2 => hS.2.1 q h1 h2).moved hvm, (a2.kept (hk _ a4)).moved hvm, ⟨cell, by rw [hk _ a5]; exact b1, State.isArrayOf_alike hvm b2, b3, b4⟩, a4, a5, Nat.le_trans a6 hS.1, va_Mi.moved hvm a7, fun k hk => va_tabs rfl (rfl : (s.setVm U.vm).vm = U.vm) (by rw [Cond.castable_setVm hvm]; exact a8 k hk), a9.moved hvm, a10.moved hvm⟩
theorem mPU_blind (g : mG) (ad : Nat → Nat → Nat) (h : mH) (as : List Value) : FrameBlind (va_Pc as (mPU g ad h)) := by
  intro a U gg mk ⟨q1, q2, q3, q4⟩
  exact ⟨q1, mOld.warm (locs := []) q2 va_S.rf (U := U.calling gg mk a) (Vm.Alike.refl U.vm), va_K.moved (u := U) (U := U.calling gg mk a) (Vm.Alike.refl U.vm) q3, q4⟩
theorem mco_ext {h h' : mH} {ad ad' : Nat → Nat → Nat} (hx : mExt h ad h' ad') {v : mV} (hw : mwf h v) : mco ad' v = mco ad v ∧ mwf h' v := by
  rcases v with x | x | r | r
  · exact ⟨rfl, trivial⟩
  · exact ⟨rfl, trivial⟩
  · exact ⟨rfl, trivial⟩
  · obtain ⟨h1, h2⟩ := hx r.1 r.2 hw
    exact ⟨congrArg Value.ref h2, h1⟩
/-- behind a call -/
theorem mX.called {g : mG} {m : mMe} {d mc ms mc' ms' : Nat} {L : List (Option mV)} {st st0 : List mV} {h h' : mH} {p : Program} {R : Room} {s : State} {mi : MethodId} {args : Array Value} {meth : Method} {c : Code} {H H1 : Heap} {ls : Array Slot} {locs L1 : List Loc} {cells slots : Nat} {ad ad' ad0 : Nat → Nat → Nat} {h0 : mH}
    (X : mX g m d mc ms L st0 h p R s mi args meth c H ls locs cells slots ad ad0 h0) (h1 : mc' ≤ mc) (h2 : ms' ≤ ms) (hx : mExt h ad h' ad') (hS : mSim g ad' h' H1) (hst : ∀ v ∈ st, mwf h' v) (hz : H.size ≤ H1.size) (hk : ∀ q : Nat, q < H.size → ¬ mA g q → H1[q]? = H[q]?) (hL : ∀ q ∈ L1, mA g q.base) :
    mX g m d (mc - mc') (ms - ms') L st h' p R s mi args meth c H1 ls (locs ++ L1) (cells + mc') (slots + ms') ad' ad0 h0 := by
  refine ⟨X.1, ⟨X.2.1.1, X.2.1.2.1, by have := X.2.1.2.2.1; omega, by have := X.2.1.2.2.2; omega⟩, X.2.2.1, ⟨fun k n hn => ?_, hS⟩, ⟨⟨X.2.2.2.2.1.1.1, X.2.2.2.2.1.1.2.1, X.2.2.2.2.1.1.2.2.1, fun i v hi => ?_⟩, hst⟩, ⟨Nat.le_trans X.2.2.2.2.2.1 hz, fun q q1 q2 => ?_, fun q hq => ?_⟩⟩
  · obtain ⟨a1, a2⟩ := X.2.2.2.1.1 k n hn
    obtain ⟨b1, b2⟩ := hx k n a1
    exact ⟨b1, b2.trans a2⟩
  · obtain ⟨a1, a2⟩ := X.2.2.2.2.1.1.2.2.2 i v hi
    obtain ⟨b1, b2⟩ := mco_ext hx a2
    exact ⟨by rw [b1]; exact a1, b2⟩
  · rw [hk q (Nat.lt_of_lt_of_le q1 X.2.2.2.2.2.1) q2]
    exact X.2.2.2.2.2.2.1 q q1 q2
  · rcases List.mem_append.mp hq with a | a
    · exact X.2.2.2.2.2.2.2 q a
    · exact hL q a
section TR
variable {g : mG} {m : mMe} {d mc ms pc : Nat} {L : List (Option mV)} {st : List mV} {h : mH} {Q : Option mV → mH → Prop}
/-- from a run of the callee to the walk behind it -/
theorem tr_run {y : mMe} {mc' ms' : Nat} {st0 : List mV} {Qk : Option mV → mH → Prop} (h1 : mc' ≤ mc) (h2 : ms' ≤ ms)
    (kk : ∀ v h', Qk v h' → mT g m d (mc - mc') (ms - ms') (pc + 3) L (v.toList ++ st) h' Q)
    {p : Program} {R : Room} {e : Env} {s : State} {mi : MethodId} {args : Array Value} {below : List Frame} {meth : Method} {c : Code} {H : Heap} {ls : Array Slot} {locs : List Loc} {cells slots : Nat} {ad ad0 : Nat → Nat → Nat} {h0 : mH} {Qf : State → Prop}
    (X : mX g m d mc ms L st0 h p R s mi args meth c H ls locs cells slots ad ad0 h0) (E : mEnd g m Q p R e s mi args below meth c ad0 h0 Qf) (hst : ∀ v ∈ st, mwf h v) {a : Array Value}
    (hr : va_Run p g.1 e R s mi args below meth c H locs cells slots mc' ms' (F0 mi pc ls (st0.map (mco ad))) (st.map (mco ad)) (mQc g ad h Qk a) (mA g)) :
    W p g.1 e R s mi args below meth c H locs cells slots Qf (F0 mi pc ls (st0.map (mco ad))) := by
  intro T hT X'
  obtain ⟨v, st₀, t, T', L', hh, X2, hL, e1, e2, ⟨⟨v', h', ad', hv, hQ, hext, hsim, hwf⟩, hF⟩, hgo⟩ := hr T hT X'
  cases hv
  have hst' : ∀ w ∈ v'.toList ++ st, mwf h' w := by
    intro w hw
    rcases List.mem_append.mp hw with hw | hw
    · exact hwf w (Option.mem_toList.mp hw)
    · exact (mco_ext hext (hst w hw)).2
  have hst2 : (v'.toList ++ st).map (mco ad') = (v'.map (mco ad')).toList ++ st.map (mco ad) := by
    rw [List.map_append]
    congr 1
    · cases v' <;> rfl
    · exact List.map_congr_left fun w hw => (mco_ext hext (hst w hw)).1
  have k1 := (kk v' h' hQ).use (X.called h1 h2 hext (by rw [e1]; exact hsim : mSim g ad' h' T'.heap) hst' (by rw [← hh, e1]; exact hF.1) (fun q q1 q2 => by rw [e1, ← hh]; exact hF.2 q (by rw [hh]; exact q1) q2) hL) E
  rw [hst2] at k1
  obtain ⟨t2, a1, b1⟩ := k1 T' rfl X2
  exact ⟨t2, hgo t2 a1, b1⟩
/-- what the tables say of a callee -/
def mCal (y : mMe) : Prop := plainFor y.1 = true ∧ (y.1.cls ≠ "java/lang/invoke/MethodHandle" ∧ y.1.cls ≠ "java/lang/invoke/VarHandle") ∧ y.2.2.1 ≤ 20 ∧ Cond.code y.1 y.2.1 y.2.2.1 y.2.2.2 ∈ mTb ∧ Cond.initialized y.1.cls ∈ mTb
theorem tr_callV {y : mMe} {idx k b d' mc' ms' : Nat} (vs : List mV) {Qk : Option mV → mH → Prop} (hc : decode m.2.1 pc = .ok (.invokevirtual idx, 3)) (C : mCal y) (hl : Cond.methodLink m.1.cls idx y.1 ∈ mTb) (hi : Cond.instanceMethod y.1 ∈ mTb ∧ Cond.selects y.1.cls y.1 y.1 ∈ mTb) (hk : k < 11 ∧ (mkd k).1 = y.1.cls)
    (hp : (parseMethodDescriptor y.1.desc).map (fun d => d.parameters.length) = some vs.length) (hd : d' < d) (h1 : mc' ≤ mc) (h2 : ms' ≤ ms) (hv : vs.all mc1 = true) (hn : vs.length + 1 ≤ y.2.2.1) (hs : st.length ≤ 4)
    (B : mT g y d' mc' ms' 0 (margs (vr k b :: vs) y.2.2.1) [] h Qk) (kk : ∀ v h', Qk v h' → mT g m d (mc - mc') (ms - ms') (pc + 3) L (v.toList ++ st) h' Q) : mT g m d mc ms pc L (vs.reverse ++ vr k b :: st) h Q := by
  intro p R e s mi args below meth c H ls locs cells slots ad ad0 h0 Qf X E
  have hw := X.2.2.2.2.1.2
  have hst : ∀ v ∈ st, mwf h v := fun v q => hw v (List.mem_append_right _ (List.mem_cons_of_mem _ q))
  have hb : mwf h (vr k b) := hw _ (List.mem_append_right _ List.mem_cons_self)
  have hvs : ∀ v ∈ vs, mwf h v := fun v q => hw v (List.mem_append_left _ (List.mem_reverse.mpr q))
  have hall : ∀ v ∈ vr k b :: vs, mc1 v = true := List.forall_mem_cons.mpr ⟨rfl, List.all_eq_true.mp hv⟩
  have hM := B.met C.1 hall (by simpa using hn) ad (List.forall_mem_cons.mpr ⟨hb, hvs⟩)
  obtain ⟨ws, ix, S⟩ := X.2.2.2.1.2
  have hin := S.1 k b (by omega) hb
  rw [ment_o hk.1] at hin
  have hts := X.1.2.2.2.2.1
  refine tr_run (y := y) h1 h2 kk X E hst (va_runV (As := vs.map (mco ad)) (n := vs.length) (C := y.1.cls) ⟨X.1.1, X.1.2.1, X.1.2.2.1, X.1.2.2.2.1, hts⟩ hM (cwV vs.length hts (mgoodIn ?_) rfl rfl rfl ⟨rfl, C.2.1.1, C.2.1.2, hp⟩ ⟨?_, ?_⟩) ⟨mPU_blind _ _ _ _, ?_, fun U hU hW => ⟨rfl, ?_, va_K.moved hW.alike X.2.2.1.2, by rw [hU]; exact X.2.2.2.1.2⟩⟩ rfl (by rw [List.length_map]) X.2.2.2.2.1.1.2.1 ?_ (lv_room ?_) hc ⟨?_, ?_⟩)
  · intro w hw
    simp only [wsV, List.cons_append, List.nil_append, List.mem_cons] at hw
    rcases hw with rfl | rfl | rfl | rfl | rfl | hw
    · exact hl
    · exact hi.1
    · exact hi.2
    · exact C.2.2.2.2
    · exact C.2.2.2.1
    · exact hw
  · show d' + 1 ≤ R.frames
    have := X.2.1.1
    omega
  · show 8 + (y.2.2.1 + 11) + 40 * d' ≤ R.locals
    have := X.2.1.2.1
    have := C.2.2.1
    omega
  · have := va_recv X.2.2.1.2 S.2.2.1 (mcl_at hk.1) hin
    rw [hk.2] at this
    exact this
  · rw [hU]
    exact X.2.2.1.1.warm X.2.2.2.2.2 hW.alike
  · show (vs.reverse ++ vr k b :: st).map (mco ad) = _
    rw [List.map_append, List.map_reverse]
    rfl
  · have := mcat_sum ad st
    omega
  · have := X.2.1.2.2.1
    omega
  · have := X.2.1.2.2.2
    omega
theorem tr_callI {y : mMe} {idx k b d' mc' ms' : Nat} (vs : List mV) {Qk : Option mV → mH → Prop} (hc : decode m.2.1 pc = .ok (.invokespecial idx, 3)) (C : mCal y) (hl : Cond.methodLink m.1.cls idx y.1 ∈ mTb) (hi : Cond.instanceMethod y.1 ∈ mTb ∧ y.1.name = "<init>" ∧ y.2.2.2 = none)
    (hp : (parseMethodDescriptor y.1.desc).map (fun d => d.parameters.length) = some vs.length) (hd : d' < d) (h1 : mc' ≤ mc) (h2 : ms' ≤ ms) (hv : vs.all mc1 = true) (hn : vs.length + 1 ≤ y.2.2.1) (hs : st.length ≤ 4)
    (B : mT g y d' mc' ms' 0 (margs (vr k b :: vs) y.2.2.1) [] h Qk) (kk : ∀ v h', Qk v h' → mT g m d (mc - mc') (ms - ms') (pc + 3) L (v.toList ++ st) h' Q) : mT g m d mc ms pc L (vs.reverse ++ vr k b :: st) h Q := by
  intro p R e s mi args below meth c H ls locs cells slots ad ad0 h0 Qf X E
  have hw := X.2.2.2.2.1.2
  have hst : ∀ v ∈ st, mwf h v := fun v q => hw v (List.mem_append_right _ (List.mem_cons_of_mem _ q))
  have hb : mwf h (vr k b) := hw _ (List.mem_append_right _ List.mem_cons_self)
  have hvs : ∀ v ∈ vs, mwf h v := fun v q => hw v (List.mem_append_left _ (List.mem_reverse.mpr q))
  have hall : ∀ v ∈ vr k b :: vs, mc1 v = true := List.forall_mem_cons.mpr ⟨rfl, List.all_eq_true.mp hv⟩
  have hM := B.met C.1 hall (by simpa using hn) ad (List.forall_mem_cons.mpr ⟨hb, hvs⟩)
  have hts := X.1.2.2.2.2.1
  have hcode := C.2.2.2.1
  rw [hi.2.2] at hM hcode
  refine tr_run (y := y) h1 h2 kk X E hst (va_runI (As := vs.map (mco ad)) (n := vs.length) ⟨X.1.1, X.1.2.1, X.1.2.2.1, X.1.2.2.2.1, hts⟩ hM (cwI vs.length hts (mgoodIn ?_) rfl rfl rfl (hts _ C.2.2.2.2) (hts _ hl) (hts _ hi.1) hi.2.1 ⟨C.2.1.1, C.2.1.2, hp⟩ ⟨?_, ?_⟩) ⟨mPU_blind _ _ _ _, fun U hU hW => ⟨rfl, ?_, va_K.moved hW.alike X.2.2.1.2, by rw [hU]; exact X.2.2.2.1.2⟩⟩ rfl (by rw [List.length_map]) X.2.2.2.2.1.1.2.1 ?_ (lv_room ?_) hc ⟨?_, ?_⟩)
  · intro w hw
    rcases List.mem_cons.mp hw with rfl | hw
    · exact hcode
    · exact hw
  · show d' + 1 ≤ R.frames
    have := X.2.1.1
    omega
  · show 8 + (y.2.2.1 + 11) + 40 * d' ≤ R.locals
    have := X.2.1.2.1
    have := C.2.2.1
    omega
  · rw [hU]
    exact X.2.2.1.1.warm X.2.2.2.2.2 hW.alike
  · show (vs.reverse ++ vr k b :: st).map (mco ad) = _
    rw [List.map_append, List.map_reverse]
    rfl
  · have := mcat_sum ad st
    omega
  · have := X.2.1.2.2.1
    omega
  · have := X.2.1.2.2.2
    omega
theorem tr_callS {y : mMe} {idx d' mc' ms' : Nat} (vs : List mV) {Qk : Option mV → mH → Prop} (hc : decode m.2.1 pc = .ok (.invokestatic idx, 3)) (C : mCal y) (hl : Cond.methodLink m.1.cls idx y.1 ∈ mTb) (hi : Cond.static y.1 ∈ mTb)
    (hp : (parseMethodDescriptor y.1.desc).map (fun d => d.parameters.length) = some vs.length) (hd : d' < d) (h1 : mc' ≤ mc) (h2 : ms' ≤ ms) (hv : vs.all mc1 = true) (hn : vs.length ≤ y.2.2.1) (hs : st.length ≤ 4)
    (B : mT g y d' mc' ms' 0 (margs vs y.2.2.1) [] h Qk) (kk : ∀ v h', Qk v h' → mT g m d (mc - mc') (ms - ms') (pc + 3) L (v.toList ++ st) h' Q) : mT g m d mc ms pc L (vs.reverse ++ st) h Q := by
  intro p R e s mi args below meth c H ls locs cells slots ad ad0 h0 Qf X E
  have hw := X.2.2.2.2.1.2
  have hst : ∀ v ∈ st, mwf h v := fun v q => hw v (List.mem_append_right _ q)
  have hvs : ∀ v ∈ vs, mwf h v := fun v q => hw v (List.mem_append_left _ (List.mem_reverse.mpr q))
  have hM := B.met C.1 (List.all_eq_true.mp hv) hn ad hvs
  have hts := X.1.2.2.2.2.1
  refine tr_run (y := y) h1 h2 kk X E hst (va_runS (As := vs.map (mco ad)) (n := vs.length) ⟨X.1.1, X.1.2.1, X.1.2.2.1, X.1.2.2.2.1, hts⟩ hM (va_cwS vs.length hts (mgoodIn ?_) rfl rfl rfl ⟨C.2.1.1, C.2.1.2, hp⟩ ⟨?_, ?_⟩) ⟨mPU_blind _ _ _ _, fun U hU hW => ⟨rfl, ?_, va_K.moved hW.alike X.2.2.1.2, by rw [hU]; exact X.2.2.2.1.2⟩⟩ rfl (by rw [List.length_map]) X.2.2.2.2.1.1.2.1 ?_ (lv_room ?_) hc ⟨?_, ?_⟩)
  · intro w hw
    simp only [va_wsS, List.cons_append, List.nil_append, List.mem_cons] at hw
    rcases hw with rfl | rfl | rfl | rfl | hw
    · exact hl
    · exact hi
    · exact C.2.2.2.2
    · exact C.2.2.2.1
    · exact hw
  · show d' + 1 ≤ R.frames
    have := X.2.1.1
    omega
  · show 8 + (y.2.2.1 + 11) + 40 * d' ≤ R.locals
    have := X.2.1.2.1
    have := C.2.2.1
    omega
  · rw [hU]
    exact X.2.2.1.1.warm X.2.2.2.2.2 hW.alike
  · show (vs.reverse ++ st).map (mco ad) = _
    rw [List.map_append, List.map_reverse]
  · have := mcat_sum ad st
    omega
  · have := X.2.1.2.2.1
    omega
  · have := X.2.1.2.2.2
    omega
end TR
