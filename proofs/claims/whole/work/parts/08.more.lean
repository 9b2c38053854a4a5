/-! rules: casts, statics, constants, Math, comparing pointers, Object's constructor, copying rows -/
/-- pointers whose addresses tell them apart -/
def mAp (a b : Nat × Nat) : Prop := (a.1 < 14 ∧ b.1 < 14) ∨ (a.1 < 14 ∧ b.1 = 15) ∨ (a.1 = 15 ∧ b.1 < 14) ∨ (a.1 = b.1 ∧ (a.1 = 15 ∨ a.1 = 16))
theorem mAp.inj {g : mG} {ad : Nat → Nat → Nat} {h : mH} {H : Heap} {ws : va_W} {ix : Nat → Nat → Nat} {s : State} {H0 : Heap} (S : mSm g ad h H ws ix) (O : mOld g s H0) {a b : Nat × Nat} (hp : mAp a b) (ha : a.2 < hC h a.1) (hb : b.2 < hC h b.1) (he : ad a.1 a.2 = ad b.1 b.2) : a = b := by
  obtain ⟨k, n⟩ := a
  obtain ⟨k', n'⟩ := b
  dsimp only at *
  obtain ⟨⟨a1, a2, a3, a4, a5, a6, a7, a8, a9⟩, b, c⟩ := S.2.2.2.2
  have hlow : ∀ k n, k < 14 → n < hC h k → g.2.2.2.1.2.2.1 ≤ ad k n := fun k n h1 h2 => S.2.2.2.1.2 _ _ (S.1 k n h1 h2)
  rcases hp with ⟨h1, h2⟩ | ⟨h1, h2⟩ | ⟨h1, h2⟩ | ⟨h1, h2⟩
  · have := S.2.2.2.1.1 _ _ _ _ (S.1 k n h1 ha) (S.1 k' n' h2 hb) he
    obtain ⟨e1, e2⟩ := S.2.1 k n k' n' h1 ha h2 hb this
    rw [e1, e2]
  · dsimp only at h1 h2
    subst h2
    have : n' = 0 := by omega
    subst this
    have := hlow k n h1 ha
    have := O.2.2.2.2.1
    omega
  · dsimp only at h1 h2
    subst h1
    have : n = 0 := by omega
    subst this
    have := hlow k' n' h2 hb
    have := O.2.2.2.2.1
    omega
  · dsimp only at h1 h2
    subst h1
    rcases h2 with rfl | rfl
    · have : n = n' := by omega
      rw [this]
    · have : n = n' := by omega
      rw [this]
theorem mco_vp (ad : Nat → Nat → Nat) (r : Option (Nat × Nat)) : mco ad (vp r) = va_rf (r.map fun r => ad r.1 r.2) := by cases r <;> rfl
theorem mAp.opt {g : mG} {ad : Nat → Nat → Nat} {h : mH} {H : Heap} {ws : va_W} {ix : Nat → Nat → Nat} {s : State} {H0 : Heap} (S : mSm g ad h H ws ix) (O : mOld g s H0) {r r' : Option (Nat × Nat)} (hp : ∀ a b, r = some a → r' = some b → mAp a b) (ha : mwf h (vp r)) (hb : mwf h (vp r')) : (r.map fun r => ad r.1 r.2) = (r'.map fun r => ad r.1 r.2) ↔ r = r' := by
  constructor
  · intro he
    cases r <;> cases r'
    · rfl
    · cases he
    · cases he
    · exact congrArg some ((hp _ _ rfl rfl).inj S O ha hb (Option.some.inj he))
  · rintro rfl
    rfl
set_option maxRecDepth 100000 in
theorem mMathW : Cond.static Lib.Math.max.name ∈ mTb ∧ Cond.static Lib.Math.min.name ∈ mTb ∧ Cond.static Lib.Math.abs.name ∈ mTb ∧ Cond.initialized "java/lang/Math" ∈ mTb ∧ Cond.code Lib.Math.max.name Lib.Math.max.code 2 (some .int) ∈ mTb ∧ Cond.code Lib.Math.min.name Lib.Math.min.code 2 (some .int) ∈ mTb ∧ Cond.code Lib.Math.abs.name Lib.Math.abs.code 1 (some .int) ∈ mTb := by decide +kernel
set_option maxRecDepth 100000 in
theorem mObjW : Cond.instanceMethod Lib.objectInit ∈ mTb ∧ Cond.code Lib.objectInit ⟨#[0xb1]⟩ 1 none ∈ mTb := by decide +kernel
set_option maxRecDepth 100000 in
theorem mCpyW : Cond.native arraycopyName ∈ mTb ∧ Cond.static arraycopyName ∈ mTb ∧ Cond.initialized "java/lang/System" ∈ mTb ∧ Cond.selects "[Ljava/lang/Object;" ⟨"java/lang/Object", "getClass", "()Ljava/lang/Class;"⟩ ⟨"java/lang/Object", "getClass", "()Ljava/lang/Class;"⟩ ∈ mTb ∧ Cond.instanceMethod ⟨"java/lang/Object", "getClass", "()Ljava/lang/Class;"⟩ ∈ mTb ∧ Cond.native ⟨"java/lang/Object", "getClass", "()Ljava/lang/Class;"⟩ ∈ mTb := by decide +kernel
section TR
variable {g : mG} {m : mMe} {d mc ms pc : Nat} {L : List (Option mV)} {st : List mV} {h : mH} {Q : Option mV → mH → Prop}
theorem tr_cast {k n idx : Nat} (hc : decode m.2.1 pc = .ok (.checkcast idx, 3)) (hk : k < 11) (hl : Cond.classLink m.1.cls idx (mkd k).1 ∈ mTb) (kk : mT g m d mc ms (pc + 3) L (vr k n :: st) h Q) : mT g m d mc ms pc L (vr k n :: st) h Q := by
  intro p R e s mi args below meth c H ls locs cells slots ad ad0 h0 Qf X E
  have hst := List.forall_mem_cons.mp X.2.2.2.2.1.2
  obtain ⟨ws, ix, S⟩ := X.2.2.2.1.2
  have hin := S.1 k n (by omega) hst.1
  rw [ment_o hk] at hin
  exact va_castS X.1.1 X.1.2.1 X.1.2.2.2.1 (X.1.2.2.2.2.1 _ hl) (X.2.2.1.2.1 k _ (mcl_at hk)).2 (va_recv X.2.2.1.2 S.2.2.1 (mcl_at hk) hin) hc (kk.use (X.to X.2.2.2.2.1.1 X.2.2.2.2.1.2) E)
theorem tr_gets {idx : Nat} (hc : decode m.2.1 pc = .ok (.getstatic idx, 3)) (hl : Cond.fieldLink m.1.cls idx "java/util/ArrayList" "DEFAULTCAPACITY_EMPTY_ELEMENTDATA" "[Ljava/lang/Object;" ∈ mTb) (kk : mT g m d mc ms (pc + 3) L (vr 15 0 :: st) h Q) : mT g m d mc ms pc L st h Q := by
  intro p R e s mi args below meth c H ls locs cells slots ad ad0 h0 Qf X E
  obtain ⟨ws, ix, S⟩ := X.2.2.2.1.2
  obtain ⟨⟨a1, a2, a3, a4, a5, a6, a7, a8, a9⟩, b, c⟩ := S.2.2.2.2
  have kk' := kk.use (X.to X.2.2.2.2.1.1 (List.forall_mem_cons.mpr ⟨(by rw [a4]; exact Nat.one_pos : 0 < hC h 15), X.2.2.2.2.1.2⟩)) E
  have e3 : mco ad (vr 15 0) = .ref g.2.2.2.1.2.1 := congrArg Value.ref a2
  rw [List.map_cons, e3] at kk'
  exact va_gets X.1.1 X.1.2.1 X.2.2.1.1.1 X.2.2.2.2.2 X.1.2.2.2.1 (X.1.2.2.2.2.1 _ hl) (fun x hx => hx) hc kk'
theorem tr_ldc {idx : Nat} {v : Int32} (hc : decode m.2.1 pc = .ok (.ldc idx, 2)) (hl : Cond.constant m.1.cls idx v ∈ mTb) (kk : mT g m d mc ms (pc + 2) L (vi v :: st) h Q) : mT g m d mc ms pc L st h Q := by
  intro p R e s mi args below meth c H ls locs cells slots ad ad0 h0 Qf X E
  exact lv_ldc X.1.1 X.1.2.1 X.1.2.2.2.1 (X.1.2.2.2.2.1 _ hl) hc (kk.use (X.to X.2.2.2.2.1.1 (List.forall_mem_cons.mpr ⟨trivial, X.2.2.2.2.1.2⟩)) E)
theorem tr_ldcw {idx : Nat} {v : Int32} (hc : decode m.2.1 pc = .ok (.ldc_w idx, 3)) (hl : Cond.constant m.1.cls idx v ∈ mTb) (kk : mT g m d mc ms (pc + 3) L (vi v :: st) h Q) : mT g m d mc ms pc L st h Q := by
  intro p R e s mi args below meth c H ls locs cells slots ad ad0 h0 Qf X E
  exact lv_ldcw X.1.1 X.1.2.1 X.1.2.2.2.1 (X.1.2.2.2.2.1 _ hl) hc (kk.use (X.to X.2.2.2.2.1.1 (List.forall_mem_cons.mpr ⟨trivial, X.2.2.2.2.1.2⟩)) E)
theorem tr_ldc2 {idx : Nat} {v : Int64} (hc : decode m.2.1 pc = .ok (.ldc2_w idx, 3)) (hl : Cond.constantLong m.1.cls idx v ∈ mTb) (kk : mT g m d mc ms (pc + 3) L (vl v :: st) h Q) : mT g m d mc ms pc L st h Q := by
  intro p R e s mi args below meth c H ls locs cells slots ad ad0 h0 Qf X E
  exact lv_ldc2 X.1.1 X.1.2.1 X.1.2.2.2.1 (X.1.2.2.2.2.1 _ hl) hc (kk.use (X.to X.2.2.2.2.1.1 (List.forall_mem_cons.mpr ⟨trivial, X.2.2.2.2.1.2⟩)) E)
theorem tr_max {idx : Nat} {x y : Int32} (hc : decode m.2.1 pc = .ok (.invokestatic idx, 3)) (hl : Cond.methodLink m.1.cls idx Lib.Math.max.name ∈ mTb) (hd : 1 ≤ d) (hs : st.length ≤ 6) (kk : mT g m d mc ms (pc + 3) L (vi (if x < y then y else x) :: st) h Q) : mT g m d mc ms pc L (vi y :: vi x :: st) h Q := by
  intro p R e s mi args below meth c H ls locs cells slots ad ad0 h0 Qf X E
  have hts := X.1.2.2.2.2.1
  have hst := (List.forall_mem_cons.mp (List.forall_mem_cons.mp X.2.2.2.2.1.2).2).2
  have := mcat_sum ad st
  have := X.2.1
  exact va_mmax X.1.1 X.1.2.1 (X.1.2.2.1.trans X.2.2.2.2.1.1.2.1.symm) X.1.2.2.2.1 (hts _ hl) (hts _ mMathW.1) (hts _ mMathW.2.2.2.1) (hts _ mMathW.2.2.2.2.1) (by omega) (by omega) (by omega) (by omega) hc (kk.use (X.to X.2.2.2.2.1.1 (List.forall_mem_cons.mpr ⟨trivial, hst⟩)) E)
theorem tr_min {idx : Nat} {x y : Int32} (hc : decode m.2.1 pc = .ok (.invokestatic idx, 3)) (hl : Cond.methodLink m.1.cls idx Lib.Math.min.name ∈ mTb) (hd : 1 ≤ d) (hs : st.length ≤ 6) (kk : mT g m d mc ms (pc + 3) L (vi (if y < x then y else x) :: st) h Q) : mT g m d mc ms pc L (vi y :: vi x :: st) h Q := by
  intro p R e s mi args below meth c H ls locs cells slots ad ad0 h0 Qf X E
  have hts := X.1.2.2.2.2.1
  have hst := (List.forall_mem_cons.mp (List.forall_mem_cons.mp X.2.2.2.2.1.2).2).2
  have := mcat_sum ad st
  have := X.2.1
  exact va_mmin X.1.1 X.1.2.1 (X.1.2.2.1.trans X.2.2.2.2.1.1.2.1.symm) X.1.2.2.2.1 (hts _ hl) (hts _ mMathW.2.1) (hts _ mMathW.2.2.2.1) (hts _ mMathW.2.2.2.2.2.1) (by omega) (by omega) (by omega) (by omega) hc (kk.use (X.to X.2.2.2.2.1.1 (List.forall_mem_cons.mpr ⟨trivial, hst⟩)) E)
theorem tr_abs {idx : Nat} {x : Int32} (hc : decode m.2.1 pc = .ok (.invokestatic idx, 3)) (hl : Cond.methodLink m.1.cls idx Lib.Math.abs.name ∈ mTb) (hd : 1 ≤ d) (hs : st.length ≤ 6) (kk : mT g m d mc ms (pc + 3) L (vi (if 0 ≤ x then x else 0 - x) :: st) h Q) : mT g m d mc ms pc L (vi x :: st) h Q := by
  intro p R e s mi args below meth c H ls locs cells slots ad ad0 h0 Qf X E
  have hts := X.1.2.2.2.2.1
  have hst := (List.forall_mem_cons.mp X.2.2.2.2.1.2).2
  have := mcat_sum ad st
  have := X.2.1
  exact va_mabs X.1.1 X.1.2.1 (X.1.2.2.1.trans X.2.2.2.2.1.1.2.1.symm) X.1.2.2.2.1 (hts _ hl) (hts _ mMathW.2.2.1) (hts _ mMathW.2.2.2.1) (hts _ mMathW.2.2.2.2.2.2) (by omega) (by omega) (by omega) (by omega) hc (kk.use (X.to X.2.2.2.2.1.1 (List.forall_mem_cons.mpr ⟨trivial, hst⟩)) E)
theorem tr_acmp_eq {r r' : Option (Nat × Nat)} {off : Int} (tgt : Nat) (hc : decode m.2.1 pc = .ok (.if_acmp .eq off, 3)) (ht : (pc : Int) + off = (tgt : Int)) (hp : ∀ a b, r = some a → r' = some b → mAp a b) (kt : r = r' → mT g m d mc ms tgt L st h Q) (kf : ¬ r = r' → mT g m d mc ms (pc + 3) L st h Q) : mT g m d mc ms pc L (vp r' :: vp r :: st) h Q := by
  intro p R e s mi args below meth c H ls locs cells slots ad ad0 h0 Qf X E
  have h1 := List.forall_mem_cons.mp X.2.2.2.2.1.2
  have h2 := List.forall_mem_cons.mp h1.2
  obtain ⟨ws, ix, S⟩ := X.2.2.2.1.2
  have hi := mAp.opt S X.2.2.1.1 hp h2.1 h1.1
  show W p g.1 e R s mi args below meth _ H locs cells slots Qf (F0 mi pc ls (mco ad (vp r') :: mco ad (vp r) :: st.map (mco ad)))
  rw [mco_vp, mco_vp]
  exact lv_acmp_eq X.1.1 X.1.2.1 hc ht (fun q => (kt (hi.mp q)).use (X.to X.2.2.2.2.1.1 h2.2) E) (fun q => (kf (fun z => q (hi.mpr z))).use (X.to X.2.2.2.2.1.1 h2.2) E)
theorem tr_acmp_ne {r r' : Option (Nat × Nat)} {off : Int} (tgt : Nat) (hc : decode m.2.1 pc = .ok (.if_acmp .ne off, 3)) (ht : (pc : Int) + off = (tgt : Int)) (hp : ∀ a b, r = some a → r' = some b → mAp a b) (kt : ¬ r = r' → mT g m d mc ms tgt L st h Q) (kf : r = r' → mT g m d mc ms (pc + 3) L st h Q) : mT g m d mc ms pc L (vp r' :: vp r :: st) h Q := by
  intro p R e s mi args below meth c H ls locs cells slots ad ad0 h0 Qf X E
  have h1 := List.forall_mem_cons.mp X.2.2.2.2.1.2
  have h2 := List.forall_mem_cons.mp h1.2
  obtain ⟨ws, ix, S⟩ := X.2.2.2.1.2
  have hi := mAp.opt S X.2.2.1.1 hp h2.1 h1.1
  show W p g.1 e R s mi args below meth _ H locs cells slots Qf (F0 mi pc ls (mco ad (vp r') :: mco ad (vp r) :: st.map (mco ad)))
  rw [mco_vp, mco_vp]
  exact lv_acmp_ne X.1.1 X.1.2.1 hc ht (fun q => (kt (fun z => q (hi.mpr z))).use (X.to X.2.2.2.2.1.1 h2.2) E) (fun q => (kf (hi.mp q)).use (X.to X.2.2.2.2.1.1 h2.2) E)
theorem tr_obj {k n idx : Nat} (hc : decode m.2.1 pc = .ok (.invokespecial idx, 3)) (hl : Cond.methodLink m.1.cls idx Lib.objectInit ∈ mTb) (hd : 1 ≤ d) (hs : st.length ≤ 4) (kk : mT g m d mc ms (pc + 3) L st h Q) : mT g m d mc ms pc L (vr k n :: st) h Q := by
  intro p R e s mi args below meth c H ls locs cells slots ad ad0 h0 Qf X E
  have hts := X.1.2.2.2.2.1
  have hst := (List.forall_mem_cons.mp X.2.2.2.2.1.2).2
  have h1 := mcat_sum ad st
  have h2 := X.2.1
  have h3 : 2 * (F0 mi pc ls (mco ad (vr k n) :: st.map (mco ad))).monitorRoom + ((st.map (mco ad)).map fun v => v.category).sum ≤ 8 := lv_room (by omega)
  exact W.objInit X.1.1 X.1.2.1 X.1.2.2.2.1 (hts _ hl) (hts _ mObjW.1) (hts _ mObjW.2) rfl (X.2.2.2.2.1.1.2.1.trans X.1.2.2.1.symm) rfl hc (by omega) (Nat.le_trans (Nat.add_le_add_right h3 12) (by omega)) (kk.use (X.to X.2.2.2.2.1.1 hst) E)
theorem tr_getC {n idx : Nat} (hc : decode m.2.1 pc = .ok (.invokevirtual idx, 3)) (hl : Cond.methodLink m.1.cls idx ⟨"java/lang/Object", "getClass", "()Ljava/lang/Class;"⟩ ∈ mTb) (hd : 1 ≤ d) (hs : st.length ≤ 4) (kk : mT g m d mc ms (pc + 3) L (vr 16 0 :: st) h Q) : mT g m d mc ms pc L (vr 13 n :: st) h Q := by
  intro p R e s mi args below meth c H ls locs cells slots ad ad0 h0 Qf X E
  have hts := X.1.2.2.2.2.1
  have hst := List.forall_mem_cons.mp X.2.2.2.2.1.2
  have h1 := mcat_sum ad st
  have h2 := X.2.1
  obtain ⟨ws, ix, S⟩ := X.2.2.2.1.2
  obtain ⟨⟨a1, a2, a3, a4, a5, a6, a7, a8, a9⟩, b, c⟩ := S.2.2.2.2
  have kk' := kk.use (X.to X.2.2.2.2.1.1 (List.forall_mem_cons.mpr ⟨(by rw [a9]; exact Nat.one_pos : 0 < hC h 16), hst.2⟩)) E
  have e3 : mco ad (vr 16 0) = .ref g.2.2.2.1.2.2.2 := congrArg Value.ref a8
  rw [List.map_cons, e3] at kk'
  have hin := S.1 13 n (by omega) hst.1
  have hcell := S.2.2.1 _ _ hin
  obtain ⟨kA, comp, k1, k2, k3, k4⟩ := (X.2.2.1.2.2 2 _ rfl).2
  have O := X.2.2.1.1
  exact va_getC (C := "[Ljava/lang/Object;") X.1.1 X.1.2.1 (X.1.2.2.1.trans X.2.2.2.2.1.1.2.1.symm) X.1.2.2.2.1 (hts _ hl) (va_Dc.use O.2.2.2.2.2.2.2.2.2) (hts _ mCpyW.2.2.2.1) (hts _ mCpyW.2.2.2.2.1) (hts _ mCpyW.2.2.2.2.2) O.2.2.2.2.2.2.1 ⟨_, hcell, rfl, k4⟩ (by omega) (by omega) hc kk'
theorem tr_ldcC {idx : Nat} (hc : decode m.2.1 pc = .ok (.ldc idx, 2)) (hl : Cond.classLink m.1.cls idx "[Ljava/lang/Object;" ∈ mTb) (kk : mT g m d mc ms (pc + 2) L (vr 16 0 :: st) h Q) : mT g m d mc ms pc L st h Q := by
  intro p R e s mi args below meth c H ls locs cells slots ad ad0 h0 Qf X E
  have hts := X.1.2.2.2.2.1
  obtain ⟨ws, ix, S⟩ := X.2.2.2.1.2
  obtain ⟨⟨a1, a2, a3, a4, a5, a6, a7, a8, a9⟩, b, c⟩ := S.2.2.2.2
  have kk' := kk.use (X.to X.2.2.2.2.1.1 (List.forall_mem_cons.mpr ⟨(by rw [a9]; exact Nat.one_pos : 0 < hC h 16), X.2.2.2.2.1.2⟩)) E
  have e3 : mco ad (vr 16 0) = .ref g.2.2.2.1.2.2.2 := congrArg Value.ref a8
  rw [List.map_cons, e3] at kk'
  exact va_ldcM X.1.1 X.1.2.1 X.1.2.2.2.1 (hts _ hl) X.2.2.1.1.2.2.2.2.2.2.1 hc kk'
theorem tr_copy {n0 n1 idx w : Nat} {n : Int32} (hc : decode m.2.1 pc = .ok (.invokestatic idx, 3)) (hl : Cond.methodLink m.1.cls idx arraycopyName ∈ mTb) (hd : 1 ≤ d) (hs : st.length ≤ 4) (hn : ¬ n < 0) (hw : n.toNatClampNeg = w) (h4 : w ≤ hL h 13 n0) (h5 : w ≤ hL h 13 n1) (hel : ∀ i, i < w → ∀ r, hP h 13 n0 i = some r → r.1 < 11)
    (kk : mT g m d mc ms (pc + 3) L st (cpyP h n0 n1 w) Q) : mT g m d mc ms pc L (vi n :: vi 0 :: vr 13 n1 :: vi 0 :: vr 13 n0 :: st) h Q := by
  intro p R e s mi args below meth c H ls locs cells slots ad ad0 h0 Qf X E
  subst hw
  have hts := X.1.2.2.2.2.1
  have w1 := List.forall_mem_cons.mp (List.forall_mem_cons.mp (List.forall_mem_cons.mp X.2.2.2.2.1.2).2).2
  have w2 := List.forall_mem_cons.mp (List.forall_mem_cons.mp w1.2).2
  have h1 := mcat_sum ad st
  have h2 := X.2.1
  obtain ⟨ws, ix, S⟩ := X.2.2.2.1.2
  have i0 := S.1 13 n0 (by omega) w2.1
  have i1 := S.1 13 n1 (by omega) w1.1
  have hcp : va_cpy (mpt ad h n0) (mpt ad h n1) 0 0 n.toNatClampNeg = mpt ad (cpyP h n0 n1 n.toNatClampNeg) n1 := by
    funext j
    show (if 0 ≤ j ∧ j < 0 + n.toNatClampNeg then mpt ad h n0 (0 + (j - 0)) else mpt ad h n1 j) = (if (13:Nat) = 13 ∧ n1 = n1 ∧ j < n.toNatClampNeg then hP h 13 n0 j else hP h 13 n1 j).map fun r => ad r.1 r.2
    by_cases q : j < n.toNatClampNeg
    · rw [if_pos ⟨by omega, by omega⟩, if_pos ⟨rfl, rfl, q⟩, show 0 + (j - 0) = j by omega]
      rfl
    · rw [if_neg (fun z => q (by omega)), if_neg (fun z => q z.2.2)]
      rfl
  refine va_copyM (E0 := "java/lang/Object") (E1 := "java/lang/Object") X.1.1 X.1.2.1 (X.1.2.2.1.trans X.2.2.2.2.1.1.2.1.symm) X.1.2.2.2.1 (hts _ hl) (hts _ mCpyW.1) (hts _ mCpyW.2.1) (hts _ mCpyW.2.2.1) X.2.2.1.2 S.2.2.1 S.2.2.2.1 X.2.2.2.2.2 (ix 13 n0) (ix 13 n1) 2 2 (i0.trans (by rw [ment_q])) (i1.trans (by rw [ment_q])) rfl rfl (by decide) (by decide) hn (by show 0 + _ ≤ _; omega) (by show 0 + _ ≤ _; omega) ?_ (by omega) (by have h9 : nativeFrameWords "java/lang/System" "arraycopy" 5 ≤ 10 := (by decide +kernel); omega) hc fun H1 locs1 P1 D1 S1 => ?_
  · intro i hi y hy
    have hy2 : (hP h 13 n0 i).map (fun r => ad r.1 r.2) = some y := by rw [← hy]; show _ = mpt ad h n0 (0 + i); rw [Nat.zero_add]; rfl
    cases hr : hP h 13 n0 i with
    | none => rw [hr] at hy2; cases hy2
    | some r =>
      rw [hr] at hy2
      cases hy2
      exact mAny X.2.2.1.1 X.2.2.1.2 S (hel i hi r hr) (S.2.2.2.2.2.1 _ _ _ _ hr)
  · have hco : mCo g ad (cpyP h n0 n1 n.toNatClampNeg) := by
      obtain ⟨a, b, c⟩ := S.2.2.2.2
      refine ⟨a, ?_, c⟩
      intro k' n' f' r' hr
      by_cases q : k' = 13 ∧ n' = n1 ∧ f' < n.toNatClampNeg
      · have e : hP (cpyP h n0 n1 n.toNatClampNeg) k' n' f' = hP h 13 n0 f' := if_pos q
        rw [e] at hr
        exact b _ _ _ _ hr
      · have e : hP (cpyP h n0 n1 n.toNatClampNeg) k' n' f' = hP h k' n' f' := if_neg q
        rw [e] at hr
        exact b _ _ _ _ hr
    refine kk.use (X.heap (h' := cpyP h n0 n1 n.toNatClampNeg) (fun _ => rfl) (S.set (by omega) w1.1 (by rw [ment_q, ← hcp]; rfl) (fun _ => rfl) (fun k' n' hk' q => ment_congr rfl ?_ rfl hk') hco P1 D1) w2.2 S1) E
    funext f
    exact if_neg (fun z => q ⟨z.1, z.2.1⟩)
end TR
