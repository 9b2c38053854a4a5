/-! rules: locals, stack, numbers, branches -/
def mAs (ad : Nat → Nat → Nat) (L : List (Option mV)) : List (Nat × Value) := L.zipIdx.filterMap fun q => q.1.map fun v => (q.2, mco ad v)
theorem mAs_mem {ad : Nat → Nat → Nat} {L : List (Option mV)} {i : Nat} {w : Value} : (i, w) ∈ mAs ad L ↔ ∃ v, L[i]? = some (some v) ∧ w = mco ad v := by
  unfold mAs
  rw [List.mem_filterMap]
  constructor
  · rintro ⟨⟨o, j⟩, hm, he⟩
    rw [List.mem_zipIdx_iff_getElem?] at hm
    cases o with
    | none => cases he
    | some v =>
      simp only [Option.map_some, Option.some.injEq, Prod.mk.injEq] at he
      obtain ⟨rfl, rfl⟩ := he
      exact ⟨v, hm, rfl⟩
  · rintro ⟨v, hm, rfl⟩
    exact ⟨(some v, i), List.mem_zipIdx_iff_getElem?.mpr hm, rfl⟩
theorem mLoc.has {ad : Nat → Nat → Nat} {h : mH} {n : Nat} {L : List (Option mV)} {ls : Array Slot} (X : mLoc ad h n L ls) : lv_has ls n (mAs ad L) := by
  refine ⟨X.2.1, X.2.2.1, ?_⟩
  rintro ⟨i, w⟩ hq
  obtain ⟨v, hv, rfl⟩ := mAs_mem.mp hq
  exact (X.2.2.2 i v hv).1
/-- no long begins just ahead of this place -/
def mOkS (L : List (Option mV)) : Nat → Bool
  | 0 => true
  | j + 1 => match L[j]? with
    | some (some (.inr (.inl _))) => false
    | _ => true
theorem mco_cat2 {ad : Nat → Nat → Nat} {v : mV} (h : (mco ad v).category = 2) : ∃ x, v = vl x := by
  rcases v with x | x | r | r
  · cases h
  · exact ⟨x, rfl⟩
  · cases h
  · cases h
theorem mLoc.store1 {ad : Nat → Nat → Nat} {h : mH} {n i : Nat} {L : List (Option mV)} {ls ls' : Array Slot} {v : mV} (X : mLoc ad h n L ls) (hi : i < n) (hw : mwf h v) (hk : mOkS L i = true)
    (hs : lv_has ls' n ((i, mco ad v) :: (mAs ad L).filter (fun q => !(q.1 == i) && !(q.1 + 1 == i && q.2.category == 2)))) : mLoc ad h n (L.set i (some v)) ls' := by
  refine ⟨by rw [List.length_set]; exact X.1, hs.1, hs.2.1, ?_⟩
  intro j w hj
  by_cases hji : j = i
  · subst hji
    rw [List.getElem?_set_self (by rw [X.1]; exact hi)] at hj
    cases hj
    exact ⟨hs.2.2 (j, mco ad v) List.mem_cons_self, hw⟩
  · rw [List.getElem?_set_ne (fun q => hji q.symm)] at hj
    refine ⟨hs.2.2 (j, mco ad w) (List.mem_cons_of_mem _ (List.mem_filter.mpr ⟨mAs_mem.mpr ⟨w, hj, rfl⟩, ?_⟩)), (X.2.2.2 j w hj).2⟩
    have h1 : ¬ (j + 1 = i ∧ (mco ad w).category = 2) := by
      rintro ⟨e1, e2⟩
      obtain ⟨x, rfl⟩ := mco_cat2 e2
      subst e1
      simp only [mOkS, hj] at hk
      cases hk
    simp only [Bool.and_eq_true, Bool.not_eq_true', beq_eq_false_iff_ne, ne_eq, Bool.and_eq_false_iff]
    refine ⟨hji, ?_⟩
    by_cases h2 : j + 1 = i
    · exact Or.inr (fun q => h1 ⟨h2, q⟩)
    · exact Or.inl h2
theorem mLoc.store2 {ad : Nat → Nat → Nat} {h : mH} {n i : Nat} {L : List (Option mV)} {ls ls' : Array Slot} {v : mV} (X : mLoc ad h n L ls) (hi : i + 1 < n) (hw : mwf h v) (hk : mOkS L i = true)
    (hs : lv_has ls' n ((i, mco ad v) :: (mAs ad L).filter (fun q => !(q.1 == i) && (!(q.1 == i + 1) && !(q.1 + 1 == i && q.2.category == 2))))) : mLoc ad h n ((L.set i (some v)).set (i + 1) none) ls' := by
  refine ⟨by rw [List.length_set, List.length_set]; exact X.1, hs.1, hs.2.1, ?_⟩
  intro j w hj
  by_cases hj2 : j = i + 1
  · subst hj2
    rw [List.getElem?_set_self (by rw [List.length_set, X.1]; exact hi)] at hj
    cases hj
  rw [List.getElem?_set_ne (fun q => hj2 q.symm)] at hj
  by_cases hji : j = i
  · subst hji
    rw [List.getElem?_set_self (by rw [X.1]; omega)] at hj
    cases hj
    exact ⟨hs.2.2 (j, mco ad v) List.mem_cons_self, hw⟩
  · rw [List.getElem?_set_ne (fun q => hji q.symm)] at hj
    refine ⟨hs.2.2 (j, mco ad w) (List.mem_cons_of_mem _ (List.mem_filter.mpr ⟨mAs_mem.mpr ⟨w, hj, rfl⟩, ?_⟩)), (X.2.2.2 j w hj).2⟩
    have h1 : ¬ (j + 1 = i ∧ (mco ad w).category = 2) := by
      rintro ⟨e1, e2⟩
      obtain ⟨x, rfl⟩ := mco_cat2 e2
      subst e1
      simp only [mOkS, hj] at hk
      cases hk
    simp only [Bool.and_eq_true, Bool.not_eq_true', beq_eq_false_iff_ne, ne_eq, Bool.and_eq_false_iff]
    refine ⟨hji, hj2, ?_⟩
    by_cases h2 : j + 1 = i
    · exact Or.inr (fun q => h1 ⟨h2, q⟩)
    · exact Or.inl h2
section TR
variable {g : mG} {m : mMe} {d mc ms pc : Nat} {L : List (Option mV)} {st : List mV} {h : mH} {Q : Option mV → mH → Prop}
theorem tr_iconst {n : Int} {v : Int32} (hc : decode m.2.1 pc = .ok (.iconst n, 1)) (hv : Int32.ofInt n = v) (kk : mT g m d mc ms (pc + 1) L (vi v :: st) h Q) : mT g m d mc ms pc L (st) h Q := by
  intro p R e s mi args below meth c H ls locs cells slots ad ad0 h0 Qf X E
  exact lv_iconst X.1.1 X.1.2.1 hc hv (kk.use (X.to X.2.2.2.2.1.1 (List.forall_mem_cons.mpr ⟨trivial, X.2.2.2.2.1.2⟩)) E)
theorem tr_bipush {n : Int} {v : Int32} (hc : decode m.2.1 pc = .ok (.bipush n, 2)) (hv : (Int8.ofInt n).toInt32 = v) (kk : mT g m d mc ms (pc + 2) L (vi v :: st) h Q) : mT g m d mc ms pc L (st) h Q := by
  intro p R e s mi args below meth c H ls locs cells slots ad ad0 h0 Qf X E
  exact lv_bipush X.1.1 X.1.2.1 hc hv (kk.use (X.to X.2.2.2.2.1.1 (List.forall_mem_cons.mpr ⟨trivial, X.2.2.2.2.1.2⟩)) E)
theorem tr_sipush {n : Int} {v : Int32} (hc : decode m.2.1 pc = .ok (.sipush n, 3)) (hv : (Int16.ofInt n).toInt32 = v) (kk : mT g m d mc ms (pc + 3) L (vi v :: st) h Q) : mT g m d mc ms pc L (st) h Q := by
  intro p R e s mi args below meth c H ls locs cells slots ad ad0 h0 Qf X E
  exact lv_sipush X.1.1 X.1.2.1 hc hv (kk.use (X.to X.2.2.2.2.1.1 (List.forall_mem_cons.mpr ⟨trivial, X.2.2.2.2.1.2⟩)) E)
theorem tr_lconst {n : Fin 2} {v : Int64} (hc : decode m.2.1 pc = .ok (.lconst n, 1)) (hv : Int64.ofNat (n : Nat) = v) (kk : mT g m d mc ms (pc + 1) L (vl v :: st) h Q) : mT g m d mc ms pc L (st) h Q := by
  intro p R e s mi args below meth c H ls locs cells slots ad ad0 h0 Qf X E
  exact lv_lconst X.1.1 X.1.2.1 hc hv (kk.use (X.to X.2.2.2.2.1.1 (List.forall_mem_cons.mpr ⟨trivial, X.2.2.2.2.1.2⟩)) E)
theorem tr_null  (hc : decode m.2.1 pc = .ok (.aconst_null, 1))  (kk : mT g m d mc ms (pc + 1) L (vn :: st) h Q) : mT g m d mc ms pc L (st) h Q := by
  intro p R e s mi args below meth c H ls locs cells slots ad ad0 h0 Qf X E
  exact lv_null X.1.1 X.1.2.1 hc (kk.use (X.to X.2.2.2.2.1.1 (List.forall_mem_cons.mpr ⟨trivial, X.2.2.2.2.1.2⟩)) E)
theorem tr_iload_n {k : Fin 4} (i : Nat) {x : Int32} (hc : decode m.2.1 pc = .ok (.iload_n k, 1)) (hi : (k : Nat) = i) (hl : L[i]? = some (some (vi x))) (kk : mT g m d mc ms (pc + 1) L (vi x :: st) h Q) : mT g m d mc ms pc L (st) h Q := by
  intro p R e s mi args below meth c H ls locs cells slots ad ad0 h0 Qf X E
  exact lv_iload_n X.1.1 X.1.2.1 hc hi (X.2.2.2.2.1.1.2.2.2 _ _ hl).1 (kk.use (X.to X.2.2.2.2.1.1 (List.forall_mem_cons.mpr ⟨trivial, X.2.2.2.2.1.2⟩)) E)
theorem tr_lload_n {k : Fin 4} (i : Nat) {x : Int64} (hc : decode m.2.1 pc = .ok (.lload_n k, 1)) (hi : (k : Nat) = i) (hl : L[i]? = some (some (vl x))) (kk : mT g m d mc ms (pc + 1) L (vl x :: st) h Q) : mT g m d mc ms pc L (st) h Q := by
  intro p R e s mi args below meth c H ls locs cells slots ad ad0 h0 Qf X E
  exact lv_lload_n X.1.1 X.1.2.1 hc hi (X.2.2.2.2.1.1.2.2.2 _ _ hl).1 (kk.use (X.to X.2.2.2.2.1.1 (List.forall_mem_cons.mpr ⟨trivial, X.2.2.2.2.1.2⟩)) E)
theorem tr_iload {i : Nat} {x : Int32} (hc : decode m.2.1 pc = .ok (.iload i, 2)) (hl : L[i]? = some (some (vi x))) (kk : mT g m d mc ms (pc + 2) L (vi x :: st) h Q) : mT g m d mc ms pc L (st) h Q := by
  intro p R e s mi args below meth c H ls locs cells slots ad ad0 h0 Qf X E
  exact lv_iload X.1.1 X.1.2.1 hc (X.2.2.2.2.1.1.2.2.2 _ _ hl).1 (kk.use (X.to X.2.2.2.2.1.1 (List.forall_mem_cons.mpr ⟨trivial, X.2.2.2.2.1.2⟩)) E)
theorem tr_aload_n {k : Fin 4} (i : Nat) {r : Option (Nat × Nat)} (hc : decode m.2.1 pc = .ok (.aload_n k, 1)) (hi : (k : Nat) = i) (hl : L[i]? = some (some (vp r))) (kk : mT g m d mc ms (pc + 1) L (vp r :: st) h Q) : mT g m d mc ms pc L (st) h Q := by
  intro p R e s mi args below meth c H ls locs cells slots ad ad0 h0 Qf X E
  have hw := X.2.2.2.2.1.1.2.2.2 _ _ hl
  have kk' := kk.use (X.to X.2.2.2.2.1.1 (List.forall_mem_cons.mpr ⟨hw.2, X.2.2.2.2.1.2⟩)) E
  cases r with
  | none => exact lv_aload_nN X.1.1 X.1.2.1 hc hi hw.1 kk'
  | some r => exact lv_aload_n X.1.1 X.1.2.1 hc hi hw.1 kk'
theorem tr_aload {i : Nat} {r : Option (Nat × Nat)} (hc : decode m.2.1 pc = .ok (.aload i, 2)) (hl : L[i]? = some (some (vp r))) (kk : mT g m d mc ms (pc + 2) L (vp r :: st) h Q) : mT g m d mc ms pc L (st) h Q := by
  intro p R e s mi args below meth c H ls locs cells slots ad ad0 h0 Qf X E
  have hw := X.2.2.2.2.1.1.2.2.2 _ _ hl
  have kk' := kk.use (X.to X.2.2.2.2.1.1 (List.forall_mem_cons.mpr ⟨hw.2, X.2.2.2.2.1.2⟩)) E
  cases r with
  | none => exact lv_aloadN X.1.1 X.1.2.1 hc hw.1 kk'
  | some r => exact lv_aload X.1.1 X.1.2.1 hc hw.1 kk'
theorem tr_istore_n {k : Fin 4} (i : Nat) {x : Int32} (hc : decode m.2.1 pc = .ok (.istore_n k, 1)) (hi : (k : Nat) = i) (hn : i < m.2.2.1) (hk : mOkS L i = true) (kk : mT g m d mc ms (pc + 1) (L.set i (some (vi x))) st h Q) : mT g m d mc ms pc L (vi x :: st) h Q := by
  intro p R e s mi args below meth c H ls locs cells slots ad ad0 h0 Qf X E
  have hw := List.forall_mem_cons.mp X.2.2.2.2.1.2
  exact lv_istore_n X.1.1 X.1.2.1 hc hi X.2.2.2.2.1.1.has hn rfl (fun ls' h' => kk.use (X.to (mLoc.store1 X.2.2.2.2.1.1 hn hw.1 hk h') hw.2) E)
theorem tr_istore {i : Nat} {x : Int32} (hc : decode m.2.1 pc = .ok (.istore i, 2)) (hn : i < m.2.2.1) (hk : mOkS L i = true) (kk : mT g m d mc ms (pc + 2) (L.set i (some (vi x))) st h Q) : mT g m d mc ms pc L (vi x :: st) h Q := by
  intro p R e s mi args below meth c H ls locs cells slots ad ad0 h0 Qf X E
  have hw := List.forall_mem_cons.mp X.2.2.2.2.1.2
  exact lv_istore X.1.1 X.1.2.1 hc X.2.2.2.2.1.1.has hn rfl (fun ls' h' => kk.use (X.to (mLoc.store1 X.2.2.2.2.1.1 hn hw.1 hk h') hw.2) E)
theorem tr_lstore_n {k : Fin 4} (i : Nat) {x : Int64} (hc : decode m.2.1 pc = .ok (.lstore_n k, 1)) (hi : (k : Nat) = i) (hn : i + 1 < m.2.2.1) (hk : mOkS L i = true) (kk : mT g m d mc ms (pc + 1) ((L.set i (some (vl x))).set (i + 1) none) st h Q) : mT g m d mc ms pc L (vl x :: st) h Q := by
  intro p R e s mi args below meth c H ls locs cells slots ad ad0 h0 Qf X E
  have hw := List.forall_mem_cons.mp X.2.2.2.2.1.2
  exact lv_lstore_n X.1.1 X.1.2.1 hc hi X.2.2.2.2.1.1.has hn rfl (fun ls' h' => kk.use (X.to (mLoc.store2 X.2.2.2.2.1.1 hn hw.1 hk h') hw.2) E)
theorem tr_astore_n {k : Fin 4} (i : Nat) {r : Option (Nat × Nat)} (hc : decode m.2.1 pc = .ok (.astore_n k, 1)) (hi : (k : Nat) = i) (hn : i < m.2.2.1) (hk : mOkS L i = true) (kk : mT g m d mc ms (pc + 1) (L.set i (some (vp r))) st h Q) : mT g m d mc ms pc L (vp r :: st) h Q := by
  intro p R e s mi args below meth c H ls locs cells slots ad ad0 h0 Qf X E
  have hw := List.forall_mem_cons.mp X.2.2.2.2.1.2
  have kk' : ∀ ls', mLoc ad h m.2.2.1 (L.set i (some (vp r))) ls' → W p g.1 e R s mi args below meth c H locs cells slots Qf (F0 mi (pc + 1) ls' (st.map (mco ad))) := fun ls' h' => kk.use (X.to h' hw.2) E
  cases r with
  | none => exact lv_astore_nN X.1.1 X.1.2.1 hc hi X.2.2.2.2.1.1.has hn rfl (fun ls' h' => kk' ls' (mLoc.store1 X.2.2.2.2.1.1 hn hw.1 hk h'))
  | some r => exact lv_astore_n X.1.1 X.1.2.1 hc hi X.2.2.2.2.1.1.has hn rfl (fun ls' h' => kk' ls' (mLoc.store1 X.2.2.2.2.1.1 hn hw.1 hk h'))
theorem tr_astore {i : Nat} {r : Option (Nat × Nat)} (hc : decode m.2.1 pc = .ok (.astore i, 2)) (hn : i < m.2.2.1) (hk : mOkS L i = true) (kk : mT g m d mc ms (pc + 2) (L.set i (some (vp r))) st h Q) : mT g m d mc ms pc L (vp r :: st) h Q := by
  intro p R e s mi args below meth c H ls locs cells slots ad ad0 h0 Qf X E
  have hw := List.forall_mem_cons.mp X.2.2.2.2.1.2
  have kk' : ∀ ls', mLoc ad h m.2.2.1 (L.set i (some (vp r))) ls' → W p g.1 e R s mi args below meth c H locs cells slots Qf (F0 mi (pc + 2) ls' (st.map (mco ad))) := fun ls' h' => kk.use (X.to h' hw.2) E
  cases r with
  | none => exact lv_astoreN X.1.1 X.1.2.1 hc X.2.2.2.2.1.1.has hn rfl (fun ls' h' => kk' ls' (mLoc.store1 X.2.2.2.2.1.1 hn hw.1 hk h'))
  | some r => exact lv_astore X.1.1 X.1.2.1 hc X.2.2.2.2.1.1.has hn rfl (fun ls' h' => kk' ls' (mLoc.store1 X.2.2.2.2.1.1 hn hw.1 hk h'))
theorem tr_iinc {i : Nat} {n : Int} {x v : Int32} (hc : decode m.2.1 pc = .ok (.iinc i n, 3)) (hl : L[i]? = some (some (vi x))) (hv : x + Int32.ofInt n = v) (hn : i < m.2.2.1) (hk : mOkS L i = true) (kk : mT g m d mc ms (pc + 3) (L.set i (some (vi v))) st h Q) : mT g m d mc ms pc L st h Q := by
  intro p R e s mi args below meth c H ls locs cells slots ad ad0 h0 Qf X E
  obtain ⟨k, hk1⟩ := List.getElem?_of_mem (mAs_mem (ad := ad).mpr ⟨_, hl, rfl⟩)
  exact lv_iinc (k := k) X.1.1 X.1.2.1 hc X.2.2.2.2.1.1.has hk1 hv hn rfl (fun ls' h' => kk.use (X.to (mLoc.store1 X.2.2.2.2.1.1 hn trivial hk h') X.2.2.2.2.1.2) E)
theorem tr_iadd {x y : Int32} (hc : decode m.2.1 pc = .ok (.iadd, 1))  (kk : mT g m d mc ms (pc + 1) L (vi (x + y) :: st) h Q) : mT g m d mc ms pc L (vi y :: vi x :: st) h Q := by
  intro p R e s mi args below meth c H ls locs cells slots ad ad0 h0 Qf X E
  exact lv_iadd X.1.1 X.1.2.1 hc (kk.use (X.to X.2.2.2.2.1.1 (List.forall_mem_cons.mpr ⟨trivial, (List.forall_mem_cons.mp (List.forall_mem_cons.mp X.2.2.2.2.1.2).2).2⟩)) E)
theorem tr_isub {x y : Int32} (hc : decode m.2.1 pc = .ok (.isub, 1))  (kk : mT g m d mc ms (pc + 1) L (vi (x - y) :: st) h Q) : mT g m d mc ms pc L (vi y :: vi x :: st) h Q := by
  intro p R e s mi args below meth c H ls locs cells slots ad ad0 h0 Qf X E
  exact lv_isub X.1.1 X.1.2.1 hc (kk.use (X.to X.2.2.2.2.1.1 (List.forall_mem_cons.mpr ⟨trivial, (List.forall_mem_cons.mp (List.forall_mem_cons.mp X.2.2.2.2.1.2).2).2⟩)) E)
theorem tr_imul {x y : Int32} (hc : decode m.2.1 pc = .ok (.imul, 1))  (kk : mT g m d mc ms (pc + 1) L (vi (x * y) :: st) h Q) : mT g m d mc ms pc L (vi y :: vi x :: st) h Q := by
  intro p R e s mi args below meth c H ls locs cells slots ad ad0 h0 Qf X E
  exact lv_imul X.1.1 X.1.2.1 hc (kk.use (X.to X.2.2.2.2.1.1 (List.forall_mem_cons.mpr ⟨trivial, (List.forall_mem_cons.mp (List.forall_mem_cons.mp X.2.2.2.2.1.2).2).2⟩)) E)
theorem tr_iand {x y : Int32} (hc : decode m.2.1 pc = .ok (.iand, 1))  (kk : mT g m d mc ms (pc + 1) L (vi (x &&& y) :: st) h Q) : mT g m d mc ms pc L (vi y :: vi x :: st) h Q := by
  intro p R e s mi args below meth c H ls locs cells slots ad ad0 h0 Qf X E
  exact lv_iand X.1.1 X.1.2.1 hc (kk.use (X.to X.2.2.2.2.1.1 (List.forall_mem_cons.mpr ⟨trivial, (List.forall_mem_cons.mp (List.forall_mem_cons.mp X.2.2.2.2.1.2).2).2⟩)) E)
theorem tr_ior {x y : Int32} (hc : decode m.2.1 pc = .ok (.ior, 1))  (kk : mT g m d mc ms (pc + 1) L (vi (x ||| y) :: st) h Q) : mT g m d mc ms pc L (vi y :: vi x :: st) h Q := by
  intro p R e s mi args below meth c H ls locs cells slots ad ad0 h0 Qf X E
  exact lv_ior X.1.1 X.1.2.1 hc (kk.use (X.to X.2.2.2.2.1.1 (List.forall_mem_cons.mpr ⟨trivial, (List.forall_mem_cons.mp (List.forall_mem_cons.mp X.2.2.2.2.1.2).2).2⟩)) E)
theorem tr_ixor {x y : Int32} (hc : decode m.2.1 pc = .ok (.ixor, 1))  (kk : mT g m d mc ms (pc + 1) L (vi (x ^^^ y) :: st) h Q) : mT g m d mc ms pc L (vi y :: vi x :: st) h Q := by
  intro p R e s mi args below meth c H ls locs cells slots ad ad0 h0 Qf X E
  exact lv_ixor X.1.1 X.1.2.1 hc (kk.use (X.to X.2.2.2.2.1.1 (List.forall_mem_cons.mpr ⟨trivial, (List.forall_mem_cons.mp (List.forall_mem_cons.mp X.2.2.2.2.1.2).2).2⟩)) E)
theorem tr_ishl {x y : Int32} (hc : decode m.2.1 pc = .ok (.ishl, 1))  (kk : mT g m d mc ms (pc + 1) L (vi (x <<< (y &&& 31)) :: st) h Q) : mT g m d mc ms pc L (vi y :: vi x :: st) h Q := by
  intro p R e s mi args below meth c H ls locs cells slots ad ad0 h0 Qf X E
  exact lv_ishl X.1.1 X.1.2.1 hc (kk.use (X.to X.2.2.2.2.1.1 (List.forall_mem_cons.mpr ⟨trivial, (List.forall_mem_cons.mp (List.forall_mem_cons.mp X.2.2.2.2.1.2).2).2⟩)) E)
theorem tr_ishr {x y : Int32} (hc : decode m.2.1 pc = .ok (.ishr, 1))  (kk : mT g m d mc ms (pc + 1) L (vi (x >>> (y &&& 31)) :: st) h Q) : mT g m d mc ms pc L (vi y :: vi x :: st) h Q := by
  intro p R e s mi args below meth c H ls locs cells slots ad ad0 h0 Qf X E
  exact lv_ishr X.1.1 X.1.2.1 hc (kk.use (X.to X.2.2.2.2.1.1 (List.forall_mem_cons.mpr ⟨trivial, (List.forall_mem_cons.mp (List.forall_mem_cons.mp X.2.2.2.2.1.2).2).2⟩)) E)
theorem tr_idiv {x y : Int32} (hc : decode m.2.1 pc = .ok (.idiv, 1)) (hne : ¬ y = 0) (kk : mT g m d mc ms (pc + 1) L (vi (x / y) :: st) h Q) : mT g m d mc ms pc L (vi y :: vi x :: st) h Q := by
  intro p R e s mi args below meth c H ls locs cells slots ad ad0 h0 Qf X E
  exact lv_idiv X.1.1 X.1.2.1 hc hne (kk.use (X.to X.2.2.2.2.1.1 (List.forall_mem_cons.mpr ⟨trivial, (List.forall_mem_cons.mp (List.forall_mem_cons.mp X.2.2.2.2.1.2).2).2⟩)) E)
theorem tr_ineg {x : Int32} (hc : decode m.2.1 pc = .ok (.ineg, 1))  (kk : mT g m d mc ms (pc + 1) L (vi (-x) :: st) h Q) : mT g m d mc ms pc L (vi x :: st) h Q := by
  intro p R e s mi args below meth c H ls locs cells slots ad ad0 h0 Qf X E
  exact lv_ineg X.1.1 X.1.2.1 hc (kk.use (X.to X.2.2.2.2.1.1 (List.forall_mem_cons.mpr ⟨trivial, (List.forall_mem_cons.mp X.2.2.2.2.1.2).2⟩)) E)
theorem tr_iushr {x y v : Int32} (hc : decode m.2.1 pc = .ok (.iushr, 1)) (hv : (x.toUInt32 >>> (y.toUInt32 &&& Int32.toUInt32 31)).toInt32 = v) (kk : mT g m d mc ms (pc + 1) L (vi v :: st) h Q) : mT g m d mc ms pc L (vi y :: vi x :: st) h Q := by
  intro p R e s mi args below meth c H ls locs cells slots ad ad0 h0 Qf X E
  exact lv_iushr X.1.1 X.1.2.1 hc hv (kk.use (X.to X.2.2.2.2.1.1 (List.forall_mem_cons.mpr ⟨trivial, (List.forall_mem_cons.mp (List.forall_mem_cons.mp X.2.2.2.2.1.2).2).2⟩)) E)
theorem tr_lmul {x y : Int64} (hc : decode m.2.1 pc = .ok (.lmul, 1))  (kk : mT g m d mc ms (pc + 1) L (vl (x * y) :: st) h Q) : mT g m d mc ms pc L (vl y :: vl x :: st) h Q := by
  intro p R e s mi args below meth c H ls locs cells slots ad ad0 h0 Qf X E
  exact lv_lmul X.1.1 X.1.2.1 hc (kk.use (X.to X.2.2.2.2.1.1 (List.forall_mem_cons.mpr ⟨trivial, (List.forall_mem_cons.mp (List.forall_mem_cons.mp X.2.2.2.2.1.2).2).2⟩)) E)
theorem tr_ldiv {x y : Int64} (hc : decode m.2.1 pc = .ok (.ldiv, 1)) (hne : ¬ y = 0) (kk : mT g m d mc ms (pc + 1) L (vl (x / y) :: st) h Q) : mT g m d mc ms pc L (vl y :: vl x :: st) h Q := by
  intro p R e s mi args below meth c H ls locs cells slots ad ad0 h0 Qf X E
  exact lv_ldiv X.1.1 X.1.2.1 hc hne (kk.use (X.to X.2.2.2.2.1.1 (List.forall_mem_cons.mpr ⟨trivial, (List.forall_mem_cons.mp (List.forall_mem_cons.mp X.2.2.2.2.1.2).2).2⟩)) E)
theorem tr_lcmp {x y : Int64} (hc : decode m.2.1 pc = .ok (.lcmp, 1))  (kk : mT g m d mc ms (pc + 1) L (vi (lg_cmp x y) :: st) h Q) : mT g m d mc ms pc L (vl y :: vl x :: st) h Q := by
  intro p R e s mi args below meth c H ls locs cells slots ad ad0 h0 Qf X E
  exact W.lcmp X.1.1 X.1.2.1 hc (kk.use (X.to X.2.2.2.2.1.1 (List.forall_mem_cons.mpr ⟨trivial, (List.forall_mem_cons.mp (List.forall_mem_cons.mp X.2.2.2.2.1.2).2).2⟩)) E)
theorem tr_i2l {x : Int32} (hc : decode m.2.1 pc = .ok (.i2l, 1))  (kk : mT g m d mc ms (pc + 1) L (vl x.toInt64 :: st) h Q) : mT g m d mc ms pc L (vi x :: st) h Q := by
  intro p R e s mi args below meth c H ls locs cells slots ad ad0 h0 Qf X E
  exact lv_i2l X.1.1 X.1.2.1 hc rfl (kk.use (X.to X.2.2.2.2.1.1 (List.forall_mem_cons.mpr ⟨trivial, (List.forall_mem_cons.mp X.2.2.2.2.1.2).2⟩)) E)
theorem tr_l2i {x : Int64} (hc : decode m.2.1 pc = .ok (.l2i, 1))  (kk : mT g m d mc ms (pc + 1) L (vi x.toInt32 :: st) h Q) : mT g m d mc ms pc L (vl x :: st) h Q := by
  intro p R e s mi args below meth c H ls locs cells slots ad ad0 h0 Qf X E
  exact lv_l2i X.1.1 X.1.2.1 hc rfl (kk.use (X.to X.2.2.2.2.1.1 (List.forall_mem_cons.mpr ⟨trivial, (List.forall_mem_cons.mp X.2.2.2.2.1.2).2⟩)) E)
def mc1 : mV → Bool
  | .inr (.inl _) => false
  | _ => true
theorem mc1_cat {ad : Nat → Nat → Nat} {v : mV} (h : mc1 v = true) : (mco ad v).category = 1 := by
  rcases v with x | x | r | r
  · rfl
  · cases h
  · rfl
  · rfl
theorem tr_dup {v : mV} (hc : decode m.2.1 pc = .ok (.dup, 1)) (hv : mc1 v = true) (kk : mT g m d mc ms (pc + 1) L (v :: v :: st) h Q) : mT g m d mc ms pc L (v :: st) h Q := by
  intro p R e s mi args below meth c H ls locs cells slots ad ad0 h0 Qf X E
  have hw := List.forall_mem_cons.mp X.2.2.2.2.1.2
  exact lv_dup X.1.1 X.1.2.1 hc (mc1_cat hv) (kk.use (X.to X.2.2.2.2.1.1 (List.forall_mem_cons.mpr ⟨hw.1, X.2.2.2.2.1.2⟩)) E)
theorem tr_pop {v : mV} (hc : decode m.2.1 pc = .ok (.pop, 1)) (hv : mc1 v = true) (kk : mT g m d mc ms (pc + 1) L (st) h Q) : mT g m d mc ms pc L (v :: st) h Q := by
  intro p R e s mi args below meth c H ls locs cells slots ad ad0 h0 Qf X E
  have hw := List.forall_mem_cons.mp X.2.2.2.2.1.2
  exact lv_pop X.1.1 X.1.2.1 hc (mc1_cat hv) (kk.use (X.to X.2.2.2.2.1.1 hw.2) E)
theorem tr_dup_x1 {v w : mV} (hc : decode m.2.1 pc = .ok (.dup_x1, 1)) (hv : mc1 v = true) (hw : mc1 w = true) (kk : mT g m d mc ms (pc + 1) L (v :: w :: v :: st) h Q) : mT g m d mc ms pc L (v :: w :: st) h Q := by
  intro p R e s mi args below meth c H ls locs cells slots ad ad0 h0 Qf X E
  have h1 := List.forall_mem_cons.mp X.2.2.2.2.1.2
  have h2 := List.forall_mem_cons.mp h1.2
  exact lv_dup_x1 X.1.1 X.1.2.1 hc (mc1_cat hv) (mc1_cat hw) (kk.use (X.to X.2.2.2.2.1.1 (List.forall_mem_cons.mpr ⟨h1.1, List.forall_mem_cons.mpr ⟨h2.1, List.forall_mem_cons.mpr ⟨h1.1, h2.2⟩⟩⟩)) E)
theorem tr_dup2 {v w : mV} (hc : decode m.2.1 pc = .ok (.dup2, 1)) (hv : mc1 v = true) (hw : mc1 w = true) (kk : mT g m d mc ms (pc + 1) L (v :: w :: v :: w :: st) h Q) : mT g m d mc ms pc L (v :: w :: st) h Q := by
  intro p R e s mi args below meth c H ls locs cells slots ad ad0 h0 Qf X E
  have h1 := List.forall_mem_cons.mp X.2.2.2.2.1.2
  have h2 := List.forall_mem_cons.mp h1.2
  exact lv_dup2_11 X.1.1 X.1.2.1 hc (mc1_cat hv) (mc1_cat hw) (kk.use (X.to X.2.2.2.2.1.1 (List.forall_mem_cons.mpr ⟨h1.1, List.forall_mem_cons.mpr ⟨h2.1, X.2.2.2.2.1.2⟩⟩)) E)
theorem tr_if_eq {x : Int32} {off : Int} (tgt : Nat) (hc : decode m.2.1 pc = .ok (.ifCond .eq off, 3)) (ht : (pc : Int) + off = (tgt : Int)) (kt : x = 0 → mT g m d mc ms tgt L st h Q) (kf : ¬ x = 0 → mT g m d mc ms (pc + 3) L st h Q) : mT g m d mc ms pc L (vi x :: st) h Q := by
  intro p R e s mi args below meth c H ls locs cells slots ad ad0 h0 Qf X E
  have hw := List.forall_mem_cons.mp X.2.2.2.2.1.2
  exact lv_if_eq X.1.1 X.1.2.1 hc ht (fun q => (kt q).use (X.to X.2.2.2.2.1.1 hw.2) E) (fun q => (kf q).use (X.to X.2.2.2.2.1.1 hw.2) E)
theorem tr_if_ne {x : Int32} {off : Int} (tgt : Nat) (hc : decode m.2.1 pc = .ok (.ifCond .ne off, 3)) (ht : (pc : Int) + off = (tgt : Int)) (kt : ¬ x = 0 → mT g m d mc ms tgt L st h Q) (kf : x = 0 → mT g m d mc ms (pc + 3) L st h Q) : mT g m d mc ms pc L (vi x :: st) h Q := by
  intro p R e s mi args below meth c H ls locs cells slots ad ad0 h0 Qf X E
  have hw := List.forall_mem_cons.mp X.2.2.2.2.1.2
  exact lv_if_ne X.1.1 X.1.2.1 hc ht (fun q => (kt q).use (X.to X.2.2.2.2.1.1 hw.2) E) (fun q => (kf q).use (X.to X.2.2.2.2.1.1 hw.2) E)
theorem tr_if_lt {x : Int32} {off : Int} (tgt : Nat) (hc : decode m.2.1 pc = .ok (.ifCond .lt off, 3)) (ht : (pc : Int) + off = (tgt : Int)) (kt : x < 0 → mT g m d mc ms tgt L st h Q) (kf : ¬ x < 0 → mT g m d mc ms (pc + 3) L st h Q) : mT g m d mc ms pc L (vi x :: st) h Q := by
  intro p R e s mi args below meth c H ls locs cells slots ad ad0 h0 Qf X E
  have hw := List.forall_mem_cons.mp X.2.2.2.2.1.2
  exact lv_if_lt X.1.1 X.1.2.1 hc ht (fun q => (kt q).use (X.to X.2.2.2.2.1.1 hw.2) E) (fun q => (kf q).use (X.to X.2.2.2.2.1.1 hw.2) E)
theorem tr_if_ge {x : Int32} {off : Int} (tgt : Nat) (hc : decode m.2.1 pc = .ok (.ifCond .ge off, 3)) (ht : (pc : Int) + off = (tgt : Int)) (kt : 0 ≤ x → mT g m d mc ms tgt L st h Q) (kf : ¬ 0 ≤ x → mT g m d mc ms (pc + 3) L st h Q) : mT g m d mc ms pc L (vi x :: st) h Q := by
  intro p R e s mi args below meth c H ls locs cells slots ad ad0 h0 Qf X E
  have hw := List.forall_mem_cons.mp X.2.2.2.2.1.2
  exact lv_if_ge X.1.1 X.1.2.1 hc ht (fun q => (kt q).use (X.to X.2.2.2.2.1.1 hw.2) E) (fun q => (kf q).use (X.to X.2.2.2.2.1.1 hw.2) E)
theorem tr_if_gt {x : Int32} {off : Int} (tgt : Nat) (hc : decode m.2.1 pc = .ok (.ifCond .gt off, 3)) (ht : (pc : Int) + off = (tgt : Int)) (kt : 0 < x → mT g m d mc ms tgt L st h Q) (kf : ¬ 0 < x → mT g m d mc ms (pc + 3) L st h Q) : mT g m d mc ms pc L (vi x :: st) h Q := by
  intro p R e s mi args below meth c H ls locs cells slots ad ad0 h0 Qf X E
  have hw := List.forall_mem_cons.mp X.2.2.2.2.1.2
  exact lv_if_gt X.1.1 X.1.2.1 hc ht (fun q => (kt q).use (X.to X.2.2.2.2.1.1 hw.2) E) (fun q => (kf q).use (X.to X.2.2.2.2.1.1 hw.2) E)
theorem tr_if_le {x : Int32} {off : Int} (tgt : Nat) (hc : decode m.2.1 pc = .ok (.ifCond .le off, 3)) (ht : (pc : Int) + off = (tgt : Int)) (kt : x ≤ 0 → mT g m d mc ms tgt L st h Q) (kf : ¬ x ≤ 0 → mT g m d mc ms (pc + 3) L st h Q) : mT g m d mc ms pc L (vi x :: st) h Q := by
  intro p R e s mi args below meth c H ls locs cells slots ad ad0 h0 Qf X E
  have hw := List.forall_mem_cons.mp X.2.2.2.2.1.2
  exact lv_if_le X.1.1 X.1.2.1 hc ht (fun q => (kt q).use (X.to X.2.2.2.2.1.1 hw.2) E) (fun q => (kf q).use (X.to X.2.2.2.2.1.1 hw.2) E)
theorem tr_icmp_eq {x y : Int32} {off : Int} (tgt : Nat) (hc : decode m.2.1 pc = .ok (.if_icmp .eq off, 3)) (ht : (pc : Int) + off = (tgt : Int)) (kt : x = y → mT g m d mc ms tgt L st h Q) (kf : ¬ x = y → mT g m d mc ms (pc + 3) L st h Q) : mT g m d mc ms pc L (vi y :: vi x :: st) h Q := by
  intro p R e s mi args below meth c H ls locs cells slots ad ad0 h0 Qf X E
  have hw := List.forall_mem_cons.mp (List.forall_mem_cons.mp X.2.2.2.2.1.2).2
  exact lv_icmp_eq X.1.1 X.1.2.1 hc ht (fun q => (kt q).use (X.to X.2.2.2.2.1.1 hw.2) E) (fun q => (kf q).use (X.to X.2.2.2.2.1.1 hw.2) E)
theorem tr_icmp_ne {x y : Int32} {off : Int} (tgt : Nat) (hc : decode m.2.1 pc = .ok (.if_icmp .ne off, 3)) (ht : (pc : Int) + off = (tgt : Int)) (kt : ¬ x = y → mT g m d mc ms tgt L st h Q) (kf : x = y → mT g m d mc ms (pc + 3) L st h Q) : mT g m d mc ms pc L (vi y :: vi x :: st) h Q := by
  intro p R e s mi args below meth c H ls locs cells slots ad ad0 h0 Qf X E
  have hw := List.forall_mem_cons.mp (List.forall_mem_cons.mp X.2.2.2.2.1.2).2
  exact lv_icmp_ne X.1.1 X.1.2.1 hc ht (fun q => (kt q).use (X.to X.2.2.2.2.1.1 hw.2) E) (fun q => (kf q).use (X.to X.2.2.2.2.1.1 hw.2) E)
theorem tr_icmp_lt {x y : Int32} {off : Int} (tgt : Nat) (hc : decode m.2.1 pc = .ok (.if_icmp .lt off, 3)) (ht : (pc : Int) + off = (tgt : Int)) (kt : x < y → mT g m d mc ms tgt L st h Q) (kf : ¬ x < y → mT g m d mc ms (pc + 3) L st h Q) : mT g m d mc ms pc L (vi y :: vi x :: st) h Q := by
  intro p R e s mi args below meth c H ls locs cells slots ad ad0 h0 Qf X E
  have hw := List.forall_mem_cons.mp (List.forall_mem_cons.mp X.2.2.2.2.1.2).2
  exact lv_icmp_lt X.1.1 X.1.2.1 hc ht (fun q => (kt q).use (X.to X.2.2.2.2.1.1 hw.2) E) (fun q => (kf q).use (X.to X.2.2.2.2.1.1 hw.2) E)
theorem tr_icmp_ge {x y : Int32} {off : Int} (tgt : Nat) (hc : decode m.2.1 pc = .ok (.if_icmp .ge off, 3)) (ht : (pc : Int) + off = (tgt : Int)) (kt : y ≤ x → mT g m d mc ms tgt L st h Q) (kf : ¬ y ≤ x → mT g m d mc ms (pc + 3) L st h Q) : mT g m d mc ms pc L (vi y :: vi x :: st) h Q := by
  intro p R e s mi args below meth c H ls locs cells slots ad ad0 h0 Qf X E
  have hw := List.forall_mem_cons.mp (List.forall_mem_cons.mp X.2.2.2.2.1.2).2
  exact lv_icmp_ge X.1.1 X.1.2.1 hc ht (fun q => (kt q).use (X.to X.2.2.2.2.1.1 hw.2) E) (fun q => (kf q).use (X.to X.2.2.2.2.1.1 hw.2) E)
theorem tr_icmp_gt {x y : Int32} {off : Int} (tgt : Nat) (hc : decode m.2.1 pc = .ok (.if_icmp .gt off, 3)) (ht : (pc : Int) + off = (tgt : Int)) (kt : y < x → mT g m d mc ms tgt L st h Q) (kf : ¬ y < x → mT g m d mc ms (pc + 3) L st h Q) : mT g m d mc ms pc L (vi y :: vi x :: st) h Q := by
  intro p R e s mi args below meth c H ls locs cells slots ad ad0 h0 Qf X E
  have hw := List.forall_mem_cons.mp (List.forall_mem_cons.mp X.2.2.2.2.1.2).2
  exact lv_icmp_gt X.1.1 X.1.2.1 hc ht (fun q => (kt q).use (X.to X.2.2.2.2.1.1 hw.2) E) (fun q => (kf q).use (X.to X.2.2.2.2.1.1 hw.2) E)
theorem tr_icmp_le {x y : Int32} {off : Int} (tgt : Nat) (hc : decode m.2.1 pc = .ok (.if_icmp .le off, 3)) (ht : (pc : Int) + off = (tgt : Int)) (kt : x ≤ y → mT g m d mc ms tgt L st h Q) (kf : ¬ x ≤ y → mT g m d mc ms (pc + 3) L st h Q) : mT g m d mc ms pc L (vi y :: vi x :: st) h Q := by
  intro p R e s mi args below meth c H ls locs cells slots ad ad0 h0 Qf X E
  have hw := List.forall_mem_cons.mp (List.forall_mem_cons.mp X.2.2.2.2.1.2).2
  exact lv_icmp_le X.1.1 X.1.2.1 hc ht (fun q => (kt q).use (X.to X.2.2.2.2.1.1 hw.2) E) (fun q => (kf q).use (X.to X.2.2.2.2.1.1 hw.2) E)
theorem tr_goto {off : Int} (tgt : Nat) (hc : decode m.2.1 pc = .ok (.goto off, 3)) (ht : (pc : Int) + off = (tgt : Int)) (kk : mT g m d mc ms tgt L st h Q) : mT g m d mc ms pc L st h Q := by
  intro p R e s mi args below meth c H ls locs cells slots ad ad0 h0 Qf X E
  exact lv_goto X.1.1 X.1.2.1 hc ht (kk.use (X.to X.2.2.2.2.1.1 X.2.2.2.2.1.2) E)
theorem tr_ifnull {r : Option (Nat × Nat)} {off : Int} (tgt : Nat) (hc : decode m.2.1 pc = .ok (.ifnull off, 3)) (ht : (pc : Int) + off = (tgt : Int)) (kN : r = none → mT g m d mc ms tgt L st h Q) (kS : ∀ k n, r = some (k, n) → mT g m d mc ms (pc + 3) L st h Q) : mT g m d mc ms pc L (vp r :: st) h Q := by
  intro p R e s mi args below meth c H ls locs cells slots ad ad0 h0 Qf X E
  have hw := List.forall_mem_cons.mp X.2.2.2.2.1.2
  cases r with
  | none => exact lv_ifnullN X.1.1 X.1.2.1 hc ht ((kN rfl).use (X.to X.2.2.2.2.1.1 hw.2) E)
  | some r => exact lv_ifnull X.1.1 X.1.2.1 hc ((kS r.1 r.2 rfl).use (X.to X.2.2.2.2.1.1 hw.2) E)
theorem tr_ifnonnull {r : Option (Nat × Nat)} {off : Int} (tgt : Nat) (hc : decode m.2.1 pc = .ok (.ifnonnull off, 3)) (ht : (pc : Int) + off = (tgt : Int)) (kN : r = none → mT g m d mc ms (pc + 3) L st h Q) (kS : ∀ k n, r = some (k, n) → mT g m d mc ms tgt L st h Q) : mT g m d mc ms pc L (vp r :: st) h Q := by
  intro p R e s mi args below meth c H ls locs cells slots ad ad0 h0 Qf X E
  have hw := List.forall_mem_cons.mp X.2.2.2.2.1.2
  cases r with
  | none => exact lv_ifnonnullN X.1.1 X.1.2.1 hc ((kN rfl).use (X.to X.2.2.2.2.1.1 hw.2) E)
  | some r => exact lv_ifnonnull X.1.1 X.1.2.1 hc ht ((kS r.1 r.2 rfl).use (X.to X.2.2.2.2.1.1 hw.2) E)
theorem tr_table {dflt lo hi : Int} {offs : Array Int} {len : Nat} {x : Int32} (tgs : List Nat) (dt : Nat) (hc : decode m.2.1 pc = .ok (.tableswitch dflt lo hi offs, len)) (hs : hi = lo + tgs.length - 1) (ht : offs.toList = tgs.map (fun t : Nat => ((t : Int) - (pc : Int)))) (hd : (pc : Int) + dflt = (dt : Int))
    (kin : ∀ (i t : Nat), tgs[i]? = some t → x.toInt = lo + i → mT g m d mc ms t L st h Q) (kout : (∀ i : Nat, i < tgs.length → x.toInt ≠ lo + i) → mT g m d mc ms dt L st h Q) : mT g m d mc ms pc L (vi x :: st) h Q := by
  intro p R e s mi args below meth c H ls locs cells slots ad ad0 h0 Qf X E
  have hw := List.forall_mem_cons.mp X.2.2.2.2.1.2
  by_cases h1 : x.toInt < lo
  · exact lv_tableOut X.1.1 X.1.2.1 hc (Or.inl h1) hd ((kout (fun i hi => by omega)).use (X.to X.2.2.2.2.1.1 hw.2) E)
  by_cases h2 : hi < x.toInt
  · exact lv_tableOut X.1.1 X.1.2.1 hc (Or.inr h2) hd ((kout (fun i hi => by omega)).use (X.to X.2.2.2.2.1.1 hw.2) E)
  have hlt : (x.toInt - lo).toNat < tgs.length := by omega
  have h3 : tgs[(x.toInt - lo).toNat]? = some tgs[(x.toInt - lo).toNat] := List.getElem?_eq_getElem hlt
  have h4 : offs[(x.toInt - lo).toNat]? = some ((tgs[(x.toInt - lo).toNat] : Int) - pc) := by
    rw [← Array.getElem?_toList, ht, List.getElem?_map, h3]
    rfl
  exact lv_tableIn X.1.1 X.1.2.1 hc h1 h2 h4 (tgt := tgs[(x.toInt - lo).toNat]) (by omega) ((kin (x.toInt - lo).toNat _ h3 (by omega)).use (X.to X.2.2.2.2.1.1 hw.2) E)
theorem tr_ireturn {x : Int32} (hc : decode m.2.1 pc = .ok (.ireturn, 1)) {ty : FieldType} (hr : m.2.2.2 = some ty) (hn : narrow ty (.int x) = .int x) (kk : Q (some (vi x)) h) : mT g m d mc ms pc L (vi x :: []) h Q := by
  intro p R e s mi args below meth c H ls locs cells slots ad ad0 h0 Qf X E
  exact E (v := some (vi x)) ⟨hc, ty, hr, hn⟩ kk X.2.2.2.1.1 X.2.2.2.1.2 (fun y hy => by cases hy; exact trivial) X.2.2.2.2.2 (Nat.le_trans (Nat.le_add_right _ _) X.2.1.2.2.1) (Nat.le_trans (Nat.le_add_right _ _) X.2.1.2.2.2)
theorem tr_return (hc : decode m.2.1 pc = .ok (.return_, 1)) (hr : m.2.2.2 = none) (kk : Q (none) h) : mT g m d mc ms pc L ([]) h Q := by
  intro p R e s mi args below meth c H ls locs cells slots ad ad0 h0 Qf X E
  exact E (v := none) ⟨hr, hc⟩ kk X.2.2.2.1.1 X.2.2.2.1.2 (fun y hy => by cases hy) X.2.2.2.2.2 (Nat.le_trans (Nat.le_add_right _ _) X.2.1.2.2.1) (Nat.le_trans (Nat.le_add_right _ _) X.2.1.2.2.2)
theorem tr_areturn {r : Option (Nat × Nat)} (hc : decode m.2.1 pc = .ok (.areturn, 1)) {ty : FieldType} (hr : m.2.2.2 = some ty) (ht : misR ty = true) (kk : Q (some (vp r)) h) : mT g m d mc ms pc L ([vp r]) h Q := by
  intro p R e s mi args below meth c H ls locs cells slots ad ad0 h0 Qf X E
  exact E (v := some (vp r)) ⟨hc, ty, hr, by cases ty <;> first | exact Or.inl ⟨_, rfl⟩ | exact Or.inr ⟨_, rfl⟩ | cases ht⟩ kk X.2.2.2.1.1 X.2.2.2.1.2 (fun y hy => by cases hy; exact (List.forall_mem_cons.mp X.2.2.2.2.1.2).1) X.2.2.2.2.2 (Nat.le_trans (Nat.le_add_right _ _) X.2.1.2.2.1) (Nat.le_trans (Nat.le_add_right _ _) X.2.1.2.2.2)
end TR
