-- the first rows are pasted from kit/laws/SKELETON.whole
/-! THE CLAIM OUT OF ONE WALK OF THE LAW'S BODY. Your part is whole_start (and what it stands on); all else here is the same for every law, but numbers. -/
def R_law : String := "FountainNetLaw"
def lw_P (b : Addr) (xs : List Int32) (args : Array Value) (s : State) : Prop := args = #[.ref b] ∧ s.IntsAt b xs ∧ xs.length ≤ 3072 ∧ (Jvm.Cond.and given_1 narrow_1).before args s = true
def lw_Q (_ : Array Value) (s : State) (o : Outcome) (t : State) : Prop := o = .returned (some (.int 1)) ∧ Framed s o t [] 600000 7302250
def lw_Z (below : List Frame) (a : Array Value) (s : State) : State → Prop := fun t => ∃ o, t.status = .running ∧ Ended t below o ∧ lw_Q a s o t
/-- the law's own end, with 1 on the stack, nothing written that was there before, its room as the claim has it -/
theorem lw_ret {p : Program} {l : Launch} {e : Env} {s : State} {m : MethodId} {below : List Frame} {meth : Method} {c : Code} {b : Nat} (hx : p.tables.exec = Jvm.exec) (hb : c.code = code) (hr : meth.sig.returnType = ret) (hlocks : meth.locks = false) {pc : Nat} {H : Heap} {ls : Array Slot} (hdg : decode code pc = .ok (.ireturn, 1)) : W p l e room_1 s m #[Value.ref b] below meth c H [] 600000 7302250 (lw_Z below #[Value.ref b] s) (F0 m pc ls [.int 1]) := by
  intro T hT X
  obtain ⟨fs, hret, hrun, hended, hW, hframe⟩ := X.leave (v := some (.int 1)) (hlocks := hlocks) (fun h => by rw [hr] at h; cases h)
  have hmeth' : T.vm.method? m = some meth := X.method'
  refine ⟨T.setFrames fs, ?_, .returned (some (.int 1)), hrun, hended, rfl, ⟨_, rfl⟩, hW, hframe⟩
  jvm_step X.here [X.here.top, hx, hb, hdg, hmeth', hr, ret, narrow_b1]
  (try refine ⟨rfl, ?_⟩); (try refine ⟨rfl, ?_⟩)
  first | (intro acts; rw [hret _ acts rfl rfl rfl]) | rw [hret _ _ rfl rfl rfl]
  exact Steps.refl _
/-- what holds at the law's entry: the machine, the code, the tables' words (any of lw_tbl by 'hts w (by decide +kernel)'), the script of L ints xs at the cell b, what the Statement gives of the start (any of its parts by flat_of_before) -/
def lw_At (p : Program) (s : State) (m : MethodId) (meth : Method) (c : Code) (b L : Nat) (xs : Nat → Int32) : Prop :=
  p.tables.exec = Jvm.exec ∧ c.code = code ∧ meth.sig.returnType = ret ∧ c.maxLocals = 4 ∧ s.vm.findClass R_law = some m.cls ∧ (∀ w ∈ lw_tbl, w.before #[Value.ref b] s = true) ∧ va_X b L xs s s.heap ∧ b < s.heap.size ∧ meth.locks = false ∧ (Jvm.Cond.and given_1 narrow_1).before #[Value.ref b] s = true

/-! from the walk of the law over the abstract heap to the walk of the law's body -/
set_option maxRecDepth 100000 in
theorem mcasts : ∀ k, k < 11 → Cond.castable (mkd k).1 "java/lang/Object" ∈ lw_tbl := by decide +kernel
def mh0 (g : mG) : mH := ((fun k => if 14 ≤ k ∧ k ≤ 16 then 1 else 0, fun k _ => if k = 14 then g.2.2.2.2.1 else 0, fun _ _ _ => none), fun k _ j => if k = 14 then g.2.2.2.2.2 j else 0)
def mad0 (g : mG) : Nat → Nat → Nat := fun k _ => if k = 14 then g.2.2.2.1.1 else if k = 15 then g.2.2.2.1.2.1 else g.2.2.2.1.2.2.2
theorem mh0_co (g : mG) : mCo g (mad0 g) (mh0 g) := ⟨⟨rfl, rfl, rfl, rfl, rfl, rfl, rfl, rfl, rfl⟩, fun k n f r h => (by cases h), fun k hk => if_neg (by omega)⟩
theorem mh0_sim (g : mG) (H : Heap) : mSim g (mad0 g) (mh0 g) H := by
  refine ⟨[], fun _ _ => 0, fun k n hk hn => ?_, fun k n k' n' hk hn => ?_, fun k q h => by simp at h, ⟨fun i j p q h => by simp at h, fun k q h => by simp at h⟩, mh0_co g⟩
  · have : hC (mh0 g) k = 0 := if_neg (by omega)
    omega
  · have : hC (mh0 g) k = 0 := if_neg (by omega)
    omega
theorem lw_start {p : Program} {s : State} {m : MethodId} {meth : Method} {c : Code} (l : Launch) {b L : Nat} {xs : Nat → Int32} (C0 : lw_At p s m meth c b L xs) :
    ∃ g : mG, g.1 = l ∧ g.2.2.2.2 = (L, xs) ∧ g.2.2.2.1.1 = b ∧ g.2.2.2.1.2.2.1 = s.heap.size ∧ mOld g s s.heap ∧ va_K g.2.1 mcl (mtys g) s := by
  obtain ⟨hx, hb, hr, hml, hown, hts, hX, hbl, hlocks, hgv⟩ := id C0
  have hw : ∀ w ∈ mTb, w.before #[Value.ref b] s = true := fun w q => hts w (List.mem_filter.mp q).1
  have hflat := flat_of_before _ hgv
  have hk : ∀ k : Nat, ∃ (c : ClassId) (i : Nat → Nat), k < 11 → u_Kn s (mkd k).1 (mkd k).2.1 (mkd k).2.2 c i := by
    intro k
    by_cases h : k < 11
    · have hin : Cond.instantiable (mkd k).1 (mkd k).2.2 ∈ mTb := by
        rcases (show k = 0 ∨ k = 1 ∨ k = 2 ∨ k = 3 ∨ k = 4 ∨ k = 5 ∨ k = 6 ∨ k = 7 ∨ k = 8 ∨ k = 9 ∨ k = 10 by omega) with rfl | rfl | rfl | rfl | rfl | rfl | rfl | rfl | rfl | rfl | rfl
        · exact in_0
        · exact in_1
        · exact in_2
        · exact in_3
        · exact in_4
        · exact in_5
        · exact in_6
        · exact in_7
        · exact in_8
        · exact in_9
        · exact in_10
      obtain ⟨c, i, hi⟩ := u_known (C := (mkd k).1) (T := (mkd k).2.1) (N := (mkd k).2.2) hw (mlays k h) (hw _ hin)
      exact ⟨c, i, fun _ => hi⟩
    · exact ⟨0, fun _ => 0, fun q => absurd q h⟩
  have hK0 : ∀ (k : Nat) (q : vw_C), mcl[k]? = some q → u_Kn s q.1 q.2.1 q.2.2 ((fun k => (hk k).choose) k) ((fun k => (hk k).choose_spec.choose) k) := by
    intro k q hq
    have hlt : k < 11 := by
      by_cases h : k < 11
      · exact h
      · unfold mcl at hq
        rw [List.getElem?_eq_none (by simp; omega)] at hq
        cases hq
    rw [mcl_at hlt] at hq
    cases hq
    exact (hk k).choose_spec.choose_spec hlt
  obtain ⟨cI, kI, coI, i1, i2, i3⟩ := Cond.arrayClass_spec (hw _ ac_int)
  obtain ⟨cZ, kZ, coZ, z1, z2, z3⟩ := Cond.arrayClass_spec (hw _ ac_boolean)
  obtain ⟨coO, cO, kO, o1, o0, o2, o3, o4⟩ := Cond.arrayOver_spec (hts (.arrayOver (.object "java/lang/Object")) (by decide +kernel))
  have hTlen : (Term.length (.static "java/util/ArrayList" "DEFAULTCAPACITY_EMPTY_ELEMENTDATA" "[Ljava/lang/Object;")).eval #[Value.ref b] s none [] s = some (.int 0) := va_eqt (hflat (.eq (.length (.static "java/util/ArrayList" "DEFAULTCAPACITY_EMPTY_ELEMENTDATA" "[Ljava/lang/Object;")) (.int 0)) (by decide +kernel))
  obtain ⟨dA, cell, ht, hat, hv0⟩ := Term.length_spec hTlen
  have hsz : cell.slots.size < 2 ^ 31 := by
    have hv := hTlen
    rw [show (Term.length (.static "java/util/ArrayList" "DEFAULTCAPACITY_EMPTY_ELEMENTDATA" "[Ljava/lang/Object;")) = Term.length (.static "java/util/ArrayList" "DEFAULTCAPACITY_EMPTY_ELEMENTDATA" "[Ljava/lang/Object;") from rfl] at hv
    generalize (Term.static "java/util/ArrayList" "DEFAULTCAPACITY_EMPTY_ELEMENTDATA" "[Ljava/lang/Object;") = tm at hv ht
    simp only [Term.eval, ht, hat, Option.bind_eq_bind, Option.bind_some] at hv
    by_cases hlt : cell.slots.size < 2147483648
    · exact hlt
    · simp [hlt] at hv
  have hz0 : cell.slots.size = 0 := by
    have h1 : Int32.ofNat cell.slots.size = Int32.ofNat 0 := (Value.int.inj hv0).symm
    exact (nI_eq hsz (by decide)).mp h1
  obtain ⟨hcell, hkn, -, -⟩ := State.arrayAt?_spec hat
  have hof := (Cond.arrayOf_spec (hflat (.arrayOf (.static "java/util/ArrayList" "DEFAULTCAPACITY_EMPTY_ELEMENTDATA" "[Ljava/lang/Object;") (.object "java/lang/Object")) (by decide +kernel)) ht hcell).1
  obtain ⟨mi, hmi⟩ := va_Mi.of (hflat (.isRef (.mirror "[Ljava/lang/Object;")) (by decide +kernel))
  refine ⟨(l, ((fun k => (hk k).choose), (fun k => (hk k).choose_spec.choose)), (cI, cZ, cO), (b, dA, s.heap.size, mi), (L, xs)), rfl, rfl, rfl, rfl, ⟨?_, hX, ⟨cell, hcell, hof, hkn, hz0⟩, hbl, (Array.getElem?_eq_some_iff.mp hcell).1, Nat.le_refl _, hmi, ?_, ?_, ?_⟩, ⟨hK0, ?_⟩⟩
  · exact va_Zref (hts (.laysStatic "java/util/ArrayList" "DEFAULTCAPACITY_EMPTY_ELEMENTDATA" "[Ljava/lang/Object;") (by decide +kernel)) (hts (.initialized "java/util/ArrayList") (by decide +kernel)) ht (fun a h => Nat.not_le.mpr h)
  · intro k hk
    exact va_any rfl (hts (.castable (mkd k).1 "java/lang/Object") (mcasts k hk))
  · exact va_AO.of (hts (.arrayOver (.object "java/lang/Object")) (by decide +kernel))
  · exact va_Dc.of (hts (.declares ⟨"java/lang/Object", "getClass", "()Ljava/lang/Class;"⟩) (by decide +kernel))
  · intro k q hq
    match k, hq with
    | 0, hq => cases hq; exact ⟨fun n z => ⟨(fun k h => by cases h), kI, i2, coI, i3⟩, i1⟩
    | 1, hq => cases hq; exact ⟨fun n z => ⟨(fun k h => by cases h), kZ, z2, coZ, z3⟩, z1⟩
    | 2, hq => cases hq; exact ⟨fun n z => ⟨(fun k h => by cases h), kO, o2, coO, o3⟩, kO, coO, o2, o3, o1, o4⟩
    | k + 3, hq => simp at hq
/-- THE LAW'S BODY, if the abstract walk comes to its end with 1 -/
theorem lw_whole {p : Program} {e : Env} {s : State} {m : MethodId} {below : List Frame} {meth : Method} {c : Code} (l : Launch) {b L : Nat} {xs : Nat → Int32} (hL : L ≤ 3072) (C0 : lw_At p s m meth c b L xs)
    (T : ∀ g : mG, g.2.2.2.2.1 ≤ 3072 → mT g me_lw_law 2000 10000 1000000 0 [some (vr 14 0), none, none, none] [] (mh0 g) (fun v _ => v = some (vi 1))) :
    W p l e room_1 s m #[Value.ref b] below meth c s.heap [] 0 0 (lw_Z below #[Value.ref b] s) (entryFrame m ([Value.ref b] : List Value).toArray 4) := by
  obtain ⟨g, g1, g2, g3, g4, hO, hK⟩ := lw_start l C0
  obtain ⟨hx, hb, hr, hml, hown, hts, hX, hbl, hlocks, hgv⟩ := id C0
  rw [lg_entry_eq]
  have hne : mwf (mh0 g) (vr 14 0) := Nat.one_pos
  have hv : mco (mad0 g) (vr 14 0) = .ref b := congrArg Value.ref g3
  have hloc := mLoc.entry (ad := mad0 g) (h := mh0 g) (vs := [vr 14 0]) (n := 4) (fun v hv => by rw [List.mem_singleton.mp hv]; rfl) (by decide) (fun v hv => by rw [List.mem_singleton.mp hv]; exact hne)
  rw [List.map_cons, List.map_nil, hv] at hloc
  have T1 := T g (by rw [g2]; exact hL)
  have key := T1.use (p := p) (R := room_1) (e := e) (s := s) (mi := m) (args := #[Value.ref b]) (below := below) (meth := meth) (c := c) (H := s.heap) (locs := []) (cells := 0) (slots := 0) (ad := mad0 g) (ad0 := mad0 g) (h0 := mh0 g) (Qf := lw_Z below #[Value.ref b] s)
    ⟨⟨hx, hb, hml, hown, fun w q => hts w (List.mem_filter.mp q).1, hr, hlocks, fun q => absurd q (by decide)⟩, ⟨Nat.le_of_ble_eq_true rfl, Nat.le_of_ble_eq_true rfl, Nat.le_of_ble_eq_true rfl, Nat.le_of_ble_eq_true rfl⟩, ⟨hO, hK⟩, ⟨fun k n hn => ⟨hn, rfl⟩, mh0_sim g _⟩, ⟨hloc, fun v hv => absurd hv List.not_mem_nil⟩, va_S.rf⟩ ?_
  · rw [g1] at key
    exact key
  · intro H ls locs pc h ad v cells slots hret hq hext hsim hwf hS hc hs
    subst hq
    rw [g1]
    refine va_forget (fun q hq => by have := hS.2.2 q hq; rw [← g4]; exact this) ?_
    exact W.widen (k := 600000) (n := 7302250) hc hs (lw_ret hx hb hr hlocks hret.1)
