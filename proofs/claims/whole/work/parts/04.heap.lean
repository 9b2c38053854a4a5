/-! rules: fields, arrays, new cells -/
theorem hI_setI (h : mH) (k n f : Nat) (v : Int32) (k' n' f' : Nat) : hI (setI h k n f v) k' n' f' = if k' = k ∧ n' = n ∧ f' = f then v else hI h k' n' f' := rfl
theorem hI_ne {h : mH} {k n f : Nat} {v : Int32} {k' n' : Nat} (q : ¬ (k' = k ∧ n' = n)) : hI (setI h k n f v) k' n' = hI h k' n' := by
  funext f'
  show (if k' = k ∧ n' = n ∧ f' = f then v else hI h k' n' f') = _
  rw [if_neg (fun z => q ⟨z.1, z.2.1⟩)]
theorem hP_ne {h : mH} {k n f : Nat} {v : Option (Nat × Nat)} {k' n' : Nat} (q : ¬ (k' = k ∧ n' = n)) : hP (setP h k n f v) k' n' = hP h k' n' := by
  funext f'
  show (if k' = k ∧ n' = n ∧ f' = f then v else hP h k' n' f') = _
  rw [if_neg (fun z => q ⟨z.1, z.2.1⟩)]
theorem ment_congr {g : mG} {ad : Nat → Nat → Nat} {h h' : mH} {k n : Nat} (h1 : hI h' k n = hI h k n) (h2 : hP h' k n = hP h k n) (h3 : hL h' k n = hL h k n) (hk : k < 14) : ment g ad h' k n = ment g ad h k n := by
  unfold ment
  split
  · congr 2
    unfold mfs mfv
    rw [h1, h2]
  · split
    · rename_i q; subst q; rw [h1, h3]
    · split
      · rename_i q; subst q; rw [h1, h3]
      · have q : k = 13 := by omega
        subst q
        unfold mpt
        rw [h2, h3]
theorem mco_ad {ad ad' : Nat → Nat → Nat} {r : Option (Nat × Nat)} (hr : ∀ q, r = some q → ad' q.1 q.2 = ad q.1 q.2) : mco ad' (vp r) = mco ad (vp r) := by
  cases r with
  | none => rfl
  | some q => show Value.ref (ad' q.1 q.2) = _; rw [hr q rfl]; rfl
theorem ment_ad {g : mG} {ad ad' : Nat → Nat → Nat} {h : mH} {k n : Nat} (hr : ∀ f q, hP h k n f = some q → ad' q.1 q.2 = ad q.1 q.2) (hk : k < 14) : ment g ad' h k n = ment g ad h k n := by
  unfold ment
  split
  · congr 2
    unfold mfs
    refine List.map_congr_left fun f _ => ?_
    unfold mfv
    split
    · exact mco_ad (hr f)
    · rfl
  · split
    · rfl
    · split
      · rfl
      · have q : k = 13 := by omega
        subst q
        have e : mpt ad' h n = mpt ad h n := by
          funext f
          unfold mpt
          cases hq : hP h 13 n f with
          | none => rfl
          | some q => show some (ad' q.1 q.2) = some (ad q.1 q.2); rw [hr f q hq]
        rw [e]
theorem mSm.set {g : mG} {ad : Nat → Nat → Nat} {h h' : mH} {H H' : Heap} {ws : va_W} {ix : Nat → Nat → Nat} {k n : Nat} {e : va_E} (S : mSm g ad h H ws ix) (hk : k < 14) (hn : n < hC h k) (he : e = ment g ad h' k n) (hc : ∀ k, hC h' k = hC h k)
    (ho : ∀ k' n', k' < 14 → ¬ (k' = k ∧ n' = n) → ment g ad h' k' n' = ment g ad h k' n') (hco : mCo g ad h') (P' : va_P g.2.1 mcl (ws.set (ix k n) (ad k n, e)) H') (D' : va_D (mA g) (ws.set (ix k n) (ad k n, e))) : mSim g ad h' H' := by
  refine ⟨ws.set (ix k n) (ad k n, e), ix, ?_, ?_, P', D', hco⟩
  · intro k' n' hk' hn'
    rw [hc] at hn'
    by_cases q : k' = k ∧ n' = n
    · obtain ⟨rfl, rfl⟩ := q
      rw [List.getElem?_set_self (List.getElem?_eq_some_iff.mp (S.1 _ _ hk' hn')).1, he]
    · rw [List.getElem?_set_ne (fun z => q (by obtain ⟨a, b⟩ := S.2.1 k n k' n' hk hn hk' hn' z; exact ⟨a.symm, b.symm⟩)), S.1 _ _ hk' hn', ho _ _ hk' q]
  · intro k1 n1 k2 n2 a1 a2 a3 a4
    rw [hc] at a2 a4
    exact S.2.1 k1 n1 k2 n2 a1 a2 a3 a4
/-- the ways to a field: own class, its number in the pool, kind and place of the field -/
def mFl (own : String) (idx k f : Nat) : Prop := k < 11 ∧ f < (mkd k).2.2 ∧ ∃ ref, Cond.fieldLink own idx ref ((mkd k).2.1 f).2.1 ((mkd k).2.1 f).2.2.1 ∈ mTb ∧ (ref = ((mkd k).2.1 f).1 ∨ Cond.sameField ref ((mkd k).2.1 f).1 ((mkd k).2.1 f).2.1 ((mkd k).2.1 f).2.2.1 ∈ mTb)
theorem mfs_at {ad : Nat → Nat → Nat} {h : mH} {k n f : Nat} (hf : f < (mkd k).2.2) : (mfs ad h k n)[f]? = some (mfv ad h k n f) := by
  unfold mfs
  rw [List.getElem?_map, List.getElem?_range hf]
  rfl
theorem ment_o {g : mG} {ad : Nat → Nat → Nat} {h : mH} {k n : Nat} (hk : k < 11) : ment g ad h k n = .inr (k, mfs ad h k n) := if_pos hk
theorem mFl.same {own : String} {s : State} {args : Array Value} {k f : Nat} {ref : String} (hts : ∀ w ∈ mTb, w.before args s = true) (hr : ref = ((mkd k).2.1 f).1 ∨ Cond.sameField ref ((mkd k).2.1 f).1 ((mkd k).2.1 f).2.1 ((mkd k).2.1 f).2.2.1 ∈ mTb) :
    ∀ x, s.fieldFound? ((mkd k).2.1 f).1 ((mkd k).2.1 f).2.1 ((mkd k).2.1 f).2.2.1 = some x → s.fieldFound? ref ((mkd k).2.1 f).2.1 ((mkd k).2.1 f).2.2.1 = some x := by
  intro x hx
  rcases hr with rfl | hr
  · exact hx
  · exact u_same (hts _ hr) x hx
section TR
variable {g : mG} {m : mMe} {d mc ms pc : Nat} {L : List (Option mV)} {st : List mV} {h : mH} {Q : Option mV → mH → Prop}
theorem tr_get {k n f idx : Nat} (hc : decode m.2.1 pc = .ok (.getfield idx, 3)) (hf : mFl m.1.cls idx k f) {v : mV} (hv : ∀ ad : Nat → Nat → Nat, mfv ad h k n f = mco ad v) (hw : (∀ (k n f : Nat) (r : Nat × Nat), hP h k n f = some r → r.2 < hC h r.1) → mwf h v) (kk : mT g m d mc ms (pc + 3) L (v :: st) h Q) : mT g m d mc ms pc L (vr k n :: st) h Q := by
  intro p R e s mi args below meth c H ls locs cells slots ad ad0 h0 Qf X E
  have hst := List.forall_mem_cons.mp X.2.2.2.2.1.2
  obtain ⟨ws, ix, S⟩ := X.2.2.2.1.2
  obtain ⟨hk, hfl, ref, hlink, hsame⟩ := hf
  have hin := S.1 k n (by omega) hst.1
  rw [ment_o hk] at hin
  refine va_get (T := (mkd k).2.1) (N := (mkd k).2.2) (C := (mkd k).1) X.1.1 X.1.2.1 X.1.2.2.2.2.1 (mlays k hk) X.1.2.2.2.1 X.2.2.1.2 S.2.2.1 (ix k n) hin (mcl_at hk) f hfl (X.1.2.2.2.2.1 _ hlink) (mFl.same (own := "") X.1.2.2.2.2.1 hsame) (v := mco ad v) (by rw [mfs_at hfl, hv]) hc (kk.use (X.to X.2.2.2.2.1.1 (List.forall_mem_cons.mpr ⟨hw S.2.2.2.2.2.1, hst.2⟩)) E)
theorem tr_getI {k n f idx : Nat} (hc : decode m.2.1 pc = .ok (.getfield idx, 3)) (hf : mFl m.1.cls idx k f) (ht : misR (mty k f) = false) (kk : mT g m d mc ms (pc + 3) L (vi (hI h k n f) :: st) h Q) : mT g m d mc ms pc L (vr k n :: st) h Q :=
  tr_get hc hf (v := vi (hI h k n f)) (fun ad => by unfold mfv; rw [ht]; rfl) (fun _ => trivial) kk
theorem tr_getP {k n f idx : Nat} {r : Option (Nat × Nat)} (hc : decode m.2.1 pc = .ok (.getfield idx, 3)) (hf : mFl m.1.cls idx k f) (ht : misR (mty k f) = true) (hr : hP h k n f = r) (kk : mT g m d mc ms (pc + 3) L (vp r :: st) h Q) : mT g m d mc ms pc L (vr k n :: st) h Q :=
  tr_get hc hf (v := vp r) (fun ad => by unfold mfv; rw [ht, ← hr]; rfl) (fun hw => by cases r with
    | none => exact trivial
    | some r => exact hw k n f r hr) kk
/-- what may be stored in a field -/
def mPut (m : mMe) (k f : Nat) : Prop := ((mkd k).2.1 f).2.2.2 = false ∨ (((mkd k).2.1 f).2.2.2 = true ∧ m.1.name = "<init>" ∧ ((mkd k).2.1 f).1 = m.1.cls)
theorem tr_put {k n f idx : Nat} (hc : decode m.2.1 pc = .ok (.putfield idx, 3)) (hf : mFl m.1.cls idx k f) (hp : mPut m k f) {v : mV} {h' : mH} (hn : ∀ ad : Nat → Nat → Nat, narrow (mty k f) (mco ad v) = mco ad v ∧ fits (mty k f) (mco ad v) = true) (hC' : ∀ k, hC h' k = hC h k)
    (hv : ∀ ad : Nat → Nat → Nat, mfs ad h' k n = (mfs ad h k n).set f (mco ad v)) (ho : ∀ k' n', ¬ (k' = k ∧ n' = n) → hI h' k' n' = hI h k' n' ∧ hP h' k' n' = hP h k' n') (hL' : ∀ k n, hL h' k n = hL h k n)
    (hw : mwf h v → (∀ (k n f : Nat) (r : Nat × Nat), hP h k n f = some r → r.2 < hC h r.1) → ∀ (k n f : Nat) (r : Nat × Nat), hP h' k n f = some r → r.2 < hC h r.1) (kk : mT g m d mc ms (pc + 3) L st h' Q) : mT g m d mc ms pc L (v :: vr k n :: st) h Q := by
  intro p R e s mi args below meth c H ls locs cells slots ad ad0 h0 Qf X E
  have hst := List.forall_mem_cons.mp X.2.2.2.2.1.2
  have hst2 := List.forall_mem_cons.mp hst.2
  obtain ⟨ws, ix, S⟩ := X.2.2.2.1.2
  obtain ⟨hk, hfl, ref, hlink, hsame⟩ := hf
  have hin := S.1 k n (by omega) hst2.1
  rw [ment_o hk] at hin
  have hwf : ∀ w, mwf h w → mwf h' w := by
    intro w
    rcases w with x | x | r | r
    · exact id
    · exact id
    · exact id
    · show r.2 < _ → r.2 < _
      rw [hC']
      exact id
  have hco : mCo g ad h' := by
    obtain ⟨⟨a1, a2, a3, a4, a5, a6, a7, a8, a9⟩, b, c⟩ := S.2.2.2.2
    refine ⟨⟨a1, a2, by rw [hC']; exact a3, by rw [hC']; exact a4, by rw [hL']; exact a5, by rw [hL']; exact a6, ?_, a8, by rw [hC']; exact a9⟩, fun k n f r hr => by rw [hC']; exact hw hst.1 b k n f r hr, fun k hk => by rw [hC']; exact c k hk⟩
    rw [(ho 14 0 (fun q => by omega)).1]
    exact a7
  have kk' : ∀ (H1 : Heap) (locs1 : List Loc), va_P g.2.1 mcl (ws.set (ix k n) (ad k n, .inr (k, (mfs ad h k n).set f (mco ad v)))) H1 → va_D (mA g) (ws.set (ix k n) (ad k n, .inr (k, (mfs ad h k n).set f (mco ad v)))) → va_S (mA g) s.heap H1 locs1 → W p g.1 e R s mi args below meth c H1 locs1 cells slots Qf (F0 mi (pc + 3) ls (st.map (mco ad))) := by
    intro H1 locs1 P1 D1 S1
    refine kk.use ⟨X.1, X.2.1, X.2.2.1, ⟨?_, S.set (h' := h') (by omega) hst2.1 (by rw [ment_o hk, hv]) hC' (fun k' n' hk' q => ment_congr (ho k' n' q).1 (ho k' n' q).2 (hL' k' n') hk') hco P1 D1⟩, ⟨⟨X.2.2.2.2.1.1.1, X.2.2.2.2.1.1.2.1, X.2.2.2.2.1.1.2.2.1, fun i w hi => ⟨(X.2.2.2.2.1.1.2.2.2 i w hi).1, hwf w (X.2.2.2.2.1.1.2.2.2 i w hi).2⟩⟩, fun w hw => hwf w (hst2.2 w hw)⟩, S1⟩ E
    intro k n hn
    rw [hC']
    exact X.2.2.2.1.1 k n hn
  rcases hp with hp | ⟨hp1, hp2, hp3⟩
  · exact va_put (T := (mkd k).2.1) (N := (mkd k).2.2) (C := (mkd k).1) X.1.1 X.1.2.1 X.1.2.2.2.2.1 (mlays k hk) (mty k) (mtys_ok k hk) (mnames_ok k hk) X.1.2.2.2.1 X.2.2.1.2 S.2.2.1 S.2.2.2.1 X.2.2.2.2.2 (ix k n) hin (mcl_at hk) f hfl (X.1.2.2.2.2.1 _ hlink) (mFl.same (own := "") X.1.2.2.2.2.1 hsame) hp (mtys_ok k hk f hfl) (hn ad).1 (hn ad).2 (by unfold mfs; rw [List.length_map, List.length_range]; exact hfl) hc kk'
  · exact va_putF (T := (mkd k).2.1) (N := (mkd k).2.2) (C := (mkd k).1) X.1.1 X.1.2.1 X.1.2.2.2.2.1 (mlays k hk) (mty k) (mtys_ok k hk) (mnames_ok k hk) X.1.2.2.2.1 X.2.2.1.2 S.2.2.1 S.2.2.2.1 X.2.2.2.2.2 (ix k n) hin (mcl_at hk) f hfl (X.1.2.2.2.2.1 _ hlink) (mFl.same (own := "") X.1.2.2.2.2.1 hsame) hp1 (X.1.2.2.2.2.2.2.2 hp2) hp3 (mtys_ok k hk f hfl) (hn ad).1 (hn ad).2 (by unfold mfs; rw [List.length_map, List.length_range]; exact hfl) hc kk'
theorem mfs_setI {ad : Nat → Nat → Nat} {h : mH} {k n f : Nat} {x : Int32} (ht : misR (mty k f) = false) : mfs ad (setI h k n f x) k n = (mfs ad h k n).set f (.int x) := by
  refine List.ext_getElem? fun j => ?_
  by_cases hj : j < (mkd k).2.2
  · rw [mfs_at hj]
    by_cases q : j = f
    · subst q
      rw [List.getElem?_set_self (by unfold mfs; rw [List.length_map, List.length_range]; exact hj)]
      unfold mfv
      rw [ht]
      show some (Value.int (hI (setI h k n j x) k n j)) = _
      rw [hI_setI, if_pos ⟨rfl, rfl, rfl⟩]
    · rw [List.getElem?_set_ne (fun z => q z.symm), mfs_at hj]
      unfold mfv
      have e : hI (setI h k n f x) k n j = hI h k n j := by rw [hI_setI, if_neg (fun z => q z.2.2)]
      rw [e]
      rfl
  · rw [List.getElem?_eq_none (by unfold mfs; rw [List.length_map, List.length_range]; omega), List.getElem?_eq_none (by rw [List.length_set]; unfold mfs; rw [List.length_map, List.length_range]; omega)]
theorem mfs_setP {ad : Nat → Nat → Nat} {h : mH} {k n f : Nat} {r : Option (Nat × Nat)} (ht : misR (mty k f) = true) : mfs ad (setP h k n f r) k n = (mfs ad h k n).set f (mco ad (vp r)) := by
  refine List.ext_getElem? fun j => ?_
  by_cases hj : j < (mkd k).2.2
  · rw [mfs_at hj]
    by_cases q : j = f
    · subst q
      rw [List.getElem?_set_self (by unfold mfs; rw [List.length_map, List.length_range]; exact hj)]
      unfold mfv
      rw [ht]
      have e : hP (setP h k n j r) k n j = r := by show (if k = k ∧ n = n ∧ j = j then r else _) = r; rw [if_pos ⟨rfl, rfl, rfl⟩]
      rw [e]
      rfl
    · rw [List.getElem?_set_ne (fun z => q z.symm), mfs_at hj]
      unfold mfv
      have e : hP (setP h k n f r) k n j = hP h k n j := by show (if k = k ∧ n = n ∧ j = f then r else _) = _; rw [if_neg (fun z => q z.2.2)]; rfl
      rw [e]
      rfl
  · rw [List.getElem?_eq_none (by unfold mfs; rw [List.length_map, List.length_range]; omega), List.getElem?_eq_none (by rw [List.length_set]; unfold mfs; rw [List.length_map, List.length_range]; omega)]
theorem tr_putI {k n f idx : Nat} {x : Int32} (hc : decode m.2.1 pc = .ok (.putfield idx, 3)) (hf : mFl m.1.cls idx k f) (hp : mPut m k f) (ht : misR (mty k f) = false) (hn : narrow (mty k f) (.int x) = .int x ∧ fits (mty k f) (.int x) = true) (kk : mT g m d mc ms (pc + 3) L st (setI h k n f x) Q) : mT g m d mc ms pc L (vi x :: vr k n :: st) h Q :=
  tr_put (v := vi x) (h' := setI h k n f x) hc hf hp (fun _ => hn) (fun _ => rfl) (fun ad => mfs_setI ht) (fun k' n' q => ⟨hI_ne q, rfl⟩) (fun _ _ => rfl) (fun _ hw => hw) kk
theorem mnar_r {t : FieldType} (ht : misR t = true) (ad : Nat → Nat → Nat) (r : Option (Nat × Nat)) : narrow t (mco ad (vp r)) = mco ad (vp r) ∧ fits t (mco ad (vp r)) = true := by
  cases t <;> first | (simp [misR] at ht; done) | (cases r <;> exact ⟨rfl, rfl⟩)
theorem tr_putP {k n f idx : Nat} {r : Option (Nat × Nat)} (hc : decode m.2.1 pc = .ok (.putfield idx, 3)) (hf : mFl m.1.cls idx k f) (hp : mPut m k f) (ht : misR (mty k f) = true) (kk : mT g m d mc ms (pc + 3) L st (setP h k n f r) Q) : mT g m d mc ms pc L (vp r :: vr k n :: st) h Q := by
  refine tr_put (v := vp r) (h' := setP h k n f r) hc hf hp (fun ad => mnar_r ht ad r) (fun _ => rfl) (fun ad => mfs_setP ht) (fun k' n' q => ⟨rfl, hP_ne q⟩) (fun _ _ => rfl) ?_ kk
  intro hv hw k' n' f' r' hr
  by_cases q : k' = k ∧ n' = n ∧ f' = f
  · have e : hP (setP h k n f r) k' n' f' = r := if_pos q
    rw [e] at hr
    subst hr
    exact hv
  · have e : hP (setP h k n f r) k' n' f' = hP h k' n' f' := if_neg q
    rw [e] at hr
    exact hw _ _ _ _ hr
end TR
