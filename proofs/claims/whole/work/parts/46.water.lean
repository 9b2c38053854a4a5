/-! minutes, lasts -/
theorem if_mn {a b : Nat} (ha : a ≤ 1000000) (hb : b ≤ 1000000) : (if nI a < nI b then nI a else nI b) = nI (min b a) := by
  by_cases q : a < b
  · rw [if_pos (nlt q hb), Nat.min_eq_right (by omega)]
  · rw [if_neg (nnlt (by omega) ha), Nat.min_eq_left (by omega)]
theorem if_s1 {a b : Nat} (ha : a ≤ 1000000) (hb : b ≤ 1000000) : (if (0 : Int32) < nI a - nI b then nI a - nI b else 0) = nI (a - b) := by
  by_cases q : b ≤ a
  · rw [pk_sub q]
    by_cases q2 : a - b = 0
    · rw [q2, if_neg (by decide)]; rfl
    · rw [if_pos (show (0 : Int32) < nI (a - b) from nlt (a := 0) (by omega) (by omega))]
  · have h1 : nI a - nI b < 0 := pk_sneg (by omega) (by omega)
    rw [if_neg (fun z => by rw [ilt] at z h1; omega), show a - b = 0 by omega]
    rfl
theorem if_s2 {a b : Nat} (ha : a ≤ 1000000) (hb : b ≤ 1000000) : (if nI a - nI b < (0 : Int32) then 0 else nI a - nI b) = nI (a - b) := by
  by_cases q : b ≤ a
  · rw [pk_sub q, if_neg (nnneg (by omega))]
  · rw [if_pos (pk_sneg (by omega) (by omega)), show a - b = 0 by omega]
    rfl
/-- a minute of a tank: its water, what is spilled, what lacks -/
def fil (cap s w : Nat) : Nat := min (w + s) cap
abbrev St3 : Type := Nat × Int32 × Int32
def stp (cap s o : Nat) (x : St3) : St3 := (fil cap s x.1 - o, x.2.1 + nI (x.1 + s - fil cap s x.1), x.2.2 + nI (o - fil cap s x.1))
def itr (cap s o : Nat) (x : St3) : Nat → St3
  | 0 => x
  | n + 1 => stp cap s o (itr cap s o x n)
theorem itr_le {cap s o : Nat} {x : St3} (h : x.1 ≤ cap) : ∀ n, (itr cap s o x n).1 ≤ cap
  | 0 => h
  | n + 1 => by
    show fil cap s _ - o ≤ cap
    unfold fil
    omega
def lst (cap s o : Nat) : Nat → Nat → Nat → Int32
  | 0, _, _ => -9
  | m + 1, k, w => if w = 0 then nI k else lst cap s o m (k + 1) (fil cap s w - o)
theorem hI_no {h : mH} {k n f : Nat} {v : Int32} {k' n' f' : Nat} (z : ¬ (k' = k ∧ n' = n ∧ f' = f)) : hI (setI h k n f v) k' n' f' = hI h k' n' f' := if_neg z
def updS (st : Nat → St3) (t : Nat) (x : St3) : Nat → St3 := fun i => if i = t then x else st i
section CORE
variable {h h' hm : mH} {nT nJ nK nV nT' nJ' nK' : Nat} {vs : Nat → Nat}
theorem mB.mkR {g : mG} {f1 f2 : mMe} {d mc ms : Nat} {L1 L2 : List (Option mV)} (y : Int32) (P : mH → Prop) (P2 : mH → mH → Prop) (h1 : ∀ Q : Option mV → mH → Prop, (∀ hC, P hC → Q (some (vi y)) hC) → mT g f1 d mc ms 0 L1 [] h Q) (hs : ∀ hC, P hC → mSK hC ∧ kpS h hC)
    (h2 : ∀ hC, P hC → ∀ Q : Option mV → mH → Prop, (∀ hM, P2 hC hM → Q (some (vi y)) hM) → mT g f2 d 0 0 0 L2 [] hC Q) (h3 : ∀ hC hM, P hC → P2 hC hM → mInv hM ∧ kpS hC hM) : mB g f1 f2 d mc ms L1 L2 h :=
  h1 _ fun hC p => ⟨y, rfl, (hs hC p).1, (hs hC p).2, h2 hC p _ fun hM p2 => by
    obtain ⟨i, k⟩ := h3 hC hM p p2
    obtain ⟨nT, nJ, nK, nV, vs, I⟩ := id i
    exact ⟨y, rfl, I.1.1, rfl, i, (hs hC p).2.tr k⟩⟩
/-- the numbers of a tank -/
def tkn (h : mH) (t : Nat) (cap s w : Nat) : Prop := hI h 11 8 t * hI h 11 9 t = nI cap ∧ hI h 6 t 2 * hI h 6 t 3 = nI cap ∧ cap ≤ 60000 ∧ hI h 11 10 t = nI s ∧ hI h 6 t 4 = nI s ∧ s ≤ 500 ∧ hI h 11 11 t = nI w ∧ hI h 6 t 5 = nI w ∧ w ≤ cap
theorem mCore.tks (C : mCore h nT nJ nK nV vs) : ∃ cap s w : Nat → Nat, ∀ t, t < nT → tkn h t (cap t) (s t) (w t) := by
  have e : ∀ t, t < nT → ∃ c : Nat × Nat × Nat, tkn h t c.1 c.2.1 c.2.2 := by
    intro t ht
    obtain ⟨e0, ⟨e1, e2, e3, e4, e5, e6, e7⟩, f, a, dp, sp, w, b1, b2, b3, b4, b5, b6, b7, b8, b9, b10, b11, b12⟩ := C.tk ht
    have had : a * dp ≤ 60000 := Nat.mul_le_mul b5 b8
    have hcap : hI h 11 8 t * hI h 11 9 t = nI (a * dp) := by rw [b3, b6, pk_mul]
    exact ⟨(a * dp, sp, w), hcap, by rw [e2, e3, hcap], had, b9, e4.trans b9, b10, b11, e5.trans b11, b12⟩
  refine ⟨fun t => if q : t < nT then (e t q).choose.1 else 0, fun t => if q : t < nT then (e t q).choose.2.1 else 0, fun t => if q : t < nT then (e t q).choose.2.2 else 0, fun t ht => ?_⟩
  dsimp only
  rw [dif_pos ht, dif_pos ht, dif_pos ht]
  exact (e t ht).choose_spec
/-- the flows out of the tanks -/
theorem mCore.outN (C : mCore h nT nJ nK nV vs) : ∃ o : Nat → Nat, ∀ t, t < nT → hI (asC h nT nJ) 6 t 8 = nI (o t) ∧ o t ≤ 3600 := by
  have R := sameR.rk h nT nJ (hI h 1 0 3) 0
  have C2 : mCore (asIs (asC h nT nJ) nT nJ nK) nT nJ nK nV vs := C.of (R.tr (sameR.as _ nT nJ nK))
  obtain ⟨f, o, e, _, ho⟩ := C2.flow (fun j hj => by
    obtain ⟨l, l1, _, l2⟩ := C.lk hj
    exact ⟨l, l1, by rw [asIs_lk hj]; exact l2⟩)
  refine ⟨o, fun t ht => ⟨?_, ho t ht⟩⟩
  rw [C.se8 ht]
  unfold seH rnC
  rw [rnH_34 ht, e]
/-- passes of the model -/
def pasR (h h' : mH) (t : Nat) (cap s o w : Nat) : Prop := h'.1 = h.1 ∧ (∀ k n f, ¬ (k = 10 ∧ 40 ≤ f ∧ f ≤ 42) → ¬ (k = 11 ∧ n = 33 ∧ f = t) → hI h' k n f = hI h k n f) ∧ hI h' 10 0 40 = nI (w + s - fil cap s w) ∧ hI h' 10 0 41 = nI (min (fil cap s w) o) ∧ hI h' 10 0 42 = nI (o - fil cap s w) ∧ hI h' 11 33 t = nI (fil cap s w - o)
theorem sp_passes {g : mG} {d t cap s o w : Nat} {Q : Option mV → mH → Prop} (hs : mSK h) (ht : t < 4) (e1 : hI h 11 33 t = nI w) (e2 : hI h 11 10 t = nI s) (e3 : hI h 11 8 t * hI h 11 9 t = nI cap) (e4 : hI h 11 34 t = nI o) (b1 : w ≤ 100000) (b2 : s ≤ 100000) (b3 : cap ≤ 100000) (b4 : o ≤ 100000) (K : ∀ h', pasR h h' t cap s o w → Q none h') : mT g me_fm_passes (d + 1) 0 0 0 [some (vr 10 0), some (vi (nI t)), none, none] [] h Q := by
  have hin : vp_in (nI t) 4 := nin ht (by omega)
  have ct : (nI t).toNatClampNeg = t := nc (by omega)
  refine v_fm_passes_0 _ hs ⟨hin, hin, hin, hin, hin, hin, hin, ?_⟩
  rw [ct, e1, e2, e3, e4, nI_add, if_s1 (by omega) (by omega), if_mn (by omega) (by omega)]
  have hf : min (w + s) cap = fil cap s w := rfl
  have hb : fil cap s w ≤ 100000 := by unfold fil; omega
  rw [hf, if_mn (by omega) (by omega), pk_sub (by omega), pk_sub (by omega)]
  refine K _ ⟨rfl, fun k n f z1 z2 => ?_, ?_, ?_, ?_, ?_⟩
  · exact (hI_no (fun z => z2 z)).trans ((hI_no (fun z => z1 ⟨z.1, by omega⟩)).trans ((hI_no (fun z => z1 ⟨z.1, by omega⟩)).trans (hI_no (fun z => z1 ⟨z.1, by omega⟩))))
  · show nI (w + s - cap) = _
    refine congrArg nI ?_
    unfold fil
    omega
  · rfl
  · show nI (o - min (fil cap s w) o) = _
    refine congrArg nI ?_
    omega
  · rw [hI_eq]
    refine congrArg nI ?_
    omega
/-- the class's tanks, minute by minute -/
def cM (h h' : mH) (nT : Nat) (st : Nat → St3) : Prop := h'.1 = h.1 ∧ (∀ k n f, ¬ (k = 6 ∧ 5 ≤ f ∧ f ≤ 7) → hI h' k n f = hI h k n f) ∧ ∀ t, t < nT → hI h' 6 t 5 = nI (st t).1 ∧ hI h' 6 t 6 = (st t).2.1 ∧ hI h' 6 t 7 = (st t).2.2
theorem cM.st {st st' : Nat → St3} (M : cM h h' nT st) (e : ∀ t, t < nT → st t = st' t) : cM h h' nT st' := ⟨M.1, M.2.1, fun t ht => by rw [← e t ht]; exact M.2.2 t ht⟩
theorem sp_passMinutes {g : mG} {d t cap s o n : Nat} {st : Nat → St3} {Q : Option mV → mH → Prop} (hs : mSK h) (M : cM h h' nT st) (ht : t < nT) (e2 : hI h 6 t 4 = nI s) (e3 : hI h 6 t 2 * hI h 6 t 3 = nI cap) (e4 : hI h 6 t 8 = nI o) (b1 : (st t).1 ≤ cap) (b2 : s ≤ 100000) (b3 : cap ≤ 100000) (b4 : o ≤ 100000) (bn : n ≤ 1440) (K : ∀ h2, cM h h2 nT (updS st t (itr cap s o (st t) n)) → Q none h2) : mT g me_tk_passMinutes (d + 4) 0 0 0 [some (vr 6 t), some (vi (nI n)), none, none] [] h' Q := by
  have w : ∀ i, i ≤ n → ∀ h2 o3, cM h h2 nT (updS st t (itr cap s o (st t) i)) → mT g me_tk_passMinutes (d + 4) 0 0 2 [some (vr 6 t), some (vi (nI n)), some (vi (nI i)), o3] [] h2 Q := by
    refine upTo ?_ fun i hi ih => ?_
    · intro h2 o3 M2
      exact v_tk_passMinutes_2 _ _ _ _ (hs.of M2.1) ⟨fun _ => K h2 M2, fun q => absurd (Int32.le_refl _) q⟩
    · intro h2 o3 M2
      refine v_tk_passMinutes_2 _ _ _ _ (hs.of M2.1) ⟨fun q => absurd q (nnle hi (by omega)), fun _ => ?_⟩
      obtain ⟨v1, v2, v3⟩ := M2.2.2 t ht
      have u : updS st t (itr cap s o (st t) i) t = itr cap s o (st t) i := if_pos rfl
      rw [u] at v1 v2 v3
      have bw := itr_le (s := s) (o := o) b1 i
      generalize hx : itr cap s o (st t) i = x at v1 v2 v3 bw M2
      rw [show hI h2 6 t 2 * hI h2 6 t 3 = nI cap by rw [M2.2.1 6 t 2 (by omega), M2.2.1 6 t 3 (by omega)]; exact e3, M2.2.1 6 t 4 (by omega), M2.2.1 6 t 8 (by omega), e2, e4, v1, v2, v3, nI_add, nI_1, if_mn (by omega) (by omega)]
      have hf : min (x.1 + s) cap = fil cap s x.1 := rfl
      have hb : fil cap s x.1 ≤ 100000 := by unfold fil; omega
      have hb2 : fil cap s x.1 ≤ x.1 + s := by unfold fil; omega
      rw [hf, if_s2 (by omega) (by omega), if_s2 (by omega) (by omega), pk_sub hb2]
      have M3 : cM h (setI (setI (setI h2 6 t 6 (x.2.1 + nI (x.1 + s - fil cap s x.1))) 6 t 7 (x.2.2 + nI (o - fil cap s x.1))) 6 t 5 (nI (fil cap s x.1 - o))) nT (updS st t (stp cap s o x)) := by
        refine ⟨M2.1, fun k n f z => (hI_no (fun y => z ⟨y.1, by omega⟩)).trans ((hI_no (fun y => z ⟨y.1, by omega⟩)).trans ((hI_no (fun y => z ⟨y.1, by omega⟩)).trans (M2.2.1 k n f z))), fun t' ht' => ?_⟩
        have old := M2.2.2 t' ht'
        unfold updS at old ⊢
        by_cases q : t' = t
        · subst q
          rw [if_pos rfl]
          exact ⟨hI_eq, (hI_nf (by decide)).trans ((hI_nf (by decide)).trans hI_eq), (hI_nf (by decide)).trans hI_eq⟩
        · rw [if_neg q] at old ⊢
          exact ⟨(hI_nn q).trans ((hI_nn q).trans ((hI_nn q).trans old.1)), (hI_nn q).trans ((hI_nn q).trans ((hI_nn q).trans old.2.1)), (hI_nn q).trans ((hI_nn q).trans ((hI_nn q).trans old.2.2))⟩
      have e : itr cap s o (st t) (i + 1) = stp cap s o x := by
        show stp cap s o (itr cap s o (st t) i) = _
        rw [hx]
      rw [e] at ih
      exact ih _ _ M3
  exact v_tk_passMinutes_0 _ _ (hs.of M.1) (w 0 (Nat.zero_le _) h' none (M.st fun i _ => by
    unfold updS
    by_cases q : i = t
    · rw [if_pos q, q]; rfl
    · rw [if_neg q]))
end CORE
