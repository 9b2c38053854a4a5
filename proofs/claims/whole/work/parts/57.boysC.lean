/-! boys of the class -/
def srt (L : List Tk) : Prop := ∀ (i k : Nat) (x y : Tk), i < k → L[i]? = some x → L[k]? = some y → x.1 ≤ y.1
theorem chg_mem {m : Nat} {a b : Int32} : ∀ k x, x ∈ chg m a b k → x.1 = m ∧ x.2.1 < k
  | 0, x, h => by simp [chg] at h
  | k + 1, x, h => by
    unfold chg at h
    rw [List.mem_append] at h
    rcases h with h | h
    · have := chg_mem k x h
      exact ⟨this.1, by omega⟩
    · split at h
      · simp at h
      · rw [List.mem_singleton] at h
        rw [h]
        exact ⟨rfl, by show k < k + 1; omega⟩
theorem srt_app {L : List Tk} {m : Nat} {a b : Int32} {k : Nat} (h : srt L) (hL : ∀ x ∈ L, x.1 ≤ m) : srt (L ++ chg m a b k) ∧ ∀ x ∈ L ++ chg m a b k, x.1 ≤ m := by
  have hm : ∀ x ∈ L ++ chg m a b k, x.1 ≤ m := by
    intro x hx
    rw [List.mem_append] at hx
    rcases hx with hx | hx
    · exact hL x hx
    · have := (chg_mem k x hx).1
      omega
  refine ⟨fun i j x y hij ex ey => ?_, hm⟩
  by_cases q : j < L.length
  · rw [List.getElem?_append_left q] at ey
    rw [List.getElem?_append_left (by omega)] at ex
    exact h i j x y hij ex ey
  · rw [List.getElem?_append_right (by omega)] at ey
    have e1 := (chg_mem k y (List.mem_of_getElem? ey)).1
    have e2 := hm x (List.mem_of_getElem? ex)
    omega
theorem abs_n {a b : Nat} (ha : a ≤ 1000000) (hb : b ≤ 1000000) : (if 0 ≤ nI a - nI b then nI a - nI b else 0 - (nI a - nI b)) = nI (dst a b) := by
  unfold dst
  by_cases q : b ≤ a
  · rw [pk_sub q, if_pos (nI_pos' (by omega)), show b - a = 0 by omega]
    rfl
  · have h1 : nI a - nI b < 0 := pk_sneg (by omega) (by omega)
    rw [if_neg (fun z => by rw [ilt] at h1; rw [ile] at z; omega), show a - b = 0 by omega, Int32.zero_sub, Int32.neg_sub, pk_sub (by omega), Nat.zero_add]
theorem run_n {a b p D : Nat} (ha : a ≤ 1000) (hb : b ≤ 1000) (hp : p ≤ 1000) (hD : D ≤ 1000000) : (nI a - nI b) * nI p ≤ nI D ↔ ¬ D < (a - b) * p := by
  by_cases q : b ≤ a
  · have h1 : (a - b) * p ≤ 1000 * 1000 := Nat.mul_le_mul (by omega) hp
    rw [pk_sub q, pk_mul, nle_iff (by omega) hD]
    omega
  · have h1 : (b - a) * p ≤ 1000 * 1000 := Nat.mul_le_mul (by omega) hp
    rw [← Int32.neg_sub (a := nI b) (b := nI a), pk_sub (by omega), Int32.neg_mul, pk_mul, ← Int32.zero_sub, show a - b = 0 by omega, Nat.zero_mul]
    rw [ile, show (0 : Int32) = nI 0 from rfl, pk_sub_toInt (by omega) (by omega), nI_toInt (by omega)]
    omega
section CORE
variable {h h' hm : mH} {nT nJ nK nV nT' nJ' nK' : Nat} {vs : Nat → Nat}
theorem tkS_srt (C : mCore h nT nJ nK nV vs) : ∀ v, v ≤ nV → srt (tkS h nK v).1 ∧ (∀ x ∈ (tkS h nK v).1, x.1 ≤ (tkS h nK v).2.2) ∧ (∀ x ∈ (tkS h nK v).1, x.2.1 < nK) ∧ (tkS h nK v).2.2 ≤ 1441 ∧ (v < nV → (tkS h nK v).2.2 ≤ vF h v) := by
  intro v
  induction v with
  | zero =>
    intro _
    refine ⟨fun i k x y _ e => (by rw [show (tkS h nK 0).1 = [] from rfl] at e; simp at e), fun x e => (by rw [show (tkS h nK 0).1 = [] from rfl] at e; simp at e), fun x e => (by rw [show (tkS h nK 0).1 = [] from rfl] at e; simp at e), Nat.zero_le _, fun _ => Nat.zero_le _⟩
  | succ v ih =>
    intro hv
    obtain ⟨s1, s2, s3, s4, s5⟩ := ih (by omega)
    have s5 := s5 (by omega)
    obtain ⟨n1, n2, n3, n4, n5, n6, n7⟩ := C.vn (v := v) (by omega)
    have hft : vF h v ≤ vT h v := by
      have := (C.vw (v := v) (by omega)).2.2.2.2.1
      rw [n1, n4] at this
      exact (nle_iff (by omega) (by omega)).mp this
    have e : (tkS h nK (v + 1)).1 = (if (tkS h nK v).2.2 = vF h v then (tkS h nK v).1 ++ chg (vF h v) (tkS h nK v).2.1 (hI h 11 24 v) nK
      else ((tkS h nK v).1 ++ chg (tkS h nK v).2.2 (tkS h nK v).2.1 0 nK) ++ chg (vF h v) 0 (hI h 11 24 v) nK) := rfl
    have e2 : (tkS h nK (v + 1)).2.2 = vT h v + 1 := rfl
    rw [e, e2]
    refine ⟨?_, ?_, ?_, by omega, fun z => (C.vn (v := v + 1) z).2.2.2.2.2.2 v (by omega)⟩
    · by_cases q : (tkS h nK v).2.2 = vF h v
      · rw [if_pos q]
        exact (srt_app s1 (fun x hx => by have := s2 x hx; omega)).1
      · rw [if_neg q]
        have t := srt_app (m := (tkS h nK v).2.2) (a := (tkS h nK v).2.1) (b := 0) (k := nK) s1 s2
        exact (srt_app t.1 (fun x hx => by have := t.2 x hx; omega)).1
    · intro x hx
      by_cases q : (tkS h nK v).2.2 = vF h v
      · rw [if_pos q] at hx
        have := (srt_app (m := vF h v) (a := (tkS h nK v).2.1) (b := hI h 11 24 v) (k := nK) s1 (fun x hx => by have := s2 x hx; omega)).2 x hx
        omega
      · rw [if_neg q] at hx
        have t := srt_app (m := (tkS h nK v).2.2) (a := (tkS h nK v).2.1) (b := 0) (k := nK) s1 s2
        have := (srt_app (m := vF h v) (a := 0) (b := hI h 11 24 v) (k := nK) t.1 (fun x hx => by have := t.2 x hx; omega)).2 x hx
        omega
    · intro x hx
      by_cases q : (tkS h nK v).2.2 = vF h v
      · rw [if_pos q, List.mem_append] at hx
        rcases hx with hx | hx
        · exact s3 x hx
        · exact (chg_mem nK x hx).2
      · rw [if_neg q, List.mem_append, List.mem_append] at hx
        rcases hx with (hx | hx) | hx
        · exact s3 x hx
        · exact (chg_mem nK x hx).2
        · exact (chg_mem nK x hx).2
theorem tkL_srt (C : mCore h nT nJ nK nV vs) : srt (tkL h nK nV) ∧ ∀ x ∈ tkL h nK nV, x.1 ≤ 1441 ∧ x.2.1 < nK := by
  obtain ⟨s1, s2, s3, s4, s5⟩ := tkS_srt C nV (Nat.le_refl _)
  have t := srt_app (m := (tkS h nK nV).2.2) (a := (tkS h nK nV).2.1) (b := 0) (k := nK) s1 s2
  refine ⟨t.1, fun x hx => ⟨?_, ?_⟩⟩
  · have := t.2 x hx
    omega
  · unfold tkL at hx
    rw [List.mem_append] at hx
    rcases hx with hx | hx
    · exact s3 x hx
    · exact (chg_mem nK x hx).2
/-- minutes and joints of tasks -/
def Mf (L : List Tk) (i : Nat) : Nat := (L[i]?.map (·.1)).getD 0
def Jf (h : mH) (L : List Tk) (i : Nat) : Nat := (L[i]?.map (fun x => nP h x.2.1)).getD 0
theorem tk_at (C : mCore h nT nJ nK nV vs) {i : Nat} (hi : i < (tkL h nK nV).length) : ∃ x, (tkL h nK nV)[i]? = some x ∧ Mf (tkL h nK nV) i = x.1 ∧ Jf h (tkL h nK nV) i = nP h x.2.1 ∧ x.1 ≤ 1441 ∧ x.2.1 < nK ∧ nP h x.2.1 < nJ := by
  obtain ⟨x, e⟩ : ∃ x, (tkL h nK nV)[i]? = some x := ⟨_, List.getElem?_eq_getElem hi⟩
  obtain ⟨b1, b2⟩ := (tkL_srt C).2 x (List.mem_of_getElem? e)
  refine ⟨x, e, ?_, ?_, b1, b2, (C.nP_lt b2).1⟩
  · unfold Mf; rw [e]; rfl
  · unfold Jf; rw [e]; rfl
theorem sp_ahead {g : mG} {d p i r : Nat} {Q : Option mV → mH → Prop} (C : mCore h nT nJ nK nV vs) (R : sameA h h') (T : tCr h h' (tkL h nK nV)) (bn : (tkL h nK nV).length ≤ 60) (bp : p ≤ 30) (hi : i < (tkL h nK nV).length) (hr : Jf h (tkL h nK nV) i = r) (hA : ∀ k, k < (tkL h nK nV).length → Jf h (tkL h nK nV) k < r → hI h' 11 4 k = nI (aR (Mf (tkL h nK nV)) (Jf h (tkL h nK nV)) p (tkL h nK nV).length r k)) (bA : ∀ k, aR (Mf (tkL h nK nV)) (Jf h (tkL h nK nV)) p (tkL h nK nV).length r k ≤ 1000)
    (K : Q (some (vi (nI (mxK (Mf (tkL h nK nV)) (Jf h (tkL h nK nV)) p (aR (Mf (tkL h nK nV)) (Jf h (tkL h nK nV)) p (tkL h nK nV).length r) i (tkL h nK nV).length)))) h') : mT g me_tl_mostApartAhead (d + 1) 0 0 0 [some (vr 4 0), some (vi (nI i)), some (vi (nI p)), none, none, none] [] h' Q := by
  have bJ := C.2.1.2.1
  have hs := C.1.of R.1
  have en := T.2
  obtain ⟨x, ex, x1, x2, x3, x4, x5⟩ := tk_at C hi
  obtain ⟨r1, r2, r3, r4⟩ := T.1 i x ex
  refine v_tl_mostApartAhead_0 _ _ hs ⟨fun q => absurd q (nnneg (by omega)), fun _ => ⟨fun _ => ?_, fun q => absurd (nlt (b := 576) (by omega) (by omega)) q⟩⟩
  have bm : ∀ k, mxK (Mf (tkL h nK nV)) (Jf h (tkL h nK nV)) p (aR (Mf (tkL h nK nV)) (Jf h (tkL h nK nV)) p (tkL h nK nV).length r) i k ≤ 1000 := fun k => by
    rcases mxK_is (M := Mf (tkL h nK nV)) (J := Jf h (tkL h nK nV)) (p := p) (A := aR (Mf (tkL h nK nV)) (Jf h (tkL h nK nV)) p (tkL h nK nV).length r) (i := i) k with z | ⟨l, _, _, z⟩
    · omega
    · rw [z]; exact bA l
  have w : ∀ k, k ≤ (tkL h nK nV).length → ∀ o5, mT g me_tl_mostApartAhead (d + 1) 0 0 20 [some (vr 4 0), some (vi (nI i)), some (vi (nI p)), some (vi (nI (mxK (Mf (tkL h nK nV)) (Jf h (tkL h nK nV)) p (aR (Mf (tkL h nK nV)) (Jf h (tkL h nK nV)) p (tkL h nK nV).length r) i k))), some (vi (nI k)), o5] [] h' Q := by
    refine upTo ?_ fun k hk ih => ?_
    · intro o5
      exact v_tl_mostApartAhead_20 _ _ _ _ _ hs ⟨fun _ => K, fun q => absurd (by rw [en]; exact Int32.le_refl _) q⟩
    · intro o5
      obtain ⟨y, ey, y1, y2, y3, y4, y5⟩ := tk_at C hk
      obtain ⟨q1, q2, q3, q4⟩ := T.1 k y ey
      have ii : vp_in (nI i) 576 := nin (by omega) (by omega)
      have kk : vp_in (nI k) 576 := nin (by omega) (by omega)
      refine v_tl_mostApartAhead_20 _ _ _ _ _ hs ⟨fun q => absurd q (by rw [en]; exact nnle hk (by omega)), fun _ => ⟨fun q => absurd q (nnle (a := 576) (by omega) (by omega)), fun _ => ⟨ii, kk, ii, kk, ?_⟩⟩⟩
      rw [nc (by omega : i ≤ 1000000), nc (by omega : k ≤ 1000000), r1, r4, q1, q4, abs_n (by omega) (by omega), nI_1 k]
      have hd : dst x.1 y.1 ≤ 1000000 := by unfold dst; omega
      have hap : ap (Mf (tkL h nK nV)) (Jf h (tkL h nK nV)) p i k = decide (dst x.1 y.1 < (nP h x.2.1 - nP h y.2.1) * p) := by unfold ap; rw [x1, x2, y1, y2]
      rw [run_n (by omega) (by omega) (by omega) hd]
      have em : mxK (Mf (tkL h nK nV)) (Jf h (tkL h nK nV)) p (aR (Mf (tkL h nK nV)) (Jf h (tkL h nK nV)) p (tkL h nK nV).length r) i (k + 1) = if ap (Mf (tkL h nK nV)) (Jf h (tkL h nK nV)) p i k = true then max (mxK (Mf (tkL h nK nV)) (Jf h (tkL h nK nV)) p (aR (Mf (tkL h nK nV)) (Jf h (tkL h nK nV)) p (tkL h nK nV).length r) i k) (aR (Mf (tkL h nK nV)) (Jf h (tkL h nK nV)) p (tkL h nK nV).length r k) else mxK (Mf (tkL h nK nV)) (Jf h (tkL h nK nV)) p (aR (Mf (tkL h nK nV)) (Jf h (tkL h nK nV)) p (tkL h nK nV).length r) i k := rfl
      rw [em] at ih
      refine ⟨fun q => ?_, fun q => ⟨kk, ?_⟩⟩
      · have : ap (Mf (tkL h nK nV)) (Jf h (tkL h nK nV)) p i k = false := by rw [hap]; exact decide_eq_false q
        rw [if_neg (by rw [this]; decide)] at ih
        exact ih _
      · have z : ap (Mf (tkL h nK nV)) (Jf h (tkL h nK nV)) p i k = true := by rw [hap]; exact decide_eq_true (Classical.not_not.mp q)
        rw [if_pos z] at ih
        have lk := ap_lt z
        rw [hA k hk (by omega)]
        have b1 := bm k
        have b2 := bA k
        generalize mxK (Mf (tkL h nK nV)) (Jf h (tkL h nK nV)) p (aR (Mf (tkL h nK nV)) (Jf h (tkL h nK nV)) p (tkL h nK nV).length r) i k = u at ih b1 ⊢
        generalize aR (Mf (tkL h nK nV)) (Jf h (tkL h nK nV)) p (tkL h nK nV).length r k = v at ih b2 ⊢
        have e : (if nI u < nI v then nI v else nI u) = nI (max u v) := by
          by_cases y : u < v
          · rw [if_pos (nlt y (by omega)), Nat.max_eq_right (by omega)]
          · rw [if_neg (nnlt (by omega) (by omega)), Nat.max_eq_left (by omega)]
        rw [e]
        exact ih _
  exact w 0 (Nat.zero_le _) none
theorem aR_le {M J : Nat → Nat} {p n : Nat} : ∀ r i, aR M J p n r i ≤ r
  | 0, _ => Nat.le_refl _
  | r + 1, i => by
    show (if J i = r then 1 + mxK M J p (aR M J p n r) i n else aR M J p n r i) ≤ r + 1
    split
    · rcases mxK_is (M := M) (J := J) (p := p) (A := aR M J p n r) (i := i) n with z | ⟨k, _, _, z⟩
      · omega
      · have := aR_le (M := M) (J := J) (p := p) (n := n) r k
        omega
    · have := aR_le (M := M) (J := J) (p := p) (n := n) r i
      omega
theorem sp_fewest {g : mG} {d p : Nat} {Q : Option mV → mH → Prop} (C : mCore h nT nJ nK nV vs) (R : sameA h h') (T : tCr h h' (tkL h nK nV)) (bn : (tkL h nK nV).length ≤ 60) (bp : p ≤ 30)
    (K : ∀ h2 F, sameA h h2 → F ≤ 1000 → (∀ i, i < (tkL h nK nV).length → aR (Mf (tkL h nK nV)) (Jf h (tkL h nK nV)) p (tkL h nK nV).length 30 i ≤ F) → (F = 0 ∨ ∃ i, i < (tkL h nK nV).length ∧ F = aR (Mf (tkL h nK nV)) (Jf h (tkL h nK nV)) p (tkL h nK nV).length 30 i) → Q (some (vi (nI F))) h2) : mT g me_tl_fewestBoys (d + 2) 0 0 0 [some (vr 4 0), some (vi (nI p)), none, none, none] [] h' Q := by
  have bJ := C.2.1.2.1
  have hJ30 : ∀ i, i < (tkL h nK nV).length → Jf h (tkL h nK nV) i < 30 := fun i hi => by
    obtain ⟨x, _, _, x2, _, _, x5⟩ := tk_at C hi
    omega
  refine v_tl_fewestBoys_0 _ (C.1.of R.1) ?_
  have w : ∀ r, r ≤ 30 → ∀ h2 F o4, sameA h h2 → tCr h h2 (tkL h nK nV) → F ≤ 1000 → (∀ i, i < (tkL h nK nV).length → Jf h (tkL h nK nV) i < r → hI h2 11 4 i = nI (aR (Mf (tkL h nK nV)) (Jf h (tkL h nK nV)) p (tkL h nK nV).length r i) ∧ aR (Mf (tkL h nK nV)) (Jf h (tkL h nK nV)) p (tkL h nK nV).length r i ≤ F) → (F = 0 ∨ ∃ i, i < (tkL h nK nV).length ∧ Jf h (tkL h nK nV) i < r ∧ F = aR (Mf (tkL h nK nV)) (Jf h (tkL h nK nV)) p (tkL h nK nV).length r i) → mT g me_tl_fewestBoys (d + 2) 0 0 4 [some (vr 4 0), some (vi (nI p)), some (vi (nI F)), some (vi (nI r)), o4] [] h2 Q := by
    refine upTo ?_ fun r hr ih => ?_
    · intro h2 F o4 R2 T2 bF hA hF
      refine v_tl_fewestBoys_4 _ _ _ _ (C.1.of R2.1) ⟨fun _ => K h2 F R2 bF (fun i hi => (hA i hi (hJ30 i hi)).2) ?_, fun q => absurd (Int32.le_refl _) q⟩
      rcases hF with z | ⟨i, i1, _, i2⟩
      · exact Or.inl z
      · exact Or.inr ⟨i, i1, i2⟩
    · intro h2 F o4 R2 T2 bF hA hF
      refine v_tl_fewestBoys_4 _ _ _ _ (C.1.of R2.1) ⟨fun q => absurd q (nnle (a := 30) hr (by omega)), fun _ => ?_⟩
      have w2 : ∀ i, i ≤ (tkL h nK nV).length → ∀ h3 F, sameA h h3 → tCr h h3 (tkL h nK nV) → F ≤ 1000 → (∀ k, k < (tkL h nK nV).length → (Jf h (tkL h nK nV) k < r ∨ (Jf h (tkL h nK nV) k = r ∧ k < i)) → hI h3 11 4 k = nI (aR (Mf (tkL h nK nV)) (Jf h (tkL h nK nV)) p (tkL h nK nV).length (r + 1) k) ∧ aR (Mf (tkL h nK nV)) (Jf h (tkL h nK nV)) p (tkL h nK nV).length (r + 1) k ≤ F) → (F = 0 ∨ ∃ k, k < (tkL h nK nV).length ∧ Jf h (tkL h nK nV) k < r + 1 ∧ F = aR (Mf (tkL h nK nV)) (Jf h (tkL h nK nV)) p (tkL h nK nV).length (r + 1) k) → mT g me_tl_fewestBoys (d + 2) 0 0 13 [some (vr 4 0), some (vi (nI p)), some (vi (nI F)), some (vi (nI r)), some (vi (nI i))] [] h3 Q := by
        refine upTo ?_ fun i hi ih2 => ?_
        · intro h3 F R3 T3 bF hA hF
          refine v_tl_fewestBoys_13 _ _ _ _ (C.1.of R3.1) ⟨fun _ => ?_, fun q => absurd (by rw [T3.2]; exact Int32.le_refl _) q⟩
          rw [nI_1]
          exact ih h3 F _ R3 T3 bF (fun k hk z => hA k hk (by omega)) hF
        · intro h3 F R3 T3 bF hA hF
          have hin : vp_in (nI i) 576 := nin (by omega) (by omega)
          have ci : (nI i).toNatClampNeg = i := nc (by omega)
          obtain ⟨x, ex, x1, x2, x3, x4, x5⟩ := tk_at C hi
          obtain ⟨r1, r2, r3, r4⟩ := T3.1 i x ex
          refine v_tl_fewestBoys_13 _ _ _ _ (C.1.of R3.1) ⟨fun q => absurd q (by rw [T3.2]; exact nnle hi (by omega)), fun _ => ⟨fun q => absurd q (nnle (a := 576) (by omega) (by omega)), fun _ => ⟨hin, ?_⟩⟩⟩
          rw [ci, r4, neq_iff (by omega) (by omega), nI_1, ← x2]
          refine ⟨fun q => ?_, fun q => ?_⟩
          · exact ih2 h3 F R3 T3 bF (fun k hk z => hA k hk (by
              rcases z with z | ⟨z, z2⟩
              · exact Or.inl z
              · refine Or.inr ⟨z, ?_⟩
                by_cases y : k = i
                · rw [y] at z; exact absurd z q
                · omega)) hF
          · have kr : ∀ k, Jf h (tkL h nK nV) k < r → aR (Mf (tkL h nK nV)) (Jf h (tkL h nK nV)) p (tkL h nK nV).length (r + 1) k = aR (Mf (tkL h nK nV)) (Jf h (tkL h nK nV)) p (tkL h nK nV).length r k := fun k z => aR_keep r (r + 1) z (by omega)
            have ea : aR (Mf (tkL h nK nV)) (Jf h (tkL h nK nV)) p (tkL h nK nV).length (r + 1) i = 1 + mxK (Mf (tkL h nK nV)) (Jf h (tkL h nK nV)) p (aR (Mf (tkL h nK nV)) (Jf h (tkL h nK nV)) p (tkL h nK nV).length r) i (tkL h nK nV).length := by
              show (if Jf h (tkL h nK nV) i = r then _ else _) = _
              rw [if_pos q]
            have ba := aR_le (M := Mf (tkL h nK nV)) (J := Jf h (tkL h nK nV)) (p := p) (n := (tkL h nK nV).length) (r + 1) i
            refine sp_ahead (d := d) (r := r) C R3 T3 bn bp hi q (fun k hk z => by rw [← kr k z]; exact (hA k hk (Or.inl z)).1) (fun k => by have := aR_le (M := Mf (tkL h nK nV)) (J := Jf h (tkL h nK nV)) (p := p) (n := (tkL h nK nV).length) r k; omega) ⟨_, rfl, C.1.of R3.1, hin, hin, ?_⟩
            rw [show (1 : Int32) = nI 1 from rfl, nI_add, ← ea]
            have em : (if nI F < nI (aR (Mf (tkL h nK nV)) (Jf h (tkL h nK nV)) p (tkL h nK nV).length (r + 1) i) then nI (aR (Mf (tkL h nK nV)) (Jf h (tkL h nK nV)) p (tkL h nK nV).length (r + 1) i) else nI F) = nI (max F (aR (Mf (tkL h nK nV)) (Jf h (tkL h nK nV)) p (tkL h nK nV).length (r + 1) i)) := by
              by_cases y : F < aR (Mf (tkL h nK nV)) (Jf h (tkL h nK nV)) p (tkL h nK nV).length (r + 1) i
              · rw [if_pos (nlt y (by omega)), Nat.max_eq_right (by omega)]
              · rw [if_neg (nnlt (by omega) (by omega)), Nat.max_eq_left (by omega)]
            rw [em]
            refine ih2 _ _ (R3.sI rfl) ⟨fun i' x' e' => ?_, T3.2⟩ (by omega) (fun k hk z => ?_) ?_
            · have := T3.1 i' x' e'
              exact this
            · show hI (setI h3 11 4 i _) 11 4 k = _ ∧ _
              rw [hI_setI2]
              by_cases y : k = i
              · rw [if_pos y, y]
                exact ⟨rfl, by omega⟩
              · rw [if_neg y]
                have := hA k hk (by
                  rcases z with z | ⟨z, z2⟩
                  · exact Or.inl z
                  · exact Or.inr ⟨z, by omega⟩)
                exact ⟨this.1, by omega⟩
            · by_cases y : F ≤ aR (Mf (tkL h nK nV)) (Jf h (tkL h nK nV)) p (tkL h nK nV).length (r + 1) i
              · exact Or.inr ⟨i, hi, by omega, by omega⟩
              · rw [Nat.max_eq_left (by omega)]
                exact hF
      refine w2 0 (Nat.zero_le _) h2 F R2 T2 bF (fun k hk z => ?_) ?_
      · rcases z with z | ⟨_, z⟩
        · have e := aR_keep (M := Mf (tkL h nK nV)) (J := Jf h (tkL h nK nV)) (p := p) (n := (tkL h nK nV).length) r (r + 1) z (by omega)
          rw [e]
          exact hA k hk z
        · exact absurd z (Nat.not_lt_zero _)
      · rcases hF with z | ⟨i, i1, i2, i3⟩
        · exact Or.inl z
        · refine Or.inr ⟨i, i1, by omega, ?_⟩
          rw [aR_keep (M := Mf (tkL h nK nV)) (J := Jf h (tkL h nK nV)) (p := p) (n := (tkL h nK nV).length) r (r + 1) i2 (by omega)]
          exact i3
  exact w 0 (Nat.zero_le _) h' 0 none R T (by omega) (fun i _ z => absurd z (Nat.not_lt_zero _)) (Or.inl rfl)
end CORE
