/-! flows are small numbers; rows built up from the first places -/
theorem flR_congr {emp emp' : Nat → Bool} {ah ah' : Nat → Option Nat} {fd fd' : Nat → Nat} {own own' : Nat → Int32} : ∀ (n : Nat) (s : (Nat → Int32) × (Nat → Int32)), (∀ j, j < n → emp j = emp' j ∧ ah j = ah' j ∧ fd j = fd' j ∧ own j = own' j) → flR emp ah fd own n s = flR emp' ah' fd' own' n s
  | 0, _, _ => rfl
  | n + 1, s, h => by
    obtain ⟨h1, h2, h3, h4⟩ := h n (by omega)
    have e : flS emp ah fd own n s = flS emp' ah' fd' own' n s := by
      unfold flS
      rw [h1, h2, h3, h4]
    unfold flR
    rw [e]
    exact flR_congr n _ (fun j hj => h j (by omega))
def updN (f : Nat → Nat) (k v : Nat) : Nat → Nat := fun j => if j = k then v else f j
theorem upd_nI (f : Nat → Nat) (k v : Nat) : upd (fun j => nI (f j)) k (nI v) = fun j => nI (updN f k v j) := by
  funext j
  show (if j = k then nI v else nI (f j)) = nI (if j = k then v else f j)
  by_cases q : j = k
  · rw [if_pos q, if_pos q]
  · rw [if_neg q, if_neg q]
def sumTo (f : Nat → Nat) : Nat → Nat
  | 0 => 0
  | n + 1 => sumTo f n + f n
theorem sumTo_out {f : Nat → Nat} {k v : Nat} : ∀ n, n ≤ k → sumTo (updN f k v) n = sumTo f n
  | 0, _ => rfl
  | n + 1, h => by
    unfold sumTo
    rw [sumTo_out n (by omega), show updN f k v n = f n from if_neg (by omega)]
theorem sumTo_in {f : Nat → Nat} {k v : Nat} : ∀ n, k < n → sumTo (updN f k (f k + v)) n = sumTo f n + v
  | 0, h => by omega
  | n + 1, h => by
    unfold sumTo
    by_cases q : n = k
    · subst q
      rw [sumTo_out n (Nat.le_refl _), show updN f n (f n + v) n = f n + v from if_pos rfl]
      omega
    · rw [sumTo_in n (by omega), show updN f k (f k + v) n = f n from if_neg q]
      omega
theorem sumTo_ge {f : Nat → Nat} {k : Nat} : ∀ n, k < n → f k ≤ sumTo f n
  | 0, h => by omega
  | n + 1, h => by
    unfold sumTo
    by_cases q : n = k
    · subst q; omega
    · have := sumTo_ge (f := f) (k := k) n (by omega); omega
theorem updN_s (f : Nat → Nat) (k v : Nat) : updN f k v k = v := if_pos rfl
theorem updN_n {f : Nat → Nat} {k v j : Nat} (h : j ≠ k) : updN f k v j = f j := if_neg h
theorem fl_bound {emp : Nat → Bool} {ah : Nat → Option Nat} {fd : Nat → Nat} {own : Nat → Int32} {w : Nat → Nat} {n nT : Nat} (hn : n ≤ 30) (hw : ∀ j, j < n → own j = nI (w j) ∧ w j ≤ 120) (ha : ∀ j a, j < n → ah j = some a → a < j) (hf : ∀ j, j < n → fd j < nT) :
    ∀ i, i ≤ n → ∀ (f o : Nat → Nat), sumTo f i + sumTo o nT ≤ 120 * (n - i) → (∀ j, i ≤ j → j < n → f j ≤ 3600) →
      ∃ f' o' : Nat → Nat, flR emp ah fd own i (fun j => nI (f j), fun t => nI (o t)) = (fun j => nI (f' j), fun t => nI (o' t)) ∧ (∀ j, j < n → f' j ≤ 3600) ∧ (∀ t, t < nT → o' t ≤ 3600) := by
  intro i
  induction i with
  | zero =>
    intro _ f o hs hb
    refine ⟨f, o, rfl, fun j hj => hb j (Nat.zero_le _) hj, fun t ht => ?_⟩
    have := sumTo_ge (f := o) nT ht
    omega
  | succ i ih =>
    intro hi f o hs hb
    have hsum : sumTo f (i + 1) = sumTo f i + f i := rfl
    obtain ⟨w1, w2⟩ := hw i (by omega)
    unfold flR
    by_cases he : emp i = true
    · rw [flS_e he]
      refine ih (by omega) f o (by omega) fun j h1 h2 => ?_
      by_cases q : j = i
      · subst q; omega
      · exact hb j (by omega) h2
    · cases hA : ah i with
      | none =>
        rw [flS_n he hA]
        have e1 : (upd (fun j => nI (f j)) i (nI (f i) + own i), upd (fun t => nI (o t)) (fd i) (nI (o (fd i)) + (nI (f i) + own i))) = ((fun j => nI (updN f i (f i + w i) j)), (fun t => nI (updN o (fd i) (o (fd i) + (f i + w i)) t))) := by
          rw [w1, nI_add, nI_add, upd_nI, upd_nI]
        show ∃ f' o' : Nat → Nat, flR emp ah fd own i (upd (fun j => nI (f j)) i (nI (f i) + own i), upd (fun t => nI (o t)) (fd i) (nI (o (fd i)) + (nI (f i) + own i))) = _ ∧ _
        rw [e1]
        refine ih (by omega) _ _ ?_ fun j h1 h2 => ?_
        · rw [sumTo_out i (Nat.le_refl _), sumTo_in nT (hf i (by omega))]
          omega
        · by_cases q : j = i
          · subst q; rw [updN_s]; omega
          · rw [updN_n q]; exact hb j (by omega) h2
      | some a =>
        have la := ha i a (by omega) hA
        rw [flS_a he hA]
        have e1 : (upd (upd (fun j => nI (f j)) i (nI (f i) + own i)) a (upd (fun j => nI (f j)) i (nI (f i) + own i) a + (nI (f i) + own i)), (fun t => nI (o t))) = ((fun j => nI (updN (updN f i (f i + w i)) a (updN f i (f i + w i) a + (f i + w i)) j)), (fun t => nI (o t))) := by
          rw [w1, nI_add, upd_nI, nI_add, upd_nI]
        show ∃ f' o' : Nat → Nat, flR emp ah fd own i (upd (upd (fun j => nI (f j)) i (nI (f i) + own i)) a (upd (fun j => nI (f j)) i (nI (f i) + own i) a + (nI (f i) + own i)), (fun t => nI (o t))) = _ ∧ _
        rw [e1]
        refine ih (by omega) _ _ ?_ fun j h1 h2 => ?_
        · rw [sumTo_in i la, sumTo_out i (Nat.le_refl _)]
          omega
        · by_cases q : j = i
          · subst q; rw [updN_n (by omega), updN_s]; omega
          · by_cases q2 : j = a
            · omega
            · rw [updN_n q2, updN_n q]; exact hb j (by omega) h2
/-- rows built up -/
theorem bld_keep {F : (Nat → Int32) → Nat → Int32} : ∀ (n m j : Nat), j < n → n ≤ m → bld F m j = bld F n j := by
  intro n m
  induction m with
  | zero => intro j h1 h2; omega
  | succ m ih =>
    intro j h1 h2
    by_cases q : n = m + 1
    · rw [q]
    · have h3 : bld F (m + 1) j = bld F m j := by
        show upd (bld F m) m _ j = _
        exact pk_un (by omega)
      rw [h3]
      exact ih j h1 (by omega)
theorem bld_spec {F : (Nat → Int32) → Nat → Int32} {n : Nat} (hF : ∀ (X Y : Nat → Int32) j, j < n → (∀ a, a < j → X a = Y a) → F X j = F Y j) : ∀ j, j < n → bld F n j = F (bld F n) j := by
  intro j hj
  rw [bld_keep (j + 1) n j (by omega) (by omega)]
  have h1 : bld F (j + 1) j = F (bld F j) j := pk_us
  rw [h1]
  refine hF _ _ j hj fun a ha => ?_
  rw [bld_keep j n a ha (by omega)]
theorem loss_n {f l s : Nat} (hf : f ≤ 3600) (hl : l ≤ 200) (h1 : 1 ≤ s) (h9 : s ≤ 9) : lossO (nI f) (nI l) (nI s) = nI (f * f * l / (100 * s * s)) ∧ f * f * l / (100 * s * s) ≤ 25920000 := by
  have hff : f * f ≤ 3600 * 3600 := Nat.mul_le_mul hf hf
  have hffl : f * f * l ≤ 3600 * 3600 * 200 := Nat.mul_le_mul hff hl
  obtain ⟨z1, z2, z3⟩ := s_size h1 h9
  constructor
  · unfold lossO
    rw [z1, nI_l (by omega), nI_l (by omega), lN_mul, lN_mul, pk_lDiv (by omega) (by omega) (by omega), lN_i]
  · refine Nat.le_trans (Nat.div_le_div_left z3 (by omega)) ?_
    omega
