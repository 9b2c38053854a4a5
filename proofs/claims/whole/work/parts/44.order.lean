/-! count, order; a question of both, over any heaps that keep what is kept -/
section CORE
variable {h h' hm : mH} {nT nJ nK nV nT' nJ' nK' : Nat} {vs : Nat → Nat}
theorem mB.qR {g : mG} {f1 f2 : mMe} {d mc ms : Nat} {L1 L2 : List (Option mV)} (I : mI h nT nJ nK nV vs) (y : Int32) (h1 : ∀ Q : Option mV → mH → Prop, (∀ hC, sameA h hC → Q (some (vi y)) hC) → mT g f1 d mc ms 0 L1 [] h Q)
    (h2 : ∀ hC, sameA h hC → mI hC nT nJ nK nV vs → ∀ Q : Option mV → mH → Prop, (∀ hM, sameA hC hM → Q (some (vi y)) hM) → mT g f2 d 0 0 0 L2 [] hC Q) : mB g f1 f2 d mc ms L1 L2 h :=
  h1 _ fun hC R1 => ⟨y, rfl, I.1.1.of R1.1, R1.kp, h2 hC R1 (mI.of I R1) _ fun hM R2 => ⟨y, rfl, I.1.1.of (R1.tr R2).1, rfl, ⟨nT, nJ, nK, nV, vs, mI.of I (R1.tr R2)⟩, (R1.tr R2).kp⟩⟩
theorem op_count {g : mG} {d : Nat} (I : mI h nT nJ nK nV vs) (x : Int32) : mB g me_fn_count me_fm_count (d + 9) 0 0 [some (vr 0 0), some (vi x)] [some (vr 10 0), some (vi x), none, none] h := by
  have C := I.1
  have sc := C.sc
  rcases sw_7 x with rfl | rfl | rfl | rfl | rfl | rfl | rfl | ⟨n0, n1, n2, n3, n4, n5, n6⟩
  · refine mB.q I (hI h 1 0 4) sameA.rf sameA.rf (fun Q K => v_fn_count_0 (d := d + 4) _ C.1 ⟨fun _ => K, fun q => absurd q (by decide), fun q => absurd q (by decide), fun q => absurd q (by decide), fun q => absurd q (by decide), fun q => absurd q (by decide), fun q => absurd q (by decide), fun z0 => absurd rfl z0⟩) (fun Q _ K => ?_)
    obtain ⟨⟨n, _, e1, e2⟩, _⟩ := sc
    rw [e1, ← e2] at K
    exact v_fm_count_0 (d := d + 8) _ C.1 ⟨fun _ => ⟨fun _ => K, fun q => absurd q (by decide), fun q => absurd q (by decide), fun q => absurd q (by decide), fun q => absurd q (by decide), fun q => absurd q (by decide), fun q => absurd q (by decide), fun z0 => absurd rfl z0⟩, fun q => absurd (by decide) q⟩
  · refine mB.q I (nI nT) sameA.rf sameA.rf (fun Q K => ?_) (fun Q _ K => ?_)
    · rw [← C.2.2.1.1.1] at K
      exact v_fn_count_0 (d := d + 4) _ C.1 ⟨fun q => absurd q (by decide), fun _ => K, fun q => absurd q (by decide), fun q => absurd q (by decide), fun q => absurd q (by decide), fun q => absurd q (by decide), fun q => absurd q (by decide), fun _ z0 => absurd rfl z0⟩
    · rw [← C.k2] at K
      exact v_fm_count_0 (d := d + 8) _ C.1 ⟨fun _ => ⟨fun q => absurd q (by decide), fun _ => K, fun q => absurd q (by decide), fun q => absurd q (by decide), fun q => absurd q (by decide), fun q => absurd q (by decide), fun q => absurd q (by decide), fun _ z0 => absurd rfl z0⟩, fun q => absurd (by decide) q⟩
  · refine mB.q I (nI nJ) sameA.rf sameA.rf (fun Q K => ?_) (fun Q _ K => ?_)
    · rw [← C.2.2.1.2.1.1] at K
      exact v_fn_count_0 (d := d + 4) _ C.1 ⟨fun q => absurd q (by decide), fun q => absurd q (by decide), fun _ => K, fun q => absurd q (by decide), fun q => absurd q (by decide), fun q => absurd q (by decide), fun q => absurd q (by decide), fun _ _ z0 => absurd rfl z0⟩
    · rw [← C.k3] at K
      exact v_fm_count_0 (d := d + 8) _ C.1 ⟨fun _ => ⟨fun q => absurd q (by decide), fun q => absurd q (by decide), fun _ => K, fun q => absurd q (by decide), fun q => absurd q (by decide), fun q => absurd q (by decide), fun q => absurd q (by decide), fun _ _ z0 => absurd rfl z0⟩, fun q => absurd (by decide) q⟩
  · refine mB.q I (nI nK) sameA.rf sameA.rf (fun Q K => ?_) (fun Q _ K => ?_)
    · rw [← C.2.2.1.2.2.1.1] at K
      exact v_fn_count_0 (d := d + 4) _ C.1 ⟨fun q => absurd q (by decide), fun q => absurd q (by decide), fun q => absurd q (by decide), fun _ => K, fun q => absurd q (by decide), fun q => absurd q (by decide), fun q => absurd q (by decide), fun _ _ _ z0 => absurd rfl z0⟩
    · rw [← C.k4] at K
      exact v_fm_count_0 (d := d + 8) _ C.1 ⟨fun _ => ⟨fun q => absurd q (by decide), fun q => absurd q (by decide), fun q => absurd q (by decide), fun _ => K, fun q => absurd q (by decide), fun q => absurd q (by decide), fun q => absurd q (by decide), fun _ _ _ z0 => absurd rfl z0⟩, fun q => absurd (by decide) q⟩
  · refine mB.q I (bc (hI h 1 0 3)) sameA.rf sameA.rf (fun Q K => ?_) (fun Q _ K => ?_)
    · exact v_fn_count_0 (d := d + 4) _ C.1 ⟨fun q => absurd q (by decide), fun q => absurd q (by decide), fun q => absurd q (by decide), fun q => absurd q (by decide), fun _ => v_it_bitCount_0 (d := d + 7) _ C.1 ⟨bc (hI h 1 0 3), rfl, C.1, K⟩, fun q => absurd q (by decide), fun q => absurd q (by decide), fun _ _ _ _ z0 => absurd rfl z0⟩
    · rw [C.plays] at K
      exact v_fm_count_0 (d := d + 8) _ C.1 ⟨fun _ => ⟨fun q => absurd q (by decide), fun q => absurd q (by decide), fun q => absurd q (by decide), fun q => absurd q (by decide), fun _ => count4 C _ K, fun q => absurd q (by decide), fun q => absurd q (by decide), fun _ _ _ _ z0 => absurd rfl z0⟩, fun q => absurd (by decide) q⟩
  · refine mB.q I (nI nV) sameA.rf sameA.rf (fun Q K => ?_) (fun Q _ K => ?_)
    · rw [← C.2.2.1.2.2.2.1.1] at K
      exact v_fn_count_0 (d := d + 4) _ C.1 ⟨fun q => absurd q (by decide), fun q => absurd q (by decide), fun q => absurd q (by decide), fun q => absurd q (by decide), fun q => absurd q (by decide), fun _ => K, fun q => absurd q (by decide), fun _ _ _ _ _ z0 => absurd rfl z0⟩
    · rw [← C.k5] at K
      exact v_fm_count_0 (d := d + 8) _ C.1 ⟨fun _ => ⟨fun q => absurd q (by decide), fun q => absurd q (by decide), fun q => absurd q (by decide), fun q => absurd q (by decide), fun q => absurd q (by decide), fun _ => K, fun q => absurd q (by decide), fun _ _ _ _ _ z0 => absurd rfl z0⟩, fun q => absurd (by decide) q⟩
  · refine mB.q I (nI (sumTo (fun j => fg (hI h 12 0 j)) nJ)) sameA.rf sameA.rf (fun Q K => ?_) (fun Q _ K => ?_)
    · exact v_fn_count_0 (d := d + 4) _ C.1 ⟨fun q => absurd q (by decide), fun q => absurd q (by decide), fun q => absurd q (by decide), fun q => absurd q (by decide), fun q => absurd q (by decide), fun q => absurd q (by decide), fun _ => sp_emptyPipes (d := d + 4) C ⟨_, rfl, C.1, K⟩, fun _ _ _ _ _ _ z0 => absurd rfl z0⟩
    · exact v_fm_count_0 (d := d + 8) _ C.1 ⟨fun _ => ⟨fun q => absurd q (by decide), fun q => absurd q (by decide), fun q => absurd q (by decide), fun q => absurd q (by decide), fun q => absurd q (by decide), fun q => absurd q (by decide), fun _ => count6 C _ K, fun _ _ _ _ _ _ z0 => absurd rfl z0⟩, fun q => absurd (by decide) q⟩
  · by_cases r : ∃ m : Nat, 1 ≤ m ∧ m ≤ 6 ∧ x = nI (m + 10)
    · obtain ⟨m, m1, m2, rfl⟩ := r
      have e : nI (m + 10) - 10 = nI m := by
        rw [show (10 : Int32) = nI 10 from rfl, pk_sub (by omega)]
        rfl
      refine mB.q I (hI h 11 5 m) sameA.rf sameA.rf (fun Q K => ?_) (fun Q _ K => ?_)
      · refine v_fn_count_0 (d := d + 4) _ C.1 ⟨fun q => absurd q n0, fun q => absurd q n1, fun q => absurd q n2, fun q => absurd q n3, fun q => absurd q n4, fun q => absurd q n5, fun q => absurd q n6, fun _ _ _ _ _ _ _ => ?_⟩
        rw [e, nc (by omega)]
        exact ⟨fun q => absurd q (nnlt (b := 1) m1 (by omega)), fun _ => ⟨fun q => absurd q (nnlt (a := 6) m2 (by omega)), fun _ => ⟨fun q => absurd q (nnle (a := 7) (b := m) (by omega) (by omega)), fun _ => ⟨nin (by omega) (by omega), K⟩⟩⟩⟩
      · refine v_fm_count_0 (d := d + 8) _ C.1 ⟨fun q => absurd q (nnle (a := m + 10) (b := 10) (by omega) (by omega)), fun _ => ⟨fun q => absurd q (nnle (a := 17) (b := m + 10) (by omega) (by omega)), fun _ => ?_⟩⟩
        rw [e, nc (by omega)]
        refine ⟨nin (by omega) (by omega), ?_⟩
        rw [sc.2.2.2 m (by omega)] at K
        exact K
    · refine mB.q I (-9) sameA.rf sameA.rf (fun Q K => ?_) (fun Q _ K => ?_)
      · refine v_fn_count_0 (d := d + 4) _ C.1 ⟨fun q => absurd q n0, fun q => absurd q n1, fun q => absurd q n2, fun q => absurd q n3, fun q => absurd q n4, fun q => absurd q n5, fun q => absurd q n6, fun _ _ _ _ _ _ _ => ⟨fun _ => K, fun q1 => ⟨fun _ => K, fun q2 => ?_⟩⟩⟩
        exfalso
        obtain ⟨n, na, nb, e⟩ := rng (x := x - 10) (lo := 1) (hi := 6) (Int32.not_lt.mp q1) (Int32.not_lt.mp q2) (by omega) (by omega)
        refine r ⟨n, na, nb, ?_⟩
        rw [← nI_add, ← e]
        exact (Int32.sub_add_cancel x 10).symm
      · refine v_fm_count_0 (d := d + 8) _ C.1 ⟨fun _ => ⟨fun q => absurd q n0, fun q => absurd q n1, fun q => absurd q n2, fun q => absurd q n3, fun q => absurd q n4, fun q => absurd q n5, fun q => absurd q n6, fun _ _ _ _ _ _ _ => K⟩, fun q1 => ⟨fun _ => ⟨fun q => absurd q n0, fun q => absurd q n1, fun q => absurd q n2, fun q => absurd q n3, fun q => absurd q n4, fun q => absurd q n5, fun q => absurd q n6, fun _ _ _ _ _ _ _ => K⟩, fun q2 => ?_⟩⟩
        exfalso
        have h1 : nI 11 ≤ x := by
          rw [ile] at q1 ⊢
          rw [show (10 : Int32).toInt = 10 from rfl] at q1
          rw [show (nI 11).toInt = 11 from rfl]
          omega
        have h2 : x ≤ nI 16 := by
          rw [ile] at q2 ⊢
          rw [show (17 : Int32).toInt = 17 from rfl] at q2
          rw [show (nI 16).toInt = 16 from rfl]
          omega
        obtain ⟨n, na, nb, e⟩ := rng h1 h2 (by omega) (by omega)
        exact r ⟨n - 10, by omega, by omega, by rw [e, show n - 10 + 10 = n by omega]⟩
/-! the order of emptying -/
theorem cnt_congr {p q : Nat → Bool} : ∀ n, (∀ k, k < n → p k = q k) → cnt p n = cnt q n
  | 0, _ => rfl
  | n + 1, h => by
    unfold cnt
    rw [cnt_congr n (fun k hk => h k (by omega)), h n (by omega)]
theorem cnt_0 {p : Nat → Bool} : ∀ n, cnt p n = 0 ↔ ∀ k, k < n → p k = false
  | 0 => ⟨fun _ k hk => absurd hk (Nat.not_lt_zero _), fun _ => rfl⟩
  | n + 1 => by
    unfold cnt
    cases e : p n with
    | true => exact ⟨fun z => by rw [if_pos rfl] at z; omega, fun z => by rw [z n (by omega)] at e; cases e⟩
    | false =>
      rw [if_neg (by decide)]
      refine ⟨fun z k hk => ?_, fun z => (cnt_0 n).mpr fun k hk => z k (by omega)⟩
      by_cases q : k = n
      · subst q; exact e
      · exact (cnt_0 n).mp (by omega) k (by omega)
theorem cnt_off {p q : Nat → Bool} {b : Nat} (hp : p b = true) (hq : q b = false) : ∀ n, b < n → (∀ k, k < n → k ≠ b → p k = q k) → cnt p n = cnt q n + 1
  | 0, h, _ => absurd h (Nat.not_lt_zero _)
  | n + 1, h, e => by
    unfold cnt
    by_cases z : b = n
    · subst z
      rw [cnt_congr b (fun k hk => e k (by omega) (by omega)), hp, hq]
      rfl
    · rw [cnt_off hp hq n (by omega) (fun k a c => e k (by omega) c), e n (by omega) (fun y => z y.symm)]
      omega
theorem cnt_le {p : Nat → Bool} : ∀ n, cnt p n ≤ n
  | 0 => Nat.le_refl _
  | n + 1 => by
    unfold cnt
    have := cnt_le (p := p) n
    split <;> omega
/-- how many behind are not yet empty -/
def nb (ah : Nat → Option Nat) (nJ : Nat) (D : Nat → Bool) (j : Nat) : Nat := cnt (fun k => decide (ah k = some j) && !D k) nJ
def rdy (ah : Nat → Option Nat) (nJ : Nat) (D : Nat → Bool) (j : Nat) : Bool := !D j && decide (nb ah nJ D j = 0)
def bst (ah : Nat → Option Nat) (H : Nat → Int32) (nJ : Nat) (D : Nat → Bool) : Nat → Option Nat
  | 0 => none
  | i + 1 => if rdy ah nJ D i = true then (match bst ah H nJ D i with
    | none => some i
    | some b => if H i ≤ H b then some b else some i) else bst ah H nJ D i
def don (D : Nat → Bool) (b : Nat) : Nat → Bool := fun j => if j = b then true else D j
def ordX (ah : Nat → Option Nat) (H : Nat → Int32) (nJ : Nat) (x : Int32) : Nat → Nat → (Nat → Bool) → Int32
  | 0, _, _ => -9
  | m + 1, n, D => match bst ah H nJ D nJ with
    | none => -9
    | some b => if nI n = x then nI b else ordX ah H nJ x m (n + 1) (don D b)
theorem bst_some {ah : Nat → Option Nat} {H : Nat → Int32} {nJ : Nat} {D : Nat → Bool} : ∀ i b, bst ah H nJ D i = some b → b < i ∧ rdy ah nJ D b = true
  | 0, b, h => by cases h
  | i + 1, b, h => by
    unfold bst at h
    by_cases q : rdy ah nJ D i = true
    · rw [if_pos q] at h
      cases e : bst ah H nJ D i with
      | none =>
        rw [e] at h
        cases h
        exact ⟨by omega, q⟩
      | some c =>
        rw [e] at h
        have ih := bst_some i c e
        dsimp only at h
        split at h
        · cases h; exact ⟨by omega, ih.2⟩
        · cases h; exact ⟨by omega, q⟩
    · rw [if_neg q] at h
      have ih := bst_some i b h
      exact ⟨by omega, ih.2⟩
theorem bst_none {ah : Nat → Option Nat} {H : Nat → Int32} {nJ : Nat} {D : Nat → Bool} : ∀ i, (∀ j, j < i → D j = true) → bst ah H nJ D i = none
  | 0, _ => rfl
  | i + 1, h => by
    unfold bst
    have : ¬ rdy ah nJ D i = true := by unfold rdy; rw [h i (by omega)]; simp
    rw [if_neg this]
    exact bst_none i (fun j hj => h j (by omega))
theorem rdy_D {ah : Nat → Option Nat} {nJ : Nat} {D : Nat → Bool} {j : Nat} (h : rdy ah nJ D j = true) : D j = false := by
  unfold rdy at h
  cases e : D j with
  | false => rfl
  | true => rw [e] at h; simp at h
theorem don_cnt {nJ : Nat} {D : Nat → Bool} {b : Nat} (hb : b < nJ) (h : D b = false) : cnt (fun j => !D j) nJ = cnt (fun j => !don D b j) nJ + 1 := by
  refine cnt_off (b := b) ?_ ?_ nJ hb (fun k _ hk => ?_)
  · rw [h]; rfl
  · unfold don; rw [if_pos rfl]; rfl
  · unfold don; rw [if_neg hk]
theorem ordX_neg {ah : Nat → Option Nat} {H : Nat → Int32} {nJ : Nat} {x : Int32} (hx : x < 0) : ∀ m n D, n + m ≤ 1000 → ordX ah H nJ x m n D = -9
  | 0, _, _, _ => rfl
  | m + 1, n, D, hb => by
    unfold ordX
    cases bst ah H nJ D nJ with
    | none => rfl
    | some b =>
      show (if nI n = x then nI b else _) = _
      rw [if_neg (fun z => by rw [← z] at hx; exact nnneg (by omega) hx)]
      exact ordX_neg hx m (n + 1) _ (by omega)
theorem nb_don {ah : Nat → Option Nat} {nJ : Nat} {D : Nat → Bool} {b : Nat} (hb : b < nJ) (h : D b = false) (j : Nat) : nb ah nJ D j = nb ah nJ (don D b) j + (if ah b = some j then 1 else 0) := by
  by_cases q : ah b = some j
  · rw [if_pos q]
    refine cnt_off (b := b) ?_ ?_ nJ hb (fun k _ hk => ?_)
    · rw [h, decide_eq_true q]; rfl
    · unfold don; rw [if_pos rfl]; simp
    · unfold don; rw [if_neg hk]
  · rw [if_neg q]
    refine cnt_congr nJ (fun k _ => ?_)
    by_cases z : k = b
    · subst z
      rw [decide_eq_false q]
      rfl
    · unfold don
      rw [if_neg z]
end CORE
