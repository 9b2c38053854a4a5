/-! count -/
theorem nI_and (a b : Nat) : nI a &&& nI b = nI (a &&& b) := by
  refine Int32.toBitVec_inj.mp ?_
  rw [Int32.toBitVec_and]
  exact BitVec.ofNat_and.symm
def us (x s : Int32) : Int32 := (x.toUInt32 >>> (s.toUInt32 &&& Int32.toUInt32 31)).toInt32
def bcA (x : Int32) : Int32 := x - (us x 1 &&& 1431655765)
def bcB (x : Int32) : Int32 := (x &&& 858993459) + (us x 2 &&& 858993459)
def bcC (x : Int32) : Int32 := (x + us x 4) &&& 252645135
def bcD (x : Int32) : Int32 := x + us x 8
def bcE (x : Int32) : Int32 := x + us x 16
def bc (x : Int32) : Int32 := bcE (bcD (bcC (bcB (bcA x)))) &&& 63
theorem us_n {n : Nat} (h : n < 2 ^ 32) : us (nI n) 1 = nI (n / 2) ∧ us (nI n) 2 = nI (n / 4) ∧ us (nI n) 4 = nI (n / 16) ∧ us (nI n) 8 = nI (n / 256) ∧ us (nI n) 16 = nI (n / 65536) :=
  ⟨pk_ushrN h 1 1 (by decide), pk_ushrN h 2 2 (by decide), pk_ushrN h 4 4 (by decide), pk_ushrN h 8 8 (by decide), pk_ushrN h 16 16 (by decide)⟩
theorem sp8 {a b c d : Nat} (ha : a < 256) (hc : c < 256) : (a + 256 * b) &&& (c + 256 * d) = (a &&& c) + 256 * (b &&& d) := by
  have h1 : ((a + 256 * b) &&& (c + 256 * d)) % 2 ^ 8 = a &&& c := by
    rw [Nat.and_mod_two_pow, show (a + 256 * b) % 2 ^ 8 = a by omega, show (c + 256 * d) % 2 ^ 8 = c by omega]
  have h2 : ((a + 256 * b) &&& (c + 256 * d)) / 2 ^ 8 = b &&& d := by
    rw [Nat.and_div_two_pow, show (a + 256 * b) / 2 ^ 8 = b by omega, show (c + 256 * d) / 2 ^ 8 = d by omega]
  omega
def pc8 (x : Nat) : Nat := x % 2 + x / 2 % 2 + x / 4 % 2 + x / 8 % 2 + x / 16 % 2 + x / 32 % 2 + x / 64 % 2 + x / 128 % 2
def q1 (x : Nat) : Nat := (x / 2) &&& 85
def q2 (x : Nat) : Nat := (x &&& 51) + ((x / 4) &&& 51)
def q3 (x : Nat) : Nat := (x + x / 16) % 16
set_option maxRecDepth 100000 in
theorem pc8_ok : ∀ x, x < 256 → q1 x ≤ x ∧ (q2 (x - q1 x) % 16 ≤ 4 ∧ q2 (x - q1 x) / 16 ≤ 4) ∧ q3 (q2 (x - q1 x)) = pc8 x ∧ pc8 x ≤ 8 := by decide +kernel
set_option maxRecDepth 100000 in
theorem q1_e : ∀ e, e < 2 → ∀ x, x < 256 → (x / 2 + 128 * e) &&& 85 = q1 x := by decide +kernel
set_option maxRecDepth 100000 in
theorem q2_e : ∀ e, e < 4 → ∀ x, x < 256 → (x / 4 + 64 * e) &&& 51 = (x / 4) &&& 51 := by decide +kernel
theorem and_0 (x : Nat) : 0 &&& x = 0 := Nat.zero_and x
theorem bcA_n {a b c : Nat} (ha : a < 256) (hb : b < 256) (hc : c < 256) : bcA (nI (a + 256 * (b + 256 * c))) = nI ((a - q1 a) + 256 * ((b - q1 b) + 256 * (c - q1 c))) := by
  have h1 := (pc8_ok a ha).1
  have h2 := (pc8_ok b hb).1
  have h3 := (pc8_ok c hc).1
  have e : (a + 256 * (b + 256 * c)) / 2 = (a / 2 + 128 * (b % 2)) + 256 * ((b / 2 + 128 * (c % 2)) + 256 * (c / 2 + 256 * 0)) := by omega
  have m : (1431655765 : Int32) = nI (85 + 256 * (85 + 256 * (85 + 256 * 85))) := by decide
  have k : ((a + 256 * (b + 256 * c)) / 2) &&& (85 + 256 * (85 + 256 * (85 + 256 * 85))) = q1 a + 256 * (q1 b + 256 * q1 c) := by
    rw [e, sp8 (by omega) (by omega), sp8 (by omega) (by omega), sp8 (by omega) (by omega), q1_e _ (by omega) a ha, q1_e _ (by omega) b hb, and_0]
    rfl
  unfold bcA
  rw [(us_n (by omega)).1, m, nI_and, k, pk_sub (by omega)]
  congr 1
  omega
theorem bcB_n {a b c : Nat} (ha : a < 256) (hb : b < 256) (hc : c < 256) : bcB (nI (a + 256 * (b + 256 * c))) = nI (q2 a + 256 * (q2 b + 256 * q2 c)) := by
  have e : (a + 256 * (b + 256 * c)) / 4 = (a / 4 + 64 * (b % 4)) + 256 * ((b / 4 + 64 * (c % 4)) + 256 * (c / 4 + 256 * 0)) := by omega
  have e0 : a + 256 * (b + 256 * c) = a + 256 * (b + 256 * (c + 256 * 0)) := by omega
  have m : (858993459 : Int32) = nI (51 + 256 * (51 + 256 * (51 + 256 * 51))) := by decide
  have k : ((a + 256 * (b + 256 * c)) / 4) &&& (51 + 256 * (51 + 256 * (51 + 256 * 51))) = ((a / 4) &&& 51) + 256 * (((b / 4) &&& 51) + 256 * ((c / 4) &&& 51)) := by
    rw [e, sp8 (by omega) (by omega), sp8 (by omega) (by omega), sp8 (by omega) (by omega), q2_e _ (by omega) a ha, q2_e _ (by omega) b hb, and_0]
    rfl
  have k0 : (a + 256 * (b + 256 * c)) &&& (51 + 256 * (51 + 256 * (51 + 256 * 51))) = (a &&& 51) + 256 * ((b &&& 51) + 256 * (c &&& 51)) := by
    rw [e0, sp8 (by omega) (by omega), sp8 (by omega) (by omega), sp8 (by omega) (by omega), and_0]
    rfl
  unfold bcB
  rw [(us_n (by omega)).2.1, m, nI_and, nI_and, k, k0, nI_add]
  congr 1
  unfold q2
  omega
theorem and15 (x : Nat) : x &&& 15 = x % 16 := Nat.and_two_pow_sub_one_eq_mod x 4
theorem bcC_n {a b c : Nat} (ha : a % 16 ≤ 4 ∧ a / 16 ≤ 4) (hb : b % 16 ≤ 4 ∧ b / 16 ≤ 4) (hc : c % 16 ≤ 4 ∧ c / 16 ≤ 4) : bcC (nI (a + 256 * (b + 256 * c))) = nI (q3 a + 256 * (q3 b + 256 * q3 c)) := by
  have e : (a + 256 * (b + 256 * c)) + (a + 256 * (b + 256 * c)) / 16 = (a + a / 16 + 16 * (b % 16)) + 256 * ((b + b / 16 + 16 * (c % 16)) + 256 * ((c + c / 16) + 256 * 0)) := by omega
  have m : (252645135 : Int32) = nI (15 + 256 * (15 + 256 * (15 + 256 * 15))) := by decide
  unfold bcC
  rw [(us_n (by omega)).2.2.1, m, nI_add, nI_and, e, sp8 (by omega) (by omega), sp8 (by omega) (by omega), sp8 (by omega) (by omega), and_0, and15, and15, and15]
  congr 1
  unfold q3
  omega
theorem bc_n {a b c : Nat} (ha : a < 256) (hb : b < 256) (hc : c < 256) : bc (nI (a + 256 * (b + 256 * c))) = nI (pc8 a + pc8 b + pc8 c) := by
  obtain ⟨a1, a2, a3, a4⟩ := pc8_ok a ha
  obtain ⟨b1, b2, b3, b4⟩ := pc8_ok b hb
  obtain ⟨c1, c2, c3, c4⟩ := pc8_ok c hc
  unfold bc
  rw [bcA_n ha hb hc, bcB_n (by omega) (by omega) (by omega), bcC_n a2 b2 c2, a3, b3, c3]
  generalize pc8 a = x at a4 ⊢
  generalize pc8 b = y at b4 ⊢
  generalize pc8 c = z at c4 ⊢
  have m : (63 : Int32) = nI (2 ^ 6 - 1) := by decide
  have d1 : (x + 256 * (y + 256 * z)) / 256 = y + 256 * z := by omega
  have d2 : (x + 256 * (y + 256 * z) + (y + 256 * z)) / 65536 = z := by omega
  unfold bcE bcD
  rw [(us_n (by omega)).2.2.2.1, nI_add, d1, (us_n (by omega)).2.2.2.2, d2, nI_add, m, nI_and, Nat.and_two_pow_sub_one_eq_mod]
  congr 1
  omega
theorem pc8_lo (p : Nat) : pc8 (p % 256) = p % 2 + p / 2 % 2 + p / 4 % 2 + p / 8 % 2 + p / 16 % 2 + p / 32 % 2 + p / 64 % 2 + p / 128 % 2 := by
  unfold pc8
  rw [show p % 256 % 2 = p % 2 by omega, show p % 256 / 2 % 2 = p / 2 % 2 by omega, show p % 256 / 4 % 2 = p / 4 % 2 by omega, show p % 256 / 8 % 2 = p / 8 % 2 by omega, show p % 256 / 16 % 2 = p / 16 % 2 by omega, show p % 256 / 32 % 2 = p / 32 % 2 by omega, show p % 256 / 64 % 2 = p / 64 % 2 by omega, show p % 256 / 128 % 2 = p / 128 % 2 by omega]
theorem sumTo_s (f : Nat → Nat) (n : Nat) : sumTo f (n + 1) = sumTo f n + f n := rfl
theorem sumTo_z (f : Nat → Nat) : sumTo f 0 = 0 := rfl
theorem bc_24 {p : Nat} (h : p < 16777216) : bc (nI p) = nI (pc8 (p % 256) + pc8 (p / 256 % 256) + pc8 (p / 65536 % 256)) := by
  have k := bc_n (a := p % 256) (b := p / 256 % 256) (c := p / 65536 % 256) (by omega) (by omega) (by omega)
  rw [show p % 256 + 256 * (p / 256 % 256 + 256 * (p / 65536 % 256)) = p by omega] at k
  exact k
theorem sum24 (F : Nat → Nat) : sumTo F 24 = F 0 + F 1 + F 2 + F 3 + F 4 + F 5 + F 6 + F 7 + (F 8 + F 9 + F 10 + F 11 + F 12 + F 13 + F 14 + F 15) + (F 16 + F 17 + F 18 + F 19 + F 20 + F 21 + F 22 + F 23) := by
  rw [sumTo_s F 23, sumTo_s F 22, sumTo_s F 21, sumTo_s F 20, sumTo_s F 19, sumTo_s F 18, sumTo_s F 17, sumTo_s F 16, sumTo_s F 15, sumTo_s F 14, sumTo_s F 13, sumTo_s F 12, sumTo_s F 11, sumTo_s F 10, sumTo_s F 9, sumTo_s F 8, sumTo_s F 7, sumTo_s F 6, sumTo_s F 5, sumTo_s F 4, sumTo_s F 3, sumTo_s F 2, sumTo_s F 1, sumTo_s F 0, sumTo_z]
  omega
theorem bc_sum {p : Nat} (h : p < 16777216) : bc (nI p) = nI (sumTo (fun k => p / 2 ^ k % 2) 24) := by
  rw [bc_24 h, pc8_lo, pc8_lo, pc8_lo, sum24]
  refine congrArg nI ?_
  simp only [Nat.div_div_eq_div_mul, Nat.reducePow, Nat.reduceMul, Nat.div_one]
section CORE
variable {h h' hm : mH} {nT nJ nK nV nT' nJ' nK' : Nat} {vs : Nat → Nat}
theorem sumTo_congr {f g : Nat → Nat} : ∀ n, (∀ k, k < n → f k = g k) → sumTo f n = sumTo g n
  | 0, _ => rfl
  | n + 1, h => by
    unfold sumTo
    rw [sumTo_congr n (fun k hk => h k (by omega)), h n (by omega)]
theorem sumTo_ext {f : Nat → Nat} {m : Nat} : ∀ n, m ≤ n → (∀ k, m ≤ k → k < n → f k = 0) → sumTo f n = sumTo f m
  | 0, h, _ => by rw [show m = 0 by omega]
  | n + 1, h, z => by
    by_cases q : m = n + 1
    · rw [q]
    · show sumTo f n + f n = _
      rw [sumTo_ext n (by omega) (fun k a b => z k a (by omega)), z n (by omega) (by omega)]
      rfl
theorem sumTo_le {f : Nat → Nat} : ∀ n, (∀ k, k < n → f k ≤ 1) → sumTo f n ≤ n
  | 0, _ => Nat.le_refl _
  | n + 1, h => by
    unfold sumTo
    have := sumTo_le n (fun k hk => h k (by omega))
    have := h n (by omega)
    omega
/-- a flag as a number -/
def fg (x : Int32) : Nat := if x = 0 then 0 else 1
theorem fg_le (x : Int32) : fg x ≤ 1 := by unfold fg; split <;> omega
theorem mCore.plays (C : mCore h nT nJ nK nV vs) : bc (hI h 1 0 3) = nI (sumTo (fun k => fg (hI h 12 1 k)) nK) := by
  have bK := C.2.1.2.2.1
  have e : hI h 1 0 3 = nI (hI h 1 0 3).toBitVec.toNat := by
    exact Int32.toBitVec_inj.mp (BitVec.eq_of_toNat_eq (pk_tn (BitVec.isLt _)).symm)
  have hb : ∀ k, k < 32 → (hI h 1 0 3).toBitVec.toNat.testBit k = tB (hI h 1 0 3) k := fun k _ => rfl
  have lt : (hI h 1 0 3).toBitVec.toNat < 16777216 := by
    show (hI h 1 0 3).toBitVec.toNat < 2 ^ 24
    refine Nat.lt_pow_two_of_testBit _ fun i hi => ?_
    by_cases q : i < 32
    · rw [hb i q]
      exact (tB_bit _ q).mp (C.pp.2 i (by omega) q)
    · exact BitVec.getLsbD_of_ge _ _ (by omega)
  rw [e, bc_sum lt]
  refine congrArg nI ?_
  rw [sumTo_ext (m := nK) 24 bK]
  · refine sumTo_congr nK fun k hk => ?_
    have h1 := C.pp.1 k hk
    rw [tB_bit _ (by omega), ← hb k (by omega), Nat.testBit_eq_decide_div_mod_eq] at h1
    unfold fg
    have h2 : (hI h 1 0 3).toBitVec.toNat / 2 ^ k % 2 < 2 := Nat.mod_lt _ (by omega)
    by_cases q : hI h 12 1 k = 0
    · rw [if_pos q]
      have := of_decide_eq_false (h1.mpr q)
      omega
    · rw [if_neg q]
      by_cases q2 : (hI h 1 0 3).toBitVec.toNat / 2 ^ k % 2 = 1
      · exact q2
      · exact absurd (h1.mp (decide_eq_false q2)) q
  · intro k k1 k2
    have h1 := C.pp.2 k k1 (by omega)
    rw [tB_bit _ (by omega), ← hb k (by omega), Nat.testBit_eq_decide_div_mod_eq] at h1
    have := of_decide_eq_false h1
    have h2 : (hI h 1 0 3).toBitVec.toNat / 2 ^ k % 2 < 2 := Nat.mod_lt _ (by omega)
    omega
theorem sw_7 (x : Int32) : x = 0 ∨ x = 1 ∨ x = 2 ∨ x = 3 ∨ x = 4 ∨ x = 5 ∨ x = 6 ∨ (¬ x = 0 ∧ ¬ x = 1 ∧ ¬ x = 2 ∧ ¬ x = 3 ∧ ¬ x = 4 ∧ ¬ x = 5 ∧ ¬ x = 6) := by
  by_cases n0 : x = 0
  · exact Or.inl n0
  by_cases n1 : x = 1
  · exact Or.inr (Or.inl n1)
  by_cases n2 : x = 2
  · exact Or.inr (Or.inr (Or.inl n2))
  by_cases n3 : x = 3
  · exact Or.inr (Or.inr (Or.inr (Or.inl n3)))
  by_cases n4 : x = 4
  · exact Or.inr (Or.inr (Or.inr (Or.inr (Or.inl n4))))
  by_cases n5 : x = 5
  · exact Or.inr (Or.inr (Or.inr (Or.inr (Or.inr (Or.inl n5)))))
  by_cases n6 : x = 6
  · exact Or.inr (Or.inr (Or.inr (Or.inr (Or.inr (Or.inr (Or.inl n6))))))
  exact Or.inr (Or.inr (Or.inr (Or.inr (Or.inr (Or.inr (Or.inr ⟨n0, n1, n2, n3, n4, n5, n6⟩))))))
theorem fg_add {s : Nat} {x : Int32} {P : Int32 → Prop} (h : P (nI (s + fg x))) : (x = 0 → P (nI s + 0)) ∧ (¬ x = 0 → P (nI s + 1)) := by
  unfold fg at h
  refine ⟨fun q => ?_, fun q => ?_⟩
  · rw [if_pos q] at h
    rw [Int32.add_zero]
    exact h
  · rw [if_neg q] at h
    rw [nI_1]
    exact h
theorem sp_emptyPipes {g : mG} {d : Nat} {Q : Option mV → mH → Prop} (C : mCore h nT nJ nK nV vs) (K : Q (some (vi (nI (sumTo (fun j => fg (hI h 12 0 j)) nJ)))) h) : mT g me_ga_emptyPipes (d + 4) 0 0 0 [some (vr 1 0), none, none] [] h Q := by
  have bJ := C.2.1.2.1
  refine v_ga_emptyPipes_0 C.1 ?_
  have w : ∀ i, i ≤ nJ → mT g me_ga_emptyPipes (d + 4) 0 0 4 [some (vr 1 0), some (vi (nI (sumTo (fun j => fg (hI h 12 0 j)) i))), some (vi (nI i))] [] h Q := by
    refine upTo ?_ fun i hi ih => ?_
    · exact v_ga_emptyPipes_4 _ _ C.1 ⟨fun _ => K, fun q => absurd (by rw [C.2.2.1.2.1.1]; exact Int32.le_refl _) q⟩
    · refine v_ga_emptyPipes_4 _ _ C.1 ⟨fun q => absurd q (by rw [C.2.2.1.2.1.1]; exact nnle hi (by omega)), fun _ => ⟨i, C.2.2.1.2.1.get hi, ?_⟩⟩
      rw [C.e8 hi, nI_1 i]
      exact fg_add (P := fun z => mT g me_ga_emptyPipes (d + 4) 0 0 4 [some (vr 1 0), some (vi z), some (vi (nI (i + 1)))] [] h Q) ih
  exact w 0 (Nat.zero_le _)
theorem count4 {g : mG} {d : Nat} {Q : Option mV → mH → Prop} (C : mCore h nT nJ nK nV vs) (x1 : Int32) (K : Q (some (vi (nI (sumTo (fun k => fg (hI h 12 1 k)) nK)))) h) : mT g me_fm_count (d + 1) 0 0 90 [some (vr 10 0), some (vi x1), some (vi 0), some (vi 0)] [] h Q := by
  have bK := C.2.1.2.2.1
  have w : ∀ i, i ≤ nK → mT g me_fm_count (d + 1) 0 0 90 [some (vr 10 0), some (vi x1), some (vi (nI (sumTo (fun k => fg (hI h 12 1 k)) i))), some (vi (nI i))] [] h Q := by
    refine upTo ?_ fun i hi ih => ?_
    · exact v_fm_count_90 _ _ _ C.1 ⟨fun _ => K, fun q => absurd (by rw [C.k4]; exact Int32.le_refl _) q⟩
    · refine v_fm_count_90 _ _ _ C.1 ⟨fun q => absurd q (by rw [C.k4]; exact nnle hi (by omega)), fun _ => ⟨nin (by omega) (by omega), ?_⟩⟩
      rw [nc (by omega : i ≤ 1000000), nI_1 i]
      exact fg_add (P := fun z => mT g me_fm_count (d + 1) 0 0 90 [some (vr 10 0), some (vi x1), some (vi z), some (vi (nI (i + 1)))] [] h Q) ih
  exact w 0 (Nat.zero_le _)
theorem count6 {g : mG} {d : Nat} {Q : Option mV → mH → Prop} (C : mCore h nT nJ nK nV vs) (x1 : Int32) (K : Q (some (vi (nI (sumTo (fun k => fg (hI h 12 0 k)) nJ)))) h) : mT g me_fm_count (d + 1) 0 0 130 [some (vr 10 0), some (vi x1), some (vi 0), some (vi 0)] [] h Q := by
  have bK := C.2.1.2.1
  have w : ∀ i, i ≤ nJ → mT g me_fm_count (d + 1) 0 0 130 [some (vr 10 0), some (vi x1), some (vi (nI (sumTo (fun k => fg (hI h 12 0 k)) i))), some (vi (nI i))] [] h Q := by
    refine upTo ?_ fun i hi ih => ?_
    · exact v_fm_count_130 _ _ _ C.1 ⟨fun _ => K, fun q => absurd (by rw [C.k3]; exact Int32.le_refl _) q⟩
    · refine v_fm_count_130 _ _ _ C.1 ⟨fun q => absurd q (by rw [C.k3]; exact nnle hi (by omega)), fun _ => ⟨nin (by omega) (by omega), ?_⟩⟩
      rw [nc (by omega : i ≤ 1000000), nI_1 i]
      exact fg_add (P := fun z => mT g me_fm_count (d + 1) 0 0 130 [some (vr 10 0), some (vi x1), some (vi z), some (vi (nI (i + 1)))] [] h Q) ih
  exact w 0 (Nat.zero_le _)
end CORE
