/-! sets of jets as numbers -/
def tB (x : Int32) (i : Nat) : Bool := x.toBitVec.getLsbD i
theorem tB_and (x y : Int32) (i : Nat) : tB (x &&& y) i = (tB x i && tB y i) := by
  unfold tB
  rw [Int32.toBitVec_and, BitVec.getLsbD_and]
theorem tB_or (x y : Int32) (i : Nat) : tB (x ||| y) i = (tB x i || tB y i) := by
  unfold tB
  rw [Int32.toBitVec_or, BitVec.getLsbD_or]
theorem tB_xor (x y : Int32) (i : Nat) : tB (x ^^^ y) i = (tB x i ^^ tB y i) := by
  unfold tB
  rw [Int32.toBitVec_xor, BitVec.getLsbD_xor]
theorem tB_m1 {i : Nat} (h : i < 32) : tB (-1) i = true := by
  have : ∀ i, i < 32 → tB (-1) i = true := by decide +kernel
  exact this i h
theorem mBit_two {k : Nat} (h : k < 32) : (mBit k).toBitVec = BitVec.twoPow 32 k := by
  have : ∀ k, k < 32 → (mBit k).toBitVec = BitVec.twoPow 32 k := by decide +kernel
  exact this k h
theorem tB_bit (x : Int32) {k : Nat} (h : k < 32) : x &&& mBit k = 0 ↔ tB x k = false := by
  have e : (x &&& mBit k).toBitVec = if x.toBitVec.getLsbD k then BitVec.twoPow 32 k else 0#32 := by
    rw [Int32.toBitVec_and, mBit_two h, BitVec.and_twoPow]
  constructor
  · intro z
    rw [z] at e
    unfold tB
    cases q : x.toBitVec.getLsbD k with
    | false => rfl
    | true =>
      rw [q, if_pos rfl] at e
      have : ∀ k, k < 32 → ¬ (0 : Int32).toBitVec = BitVec.twoPow 32 k := by decide +kernel
      exact absurd e (this k h)
  · intro z
    unfold tB at z
    rw [z, if_neg (by decide)] at e
    exact Int32.toBitVec_inj.mp e
theorem tB_nbit (x : Int32) {k : Nat} (h : k < 32) : ¬ x &&& mBit k = 0 ↔ tB x k = true := by
  rw [tB_bit x h]
  cases tB x k <;> decide
theorem tB_of {k : Nat} (h : k < 32) (i : Nat) : tB (mBit k) i = decide (i = k) := by
  unfold tB
  rw [mBit_two h, BitVec.getLsbD_twoPow]
  by_cases q : i = k
  · subst q
    simp [h]
  · have q2 : ¬ k = i := fun z => q z.symm
    simp [q, q2]
theorem tB_ext {x y : Int32} (h : ∀ i, i < 32 → tB x i = tB y i) : x = y := by
  refine Int32.toBitVec_inj.mp ?_
  refine BitVec.eq_of_getLsbD_eq fun i hi => h i hi
theorem tB_0 (i : Nat) : tB 0 i = false := by
  unfold tB
  rw [show (0 : Int32).toBitVec = 0#32 from rfl, BitVec.getLsbD_zero]
