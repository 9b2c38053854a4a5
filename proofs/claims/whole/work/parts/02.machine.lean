/-! An abstract machine over the kit's walk: values, a heap of cells by kind and number, and the judgement mT: 'from this point of this method, in every state that stands for this heap, the method comes to its end with Q'. Every instruction gets one rule (tr_..); behind them no class file and no address is seen any more. -/
abbrev mV : Type := Int32 ⊕ (Int64 ⊕ Option (Nat × Nat))
abbrev vi (x : Int32) : mV := .inl x
abbrev vl (x : Int64) : mV := .inr (.inl x)
abbrev vr (k n : Nat) : mV := .inr (.inr (some (k, n)))
abbrev vn : mV := .inr (.inr none)
abbrev vp (r : Option (Nat × Nat)) : mV := .inr (.inr r)
/-- a value as the machine has it -/
def mco (ad : Nat → Nat → Nat) : mV → Value
  | .inl x => .int x
  | .inr (.inl x) => .long x
  | .inr (.inr none) => .null
  | .inr (.inr (some r)) => .ref (ad r.1 r.2)
/-- the tables' words that hold in every state behind the start -/
def mTb : List Cond := lw_tbl.filter goodWord
/-- counts, lengths, pointers; and numbers -/
abbrev mH : Type := ((Nat → Nat) × (Nat → Nat → Nat) × (Nat → Nat → Nat → Option (Nat × Nat))) × (Nat → Nat → Nat → Int32)
def hC (h : mH) (k : Nat) : Nat := h.1.1 k
def hL (h : mH) (k n : Nat) : Nat := h.1.2.1 k n
def hP (h : mH) (k n f : Nat) : Option (Nat × Nat) := h.1.2.2 k n f
def hI (h : mH) (k n f : Nat) : Int32 := h.2 k n f
def setI (h : mH) (k n f : Nat) (v : Int32) : mH := (h.1, fun k' n' f' => if k' = k ∧ n' = n ∧ f' = f then v else h.2 k' n' f')
def setP (h : mH) (k n f : Nat) (v : Option (Nat × Nat)) : mH := ((h.1.1, h.1.2.1, fun k' n' f' => if k' = k ∧ n' = n ∧ f' = f then v else h.1.2.2 k' n' f'), h.2)
def newC (h : mH) (k len : Nat) : mH :=
  ((fun k' => if k' = k then h.1.1 k + 1 else h.1.1 k', fun k' n' => if k' = k ∧ n' = h.1.1 k then len else h.1.2.1 k' n', fun k' n' f' => if k' = k ∧ n' = h.1.1 k then none else h.1.2.2 k' n' f'), fun k' n' f' => if k' = k ∧ n' = h.1.1 k then 0 else h.2 k' n' f')
def mwf (h : mH) : mV → Prop
  | .inr (.inr (some r)) => r.2 < hC h r.1
  | _ => True
/-- launch; class numbers; the classes of the arrays of int, boolean, Object; script, the empty row, the first new address, the Class of rows of Objects; the script -/
abbrev mG : Type := Launch × va_G × (ClassId × ClassId × ClassId) × (Nat × Nat × Nat × Nat) × (Nat × (Nat → Int32))
abbrev mtys (g : mG) : List (ClassId × FieldType) := [(g.2.2.1.1, .int), (g.2.2.1.2.1, .boolean), (g.2.2.1.2.2, .object "java/lang/Object")]
abbrev mA (g : mG) : Nat → Prop := fun q => g.2.2.2.1.2.2.1 ≤ q
def mF0 : u_T := fun k => match k with
  | 0 => ("FountainNet", "garden", "LFountainNet$Garden;", true)
  | 1 => ("FountainNet", "views", "Ljava/util/ArrayList;", true)
  | 2 => ("FountainNet", "stroll", "LFountainNet$Stroll;", true)
  | 3 => ("FountainNet", "taskList", "LFountainNet$TaskList;", true)
  | 4 => ("FountainNet", "search", "LFountainNet$LeakSearch;", true)
  | 5 => ("FountainNet", "refusals", "[I", true)
  | _ => ("FountainNet", "minutesPerJoint", "I", false)
def mD0 : Nat → FieldType := fun k => match k with
  | 0 => .object "FountainNet$Garden"
  | 1 => .object "java/util/ArrayList"
  | 2 => .object "FountainNet$Stroll"
  | 3 => .object "FountainNet$TaskList"
  | 4 => .object "FountainNet$LeakSearch"
  | 5 => .array .int
  | _ => .int
def mF1 : u_T := fun k => match k with
  | 0 => ("FountainNet$Garden", "tanks", "Ljava/util/ArrayList;", true)
  | 1 => ("FountainNet$Garden", "joints", "Ljava/util/ArrayList;", true)
  | 2 => ("FountainNet$Garden", "jets", "Ljava/util/ArrayList;", true)
  | 3 => ("FountainNet$Garden", "playing", "I", false)
  | _ => ("FountainNet$Garden", "minute", "I", false)
def mD1 : Nat → FieldType := fun k => match k with
  | 0 => .object "java/util/ArrayList"
  | 1 => .object "java/util/ArrayList"
  | 2 => .object "java/util/ArrayList"
  | 3 => .int
  | _ => .int
def mF2 : u_T := fun k => match k with
  | 0 => ("java/util/ArrayList", "elementData", "[Ljava/lang/Object;", false)
  | 1 => ("java/util/ArrayList", "size", "I", false)
  | _ => ("java/util/AbstractList", "modCount", "I", false)
def mD2 : Nat → FieldType := fun k => match k with
  | 0 => .array (.object "java/lang/Object")
  | 1 => .int
  | _ => .int
def mF3 : u_T := fun k => match k with
  | 0 => ("FountainNet$Stroll", "garden", "LFountainNet$Garden;", true)
  | 1 => ("FountainNet$Stroll", "views", "Ljava/util/ArrayList;", true)
  | 2 => ("FountainNet$Stroll", "failMinute", "I", false)
  | 3 => ("FountainNet$Stroll", "failView", "I", false)
  | 4 => ("FountainNet$Stroll", "failJet", "I", false)
  | 5 => ("FountainNet$Stroll", "waterUsed", "I", false)
  | 6 => ("FountainNet$Stroll", "leastWater", "I", false)
  | _ => ("FountainNet$Stroll", "lowestRise", "I", false)
def mD3 : Nat → FieldType := fun k => match k with
  | 0 => .object "FountainNet$Garden"
  | 1 => .object "java/util/ArrayList"
  | 2 => .int
  | 3 => .int
  | 4 => .int
  | 5 => .int
  | 6 => .int
  | _ => .int
def mF4 : u_T := fun k => match k with
  | 0 => ("FountainNet$TaskList", "garden", "LFountainNet$Garden;", true)
  | 1 => ("FountainNet$TaskList", "views", "Ljava/util/ArrayList;", true)
  | 2 => ("FountainNet$TaskList", "minuteOf", "[I", true)
  | 3 => ("FountainNet$TaskList", "jetOf", "[I", true)
  | 4 => ("FountainNet$TaskList", "opens", "[I", true)
  | 5 => ("FountainNet$TaskList", "jointOfTask", "[I", true)
  | 6 => ("FountainNet$TaskList", "mostApart", "[I", true)
  | _ => ("FountainNet$TaskList", "size", "I", false)
def mD4 : Nat → FieldType := fun k => match k with
  | 0 => .object "FountainNet$Garden"
  | 1 => .object "java/util/ArrayList"
  | 2 => .array .int
  | 3 => .array .int
  | 4 => .array .int
  | 5 => .array .int
  | 6 => .array .int
  | _ => .int
def mF5 : u_T := fun k => match k with
  | 0 => ("FountainNet$LeakSearch", "garden", "LFountainNet$Garden;", true)
  | 1 => ("FountainNet$LeakSearch", "tolerance", "I", false)
  | 2 => ("FountainNet$LeakSearch", "firstJoint", "I", false)
  | 3 => ("FountainNet$LeakSearch", "firstLeak", "I", false)
  | 4 => ("FountainNet$LeakSearch", "secondJoint", "I", false)
  | _ => ("FountainNet$LeakSearch", "secondLeak", "I", false)
def mD5 : Nat → FieldType := fun k => match k with
  | 0 => .object "FountainNet$Garden"
  | 1 => .int
  | 2 => .int
  | 3 => .int
  | 4 => .int
  | _ => .int
def mF6 : u_T := fun k => match k with
  | 0 => ("FountainNet$Tank", "number", "I", true)
  | 1 => ("FountainNet$Tank", "floor", "I", true)
  | 2 => ("FountainNet$Tank", "area", "I", true)
  | 3 => ("FountainNet$Tank", "depth", "I", true)
  | 4 => ("FountainNet$Tank", "spring", "I", false)
  | 5 => ("FountainNet$Tank", "water", "I", false)
  | 6 => ("FountainNet$Tank", "spilled", "I", false)
  | 7 => ("FountainNet$Tank", "lack", "I", false)
  | 8 => ("FountainNet$Tank", "flowNow", "I", false)
  | _ => ("FountainNet$Tank", "strollWater", "I", false)
def mD6 : Nat → FieldType := fun k => match k with
  | 0 => .int
  | 1 => .int
  | 2 => .int
  | 3 => .int
  | 4 => .int
  | 5 => .int
  | 6 => .int
  | 7 => .int
  | 8 => .int
  | _ => .int
def mF7 : u_T := fun k => match k with
  | 0 => ("FountainNet$Joint", "number", "I", true)
  | 1 => ("FountainNet$Joint", "feeder", "LFountainNet$Tank;", true)
  | 2 => ("FountainNet$Joint", "ahead", "LFountainNet$Joint;", true)
  | 3 => ("FountainNet$Joint", "height", "I", true)
  | 4 => ("FountainNet$Joint", "length", "I", true)
  | 5 => ("FountainNet$Joint", "size", "I", false)
  | 6 => ("FountainNet$Joint", "toldLeak", "I", false)
  | 7 => ("FountainNet$Joint", "triedLeak", "I", false)
  | 8 => ("FountainNet$Joint", "isEmpty", "Z", false)
  | 9 => ("FountainNet$Joint", "jetThere", "LFountainNet$Jet;", false)
  | 10 => ("FountainNet$Joint", "flowNow", "I", false)
  | 11 => ("FountainNet$Joint", "lossesTo", "I", false)
  | 12 => ("FountainNet$Joint", "isDone", "Z", false)
  | _ => ("FountainNet$Joint", "notDoneBehind", "I", false)
def mD7 : Nat → FieldType := fun k => match k with
  | 0 => .int
  | 1 => .object "FountainNet$Tank"
  | 2 => .object "FountainNet$Joint"
  | 3 => .int
  | 4 => .int
  | 5 => .int
  | 6 => .int
  | 7 => .int
  | 8 => .boolean
  | 9 => .object "FountainNet$Jet"
  | 10 => .int
  | 11 => .int
  | 12 => .boolean
  | _ => .int
def mF8 : u_T := fun k => match k with
  | 0 => ("FountainNet$Jet", "number", "I", true)
  | 1 => ("FountainNet$Jet", "bit", "I", true)
  | 2 => ("FountainNet$Jet", "place", "LFountainNet$Joint;", true)
  | 3 => ("FountainNet$Jet", "draw", "I", true)
  | _ => ("FountainNet$Jet", "reading", "I", false)
def mD8 : Nat → FieldType := fun k => match k with
  | 0 => .int
  | 1 => .int
  | 2 => .object "FountainNet$Joint"
  | 3 => .int
  | _ => .int
def mF9 : u_T := fun k => match k with
  | 0 => ("FountainNet$View", "jetSet", "I", true)
  | 1 => ("FountainNet$View", "from", "I", true)
  | 2 => ("FountainNet$View", "to", "I", true)
  | _ => ("FountainNet$View", "rise", "I", true)
def mD9 : Nat → FieldType := fun k => match k with
  | 0 => .int
  | 1 => .int
  | 2 => .int
  | _ => .int
def mF10 : u_T := fun k => match k with
  | 0 => ("FountainNetModel", "refusals", "[I", true)
  | 1 => ("FountainNetModel", "minute", "I", false)
  | 2 => ("FountainNetModel", "tanks", "I", false)
  | 3 => ("FountainNetModel", "joints", "I", false)
  | 4 => ("FountainNetModel", "jets", "I", false)
  | 5 => ("FountainNetModel", "views", "I", false)
  | 6 => ("FountainNetModel", "pace", "I", false)
  | 7 => ("FountainNetModel", "tol", "I", false)
  | 8 => ("FountainNetModel", "floor", "[I", true)
  | 9 => ("FountainNetModel", "area", "[I", true)
  | 10 => ("FountainNetModel", "depth", "[I", true)
  | 11 => ("FountainNetModel", "spring", "[I", true)
  | 12 => ("FountainNetModel", "water", "[I", true)
  | 13 => ("FountainNetModel", "spilled", "[I", true)
  | 14 => ("FountainNetModel", "lack", "[I", true)
  | 15 => ("FountainNetModel", "ahead", "[I", true)
  | 16 => ("FountainNetModel", "feeder", "[I", true)
  | 17 => ("FountainNetModel", "height", "[I", true)
  | 18 => ("FountainNetModel", "size", "[I", true)
  | 19 => ("FountainNetModel", "length", "[I", true)
  | 20 => ("FountainNetModel", "leak", "[I", true)
  | 21 => ("FountainNetModel", "jetAt", "[I", true)
  | 22 => ("FountainNetModel", "isEmpty", "[Z", true)
  | 23 => ("FountainNetModel", "joint", "[I", true)
  | 24 => ("FountainNetModel", "draw", "[I", true)
  | 25 => ("FountainNetModel", "gauge", "[I", true)
  | 26 => ("FountainNetModel", "plays", "[Z", true)
  | 27 => ("FountainNetModel", "viewSet", "[I", true)
  | 28 => ("FountainNetModel", "viewFrom", "[I", true)
  | 29 => ("FountainNetModel", "viewTo", "[I", true)
  | 30 => ("FountainNetModel", "viewRise", "[I", true)
  | 31 => ("FountainNetModel", "leaks", "[I", true)
  | 32 => ("FountainNetModel", "flow", "[I", true)
  | 33 => ("FountainNetModel", "loss", "[I", true)
  | 34 => ("FountainNetModel", "head", "[I", true)
  | 35 => ("FountainNetModel", "level", "[I", true)
  | 36 => ("FountainNetModel", "has", "[I", true)
  | 37 => ("FountainNetModel", "out", "[I", true)
  | 38 => ("FountainNetModel", "on", "[Z", true)
  | 39 => ("FountainNetModel", "lost", "[I", true)
  | 40 => ("FountainNetModel", "spill", "I", false)
  | 41 => ("FountainNetModel", "went", "I", false)
  | 42 => ("FountainNetModel", "lacked", "I", false)
  | 43 => ("FountainNetModel", "failsAt", "I", false)
  | 44 => ("FountainNetModel", "failsView", "I", false)
  | 45 => ("FountainNetModel", "failsJet", "I", false)
  | 46 => ("FountainNetModel", "walked", "I", false)
  | 47 => ("FountainNetModel", "lowest", "I", false)
  | 48 => ("FountainNetModel", "leastRise", "I", false)
  | 49 => ("FountainNetModel", "taskAt", "[I", true)
  | 50 => ("FountainNetModel", "taskJet", "[I", true)
  | 51 => ("FountainNetModel", "taskOpen", "[I", true)
  | 52 => ("FountainNetModel", "taskMany", "I", false)
  | 53 => ("FountainNetModel", "behind", "[I", true)
  | 54 => ("FountainNetModel", "seen", "[Z", true)
  | 55 => ("FountainNetModel", "isExplained", "Z", false)
  | 56 => ("FountainNetModel", "how", "I", false)
  | 57 => ("FountainNetModel", "firstJoint", "I", false)
  | 58 => ("FountainNetModel", "firstLeak", "I", false)
  | 59 => ("FountainNetModel", "secondJoint", "I", false)
  | 60 => ("FountainNetModel", "secondLeak", "I", false)
  | 61 => ("FountainNetModel", "rivals", "I", false)
  | _ => ("FountainNetModel", "trial", "[Z", true)
def mD10 : Nat → FieldType := fun k => match k with
  | 0 => .array .int
  | 1 => .int
  | 2 => .int
  | 3 => .int
  | 4 => .int
  | 5 => .int
  | 6 => .int
  | 7 => .int
  | 8 => .array .int
  | 9 => .array .int
  | 10 => .array .int
  | 11 => .array .int
  | 12 => .array .int
  | 13 => .array .int
  | 14 => .array .int
  | 15 => .array .int
  | 16 => .array .int
  | 17 => .array .int
  | 18 => .array .int
  | 19 => .array .int
  | 20 => .array .int
  | 21 => .array .int
  | 22 => .array .boolean
  | 23 => .array .int
  | 24 => .array .int
  | 25 => .array .int
  | 26 => .array .boolean
  | 27 => .array .int
  | 28 => .array .int
  | 29 => .array .int
  | 30 => .array .int
  | 31 => .array .int
  | 32 => .array .int
  | 33 => .array .int
  | 34 => .array .int
  | 35 => .array .int
  | 36 => .array .int
  | 37 => .array .int
  | 38 => .array .boolean
  | 39 => .array .int
  | 40 => .int
  | 41 => .int
  | 42 => .int
  | 43 => .int
  | 44 => .int
  | 45 => .int
  | 46 => .int
  | 47 => .int
  | 48 => .int
  | 49 => .array .int
  | 50 => .array .int
  | 51 => .array .int
  | 52 => .int
  | 53 => .array .int
  | 54 => .array .boolean
  | 55 => .boolean
  | 56 => .int
  | 57 => .int
  | 58 => .int
  | 59 => .int
  | 60 => .int
  | 61 => .int
  | _ => .array .boolean
def mkd (k : Nat) : vw_C := match k with
  | 0 => ("FountainNet", mF0, 7)
  | 1 => ("FountainNet$Garden", mF1, 5)
  | 2 => ("java/util/ArrayList", mF2, 3)
  | 3 => ("FountainNet$Stroll", mF3, 8)
  | 4 => ("FountainNet$TaskList", mF4, 8)
  | 5 => ("FountainNet$LeakSearch", mF5, 6)
  | 6 => ("FountainNet$Tank", mF6, 10)
  | 7 => ("FountainNet$Joint", mF7, 14)
  | 8 => ("FountainNet$Jet", mF8, 5)
  | 9 => ("FountainNet$View", mF9, 4)
  | _ => ("FountainNetModel", mF10, 63)
def mty (k : Nat) : Nat → FieldType := match k with
  | 0 => mD0
  | 1 => mD1
  | 2 => mD2
  | 3 => mD3
  | 4 => mD4
  | 5 => mD5
  | 6 => mD6
  | 7 => mD7
  | 8 => mD8
  | 9 => mD9
  | _ => mD10
def mcl : List vw_C := (List.range 11).map mkd
/-- is a field a pointer -/
def misR (t : FieldType) : Bool := match t with
  | .object _ => true
  | .array _ => true
  | _ => false
def mfv (ad : Nat → Nat → Nat) (h : mH) (k n f : Nat) : Value := if misR (mty k f) = true then mco ad (vp (hP h k n f)) else .int (hI h k n f)
def mfs (ad : Nat → Nat → Nat) (h : mH) (k n : Nat) : List Value := (List.range (mkd k).2.2).map (mfv ad h k n)
def mpt (ad : Nat → Nat → Nat) (h : mH) (n : Nat) : Nat → Option Nat := fun j => (hP h 13 n j).map fun r => ad r.1 r.2
def ment (g : mG) (ad : Nat → Nat → Nat) (h : mH) (k n : Nat) : va_E :=
  if k < 11 then .inr (k, mfs ad h k n)
  else if k = 11 then .inl (g.2.2.1.1, hL h 11 n, .inl (hI h 11 n))
  else if k = 12 then .inl (g.2.2.1.2.1, hL h 12 n, .inl (hI h 12 n))
  else .inl (g.2.2.1.2.2, hL h 13 n, .inr (.inr (.inr (.inr (mpt ad h n)))))
def mOld (g : mG) (U : State) (H : Heap) : Prop :=
  va_Z "java/util/ArrayList" "DEFAULTCAPACITY_EMPTY_ELEMENTDATA" "[Ljava/lang/Object;" (.ref g.2.2.2.1.2.1) (mA g) U H ∧ va_X g.2.2.2.1.1 g.2.2.2.2.1 g.2.2.2.2.2 U H ∧
  (∃ cell : Cell, H[g.2.2.2.1.2.1]? = some cell ∧ U.isArrayOf cell (.object "java/lang/Object") ∧ cell.vm ≠ .unknown ∧ cell.slots.size = 0) ∧ g.2.2.2.1.1 < g.2.2.2.1.2.2.1 ∧ g.2.2.2.1.2.1 < g.2.2.2.1.2.2.1 ∧ g.2.2.2.1.2.2.1 ≤ H.size ∧ va_Mi "[Ljava/lang/Object;" g.2.2.2.1.2.2.2 U ∧
  (∀ k, k < 11 → va_Nw (.castable (mkd k).1 "java/lang/Object") U) ∧ va_AO "java/lang/Object" U ∧ va_Dc U
def mExt (h0 : mH) (ad0 : Nat → Nat → Nat) (h : mH) (ad : Nat → Nat → Nat) : Prop := ∀ k n : Nat, n < hC h0 k → n < hC h k ∧ ad k n = ad0 k n
/-- what holds of the cells that were there before, and that pointers point at cells -/
def mCo (g : mG) (ad : Nat → Nat → Nat) (h : mH) : Prop :=
  (ad 14 0 = g.2.2.2.1.1 ∧ ad 15 0 = g.2.2.2.1.2.1 ∧ hC h 14 = 1 ∧ hC h 15 = 1 ∧ hL h 14 0 = g.2.2.2.2.1 ∧ hL h 15 0 = 0 ∧ hI h 14 0 = g.2.2.2.2.2 ∧ ad 16 0 = g.2.2.2.1.2.2.2 ∧ hC h 16 = 1) ∧
  (∀ (k n f : Nat) (r : Nat × Nat), hP h k n f = some r → r.2 < hC h r.1) ∧ (∀ k : Nat, 17 ≤ k → hC h k = 0)
def mSm (g : mG) (ad : Nat → Nat → Nat) (h : mH) (H : Heap) (ws : va_W) (ix : Nat → Nat → Nat) : Prop :=
  (∀ k n : Nat, k < 14 → n < hC h k → ws[ix k n]? = some (ad k n, ment g ad h k n)) ∧
  (∀ k n k' n' : Nat, k < 14 → n < hC h k → k' < 14 → n' < hC h k' → ix k n = ix k' n' → k = k' ∧ n = n') ∧
  va_P g.2.1 mcl ws H ∧ va_D (mA g) ws ∧ mCo g ad h
def mSim (g : mG) (ad : Nat → Nat → Nat) (h : mH) (H : Heap) : Prop := ∃ (ws : va_W) (ix : Nat → Nat → Nat), mSm g ad h H ws ix
/-- a method: its name, bytes, locals, type of its answer -/
abbrev mMe : Type := MethodName × ByteArray × Nat × Option FieldType
def mLoc (ad : Nat → Nat → Nat) (h : mH) (n : Nat) (L : List (Option mV)) (ls : Array Slot) : Prop :=
  L.length = n ∧ ls.size = n ∧ lv_wf ls ∧ ∀ (i : Nat) (v : mV), L[i]? = some (some v) → ls[i]? = some (.val (mco ad v)) ∧ mwf h v
def mX (g : mG) (m : mMe) (d mc ms : Nat) (L : List (Option mV)) (st : List mV) (h : mH) (p : Program) (R : Room) (s : State) (mi : MethodId) (args : Array Value) (meth : Method) (c : Code) (H : Heap) (ls : Array Slot) (locs : List Loc) (cells slots : Nat) (ad ad0 : Nat → Nat → Nat) (h0 : mH) : Prop :=
  (p.tables.exec = Jvm.exec ∧ c.code = m.2.1 ∧ c.maxLocals = m.2.2.1 ∧ s.vm.findClass m.1.cls = some mi.cls ∧ (∀ w ∈ mTb, w.before args s = true) ∧ meth.sig.returnType = m.2.2.2 ∧ meth.locks = false ∧ (m.1.name = "<init>" → meth.name = "<init>")) ∧
  (d ≤ R.frames ∧ 40 * d ≤ R.locals ∧ cells + mc ≤ R.cells ∧ slots + ms ≤ R.slots) ∧
  (mOld g s s.heap ∧ va_K g.2.1 mcl (mtys g) s) ∧ (mExt h0 ad0 h ad ∧ mSim g ad h H) ∧ (mLoc ad h m.2.2.1 L ls ∧ ∀ v ∈ st, mwf h v) ∧ va_S (mA g) s.heap H locs
def mRet (m : mMe) (pc : Nat) : Option mV → Prop
  | none => m.2.2.2 = none ∧ decode m.2.1 pc = .ok (.return_, 1)
  | some (.inl x) => decode m.2.1 pc = .ok (.ireturn, 1) ∧ ∃ ty, m.2.2.2 = some ty ∧ narrow ty (.int x) = .int x
  | some (.inr (.inl _)) => False
  | some (.inr (.inr _)) => decode m.2.1 pc = .ok (.areturn, 1) ∧ ∃ ty, m.2.2.2 = some ty ∧ ((∃ n, ty = .object n) ∨ ∃ t, ty = .array t)
def mEnd (g : mG) (m : mMe) (Q : Option mV → mH → Prop) (p : Program) (R : Room) (e : Env) (s : State) (mi : MethodId) (args : Array Value) (below : List Frame) (meth : Method) (c : Code) (ad0 : Nat → Nat → Nat) (h0 : mH) (Qf : State → Prop) : Prop :=
  ∀ {H : Heap} {ls : Array Slot} {locs : List Loc} {pc : Nat} {h : mH} {ad : Nat → Nat → Nat} {v : Option mV} {cells slots : Nat}, mRet m pc v → Q v h → mExt h0 ad0 h ad → mSim g ad h H → (∀ x, v = some x → mwf h x) → va_S (mA g) s.heap H locs → cells ≤ R.cells → slots ≤ R.slots →
    W p g.1 e R s mi args below meth c H locs cells slots Qf (F0 mi pc ls (v.map (mco ad)).toList)
/-- THE JUDGEMENT -/
def mT (g : mG) (m : mMe) (d mc ms pc : Nat) (L : List (Option mV)) (st : List mV) (h : mH) (Q : Option mV → mH → Prop) : Prop :=
  ∀ (p : Program) (R : Room) (e : Env) (s : State) (mi : MethodId) (args : Array Value) (below : List Frame) (meth : Method) (c : Code) (H : Heap) (ls : Array Slot) (locs : List Loc) (cells slots : Nat) (ad ad0 : Nat → Nat → Nat) (h0 : mH) (Qf : State → Prop),
    mX g m d mc ms L st h p R s mi args meth c H ls locs cells slots ad ad0 h0 → mEnd g m Q p R e s mi args below meth c ad0 h0 Qf → W p g.1 e R s mi args below meth c H locs cells slots Qf (F0 mi pc ls (st.map (mco ad)))
theorem mT.use {g : mG} {m : mMe} {d mc ms pc : Nat} {L : List (Option mV)} {st : List mV} {h : mH} {Q : Option mV → mH → Prop} (kk : mT g m d mc ms pc L st h Q) {p : Program} {R : Room} {e : Env} {s : State} {mi : MethodId} {args : Array Value} {below : List Frame} {meth : Method} {c : Code} {H : Heap} {ls : Array Slot} {locs : List Loc} {cells slots : Nat} {ad ad0 : Nat → Nat → Nat} {h0 : mH} {Qf : State → Prop}
    (X : mX g m d mc ms L st h p R s mi args meth c H ls locs cells slots ad ad0 h0) (E : mEnd g m Q p R e s mi args below meth c ad0 h0 Qf) : W p g.1 e R s mi args below meth c H locs cells slots Qf (F0 mi pc ls (st.map (mco ad))) := kk p R e s mi args below meth c H ls locs cells slots ad ad0 h0 Qf X E
theorem mX.to {g : mG} {m : mMe} {d mc ms : Nat} {L L' : List (Option mV)} {st st' : List mV} {h : mH} {p : Program} {R : Room} {s : State} {mi : MethodId} {args : Array Value} {meth : Method} {c : Code} {H : Heap} {ls ls' : Array Slot} {locs : List Loc} {cells slots : Nat} {ad ad0 : Nat → Nat → Nat} {h0 : mH}
    (X : mX g m d mc ms L st h p R s mi args meth c H ls locs cells slots ad ad0 h0) (h1 : mLoc ad h m.2.2.1 L' ls') (h2 : ∀ v ∈ st', mwf h v) : mX g m d mc ms L' st' h p R s mi args meth c H ls' locs cells slots ad ad0 h0 := ⟨X.1, X.2.1, X.2.2.1, X.2.2.2.1, ⟨h1, h2⟩, X.2.2.2.2.2⟩
