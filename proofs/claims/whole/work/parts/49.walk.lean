/-! going the walk: what both find, and the class's going -/
/-- flows out of a tank, its numbers, the numbers of the views -/
def fo (h : mH) (nJ : Nat) (js : Int32) (t : Nat) : Nat := ((rkS h nJ js 0).2 t).toNatClampNeg
def cp (h : mH) (t : Nat) : Nat := (hI h 11 8 t * hI h 11 9 t).toNatClampNeg
def sg (h : mH) (t : Nat) : Nat := (hI h 11 10 t).toNatClampNeg
def wt (h : mH) (t : Nat) : Nat := (hI h 11 11 t).toNatClampNeg
def vF (h : mH) (v : Nat) : Nat := (hI h 11 25 v).toNatClampNeg
def vT (h : mH) (v : Nat) : Nat := (hI h 11 26 v).toNatClampNeg
def rsW (h : mH) (nT nJ : Nat) (js : Int32) (k : Nat) (W : Nat → Nat) : Int32 := cRs (rkH h nT nJ js 0) js k (nI (W (nF h (nP h k))))
/-- water, what flowed out, the least water, the least rise -/
abbrev WS : Type := (Nat → Nat) × Int32 × Int32 × Int32
def psN (h : mH) (nJ : Nat) (js : Int32) (W : Nat → Nat) : Nat → Nat := fun t => fil (cp h t) (sg h t) (W t) - fo h nJ js t
def usT (h : mH) (nJ : Nat) (js : Int32) (W : Nat → Nat) (u : Int32) : Nat → Int32
  | 0 => u
  | n + 1 => usT h nJ js W u n + nI (min (fil (cp h n) (sg h n) (W n)) (fo h nJ js n))
def lowT (W : Nat → Nat) (l : Int32) : Nat → Int32
  | 0 => l
  | n + 1 => if nI (W n) < lowT W l n then nI (W n) else lowT W l n
def psW (h : mH) (nT nJ : Nat) (js : Int32) (s : WS) : WS := (psN h nJ js s.1, usT h nJ js s.1 s.2.1 nT, lowT (psN h nJ js s.1) s.2.2.1 nT, s.2.2.2)
def lkR (h : mH) (nT nJ : Nat) (js vr : Int32) (may : Bool) (W : Nat → Nat) : Nat → Nat → Int32 → Int32 × Option Nat
  | 0, _, l => (l, none)
  | n + 1, k, l => if tB js k = true then
      (if may = true ∧ rsW h nT nJ js k W < vr then (if rsW h nT nJ js k W < l then rsW h nT nJ js k W else l, some k)
       else lkR h nT nJ js vr may W n (k + 1) (if rsW h nT nJ js k W < l then rsW h nT nJ js k W else l))
    else lkR h nT nJ js vr may W n (k + 1) l
def vwA (h : mH) (nV m : Nat) : Option Nat := fsN (fun v => decide (vF h v ≤ m ∧ m ≤ vT h v)) 0 nV
abbrev R6 : Type := (Int32 × Int32 × Int32) × Int32 × Int32 × Int32
def wk (h : mH) (nT nJ nK nV : Nat) (may : Bool) : Nat → Nat → WS → R6
  | 0, _, s => ((-9, -9, -9), s.2)
  | n + 1, m, s => match vwA h nV m with
    | none => wk h nT nJ nK nV may n (m + 1) (psW h nT nJ 0 s)
    | some v => match lkR h nT nJ (hI h 11 24 v) (hI h 11 27 v) may s.1 nK 0 s.2.2.2 with
      | (l, some k) => ((nI m, nI v, nI k), s.2.1, s.2.2.1, l)
      | (l, none) => wk h nT nJ nK nV may n (m + 1) (psW h nT nJ (hI h 11 24 v) (s.1, s.2.1, s.2.2.1, l))
theorem fsN_some {p : Nat → Bool} : ∀ n lo v, fsN p lo n = some v → lo ≤ v ∧ v < lo + n ∧ p v = true ∧ ∀ u, lo ≤ u → u < v → p u = false
  | 0, _, _, h => by cases h
  | n + 1, lo, v, h => by
    unfold fsN at h
    by_cases q : p lo = true
    · rw [if_pos q] at h
      cases h
      exact ⟨Nat.le_refl _, by omega, q, fun u a b => by omega⟩
    · rw [if_neg q] at h
      obtain ⟨a, b, c, e⟩ := fsN_some n (lo + 1) v h
      refine ⟨by omega, by omega, c, fun u x y => ?_⟩
      by_cases z : u = lo
      · subst z
        cases w : p u with
        | false => rfl
        | true => exact absurd w q
      · exact e u (by omega) y
theorem fsN_none {p : Nat → Bool} : ∀ n lo, fsN p lo n = none ↔ ∀ u, lo ≤ u → u < lo + n → p u = false
  | 0, lo => ⟨fun _ u a b => by omega, fun _ => rfl⟩
  | n + 1, lo => by
    unfold fsN
    by_cases q : p lo = true
    · rw [if_pos q]
      refine ⟨fun z => (by cases z), fun z => ?_⟩
      rw [z lo (Nat.le_refl _) (by omega)] at q
      cases q
    · rw [if_neg q, fsN_none n (lo + 1)]
      refine ⟨fun z u a b => ?_, fun z u a b => z u (by omega) (by omega)⟩
      by_cases y : u = lo
      · subst y
        cases w : p u with
        | false => rfl
        | true => exact absurd w q
      · exact z u (by omega) (by omega)
theorem fsN_is {p : Nat → Bool} {n lo v : Nat} (h1 : lo ≤ v) (h2 : v < lo + n) (h3 : p v = true) (h4 : ∀ u, lo ≤ u → u < v → p u = false) : fsN p lo n = some v := by
  cases e : fsN p lo n with
  | none => rw [(fsN_none n lo).mp e v h1 h2] at h3; cases h3
  | some w =>
    obtain ⟨a, b, c, d⟩ := fsN_some n lo w e
    by_cases q : w < v
    · rw [h4 w a q] at c; cases c
    · by_cases q2 : v < w
      · rw [d v h1 q2] at h3; cases h3
      · rw [show w = v by omega]
section CORE
variable {h h' hm : mH} {nT nJ nK nV nT' nJ' nK' : Nat} {vs : Nat → Nat}
theorem mCore.num (C : mCore h nT nJ nK nV vs) {t : Nat} (ht : t < nT) : tkn h t (cp h t) (sg h t) (wt h t) := by
  obtain ⟨cap, s, w, hN⟩ := C.tks
  obtain ⟨a1, a2, a3, a4, a5, a6, a7, a8, a9⟩ := hN t ht
  have e1 : cp h t = cap t := by unfold cp; rw [a1, nc (by omega)]
  have e2 : sg h t = s t := by unfold sg; rw [a4, nc (by omega)]
  have e3 : wt h t = w t := by unfold wt; rw [a7, nc (by omega)]
  rw [e1, e2, e3]
  exact hN t ht
theorem mCore.outJ (C : mCore h nT nJ nK nV vs) (js : Int32) {t : Nat} (ht : t < nT) : (rkS h nJ js 0).2 t = nI (fo h nJ js t) ∧ fo h nJ js t ≤ 3600 := by
  have bJ := C.2.1.2.1
  have hw : ∀ j, j < nJ → ∃ w : Nat, cOwn h js 0 j = nI w ∧ w ≤ 120 := by
    intro j hj
    obtain ⟨l, l1, l2, _⟩ := C.lk hj
    unfold cOwn drawO jK
    rw [if_pos rfl, l2]
    rcases (C.jn hj).2.2.2.2.2.2.2.2.2 with ⟨q1, _⟩ | ⟨k, kl, q1, _⟩
    · rw [q1]
      exact ⟨0 + l, nI_add 0 l, by omega⟩
    · rw [q1]
      obtain ⟨_, _, _, ⟨n, n1, n2, n3, _⟩, _⟩ := C.je kl
      show ∃ w : Nat, (if js &&& hI h 8 k 1 = 0 then 0 else hI h 8 k 3) + nI l = nI w ∧ w ≤ 120
      by_cases z : js &&& hI h 8 k 1 = 0
      · rw [if_pos z]
        exact ⟨0 + l, nI_add 0 l, by omega⟩
      · rw [if_neg z, n3]
        exact ⟨n + l, nI_add n l, by omega⟩
  obtain ⟨w, hw⟩ := w_exists hw
  obtain ⟨f, o, e, _, ho⟩ := fl_bound (emp := cEmp h) (ah := jA h) (fd := jF h) (own := cOwn h js 0) (w := w) (n := nJ) (nT := nT) bJ hw (fun j a hj ha => C.lt hj (by rw [← C.ah hj]; exact ha)) (fun j hj => by rw [(C.nF_lt hj).2.1]; exact (C.nF_lt hj).1) nJ (Nat.le_refl _) (fun _ => 0) (fun _ => 0) (by rw [sumTo_0, sumTo_0]; omega) (fun j h1 h2 => by omega)
  have e2 : (rkS h nJ js 0).2 t = nI (o t) := congrFun (congrArg (fun z => z.2) e) t
  have b := ho t ht
  unfold fo
  rw [e2, nc (by omega)]
  exact ⟨rfl, b⟩
/-- reckon finds the same wherever the core is the same -/
theorem sameA.rkE (R : sameA h h') (n : Nat) (js : Int32) : rkS h' n js 0 = rkS h n js 0 := by
  have e1 : cEmp h' = cEmp h := by funext j; unfold cEmp; rw [R.2 7 j 8 rfl]
  have e2 : jA h' = jA h := by funext j; unfold jA; rw [hP_of R.1]
  have e3 : jF h' = jF h := by funext j; unfold jF; rw [hP_of R.1]
  have e4 : cOwn h' js 0 = cOwn h js 0 := by
    funext j
    unfold cOwn drawO jK
    rw [hP_of R.1, R.2 7 j 6 rfl]
    cases (hP h 7 j 9).map (·.2) with
    | none => rfl
    | some k => show (if js &&& hI h' 8 k 1 = 0 then 0 else hI h' 8 k 3) + _ = _; rw [R.2 8 k 1 rfl, R.2 8 k 3 rfl]; rfl
  unfold rkS
  rw [e1, e2, e3, e4]
end CORE
