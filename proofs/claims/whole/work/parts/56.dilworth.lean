/-! boys, in numbers alone: the longest row of tasks of which no boy can do two is the fewest boys -/
def dst (a b : Nat) : Nat := (a - b) + (b - a)
/-- a boy can do j behind i -/
def cF (M J : Nat → Nat) (p i j : Nat) : Bool := decide (i < j ∧ M i + dst (J i) (J j) * p ≤ M j)
/-- k is too near to i, at a lesser joint -/
def ap (M J : Nat → Nat) (p i k : Nat) : Bool := decide (dst (M i) (M k) < (J i - J k) * p)
theorem dst_tri (a b c : Nat) : dst a c ≤ dst a b + dst b c := by unfold dst; omega
theorem dst_sym (a b : Nat) : dst a b = dst b a := by unfold dst; omega
theorem cF_tr {M J : Nat → Nat} {p i j k : Nat} (h1 : cF M J p i j = true) (h2 : cF M J p j k = true) : cF M J p i k = true := by
  unfold cF at h1 h2 ⊢
  have h1 := of_decide_eq_true h1
  have h2 := of_decide_eq_true h2
  have t : dst (J i) (J k) * p ≤ (dst (J i) (J j) + dst (J j) (J k)) * p := Nat.mul_le_mul_right p (dst_tri _ _ _)
  rw [Nat.add_mul] at t
  exact decide_eq_true ⟨by omega, by omega⟩
theorem ap_lt {M J : Nat → Nat} {p i k : Nat} (h : ap M J p i k = true) : J k < J i := by
  unfold ap at h
  have h := of_decide_eq_true h
  by_cases q : J k < J i
  · exact q
  · rw [show J i - J k = 0 by omega, Nat.zero_mul] at h
    omega
theorem ap_tr {M J : Nat → Nat} {p i j k : Nat} (h1 : ap M J p i j = true) (h2 : ap M J p j k = true) : ap M J p i k = true := by
  have l1 := ap_lt h1
  have l2 := ap_lt h2
  unfold ap at h1 h2 ⊢
  have h1 := of_decide_eq_true h1
  have h2 := of_decide_eq_true h2
  have t := dst_tri (M i) (M j) (M k)
  have e : J i - J k = (J i - J j) + (J j - J k) := by omega
  rw [e, Nat.add_mul]
  exact decide_eq_true (by omega)
/-- too near: neither behind the other -/
theorem ap_no {M J : Nat → Nat} {p i k : Nat} (h : ap M J p i k = true) : cF M J p i k = false ∧ cF M J p k i = false := by
  have l := ap_lt h
  unfold ap at h
  have h := of_decide_eq_true h
  have e : dst (J i) (J k) = J i - J k := by unfold dst; omega
  have e2 : dst (J k) (J i) = J i - J k := by unfold dst; omega
  unfold cF
  refine ⟨decide_eq_false fun z => ?_, decide_eq_false fun z => ?_⟩
  · rw [e] at z
    unfold dst at h
    omega
  · rw [e2] at z
    unfold dst at h
    omega
/-- neither behind the other: too near -/
theorem no_ap {M J : Nat → Nat} {p i k : Nat} (hs : M i ≤ M k) (hik : i < k) (h : cF M J p i k = false) : ap M J p i k = true ∨ ap M J p k i = true := by
  unfold cF at h
  have h := of_decide_eq_false h
  unfold ap
  have e3 : dst (M i) (M k) = M k - M i := by unfold dst; omega
  have e4 : dst (M k) (M i) = M k - M i := by unfold dst; omega
  rw [e3, e4]
  by_cases q : J i ≤ J k
  · right
    have e : dst (J i) (J k) = J k - J i := by unfold dst; omega
    rw [e] at h
    exact decide_eq_true (by omega)
  · left
    have e : dst (J i) (J k) = J i - J k := by unfold dst; omega
    rw [e] at h
    exact decide_eq_true (by omega)
/-! counts -/
theorem cnt_or {p q : Nat → Bool} : ∀ n, cnt (fun k => p k || q k) n ≤ cnt p n + cnt q n
  | 0 => Nat.le_refl _
  | n + 1 => by
    have := cnt_or (p := p) (q := q) n
    rw [cnt_s, cnt_s, cnt_s]
    cases p n <;> cases q n <;> simp <;> omega
theorem cnt_sub {p q : Nat → Bool} : ∀ n, (∀ k, k < n → p k = true → q k = true) → cnt p n ≤ cnt q n
  | 0, _ => Nat.le_refl _
  | n + 1, h => by
    have := cnt_sub n (fun k hk => h k (by omega))
    have h2 := h n (by omega)
    rw [cnt_s, cnt_s]
    cases e : p n with
    | false => simp; omega
    | true => rw [h2 e]; omega
theorem cnt_split {p q : Nat → Bool} : ∀ n, cnt p n = cnt (fun k => p k && q k) n + cnt (fun k => p k && !q k) n
  | 0 => rfl
  | n + 1 => by
    have := cnt_split (p := p) (q := q) n
    rw [cnt_s, cnt_s, cnt_s]
    cases p n <;> cases q n <;> simp <;> omega
theorem cnt_not {p : Nat → Bool} : ∀ n, cnt p n + cnt (fun k => !p k) n = n
  | 0 => rfl
  | n + 1 => by
    have := cnt_not (p := p) n
    rw [cnt_s, cnt_s]
    cases p n <;> simp <;> omega
theorem cnt_inj {p q : Nat → Bool} {N : Nat} {f : Nat → Nat} : ∀ n (q : Nat → Bool), (∀ k, k < n → p k = true → f k < N ∧ q (f k) = true) → (∀ k l, k < n → l < n → p k = true → p l = true → f k = f l → k = l) → cnt p n ≤ cnt q N
  | 0, _, _, _ => Nat.zero_le _
  | n + 1, q, h, hi => by
    rw [cnt_s]
    cases e : p n with
    | false =>
      simp
      exact cnt_inj (q := q) n q (fun k hk => h k (by omega)) (fun k l a b => hi k l (by omega) (by omega))
    | true =>
      obtain ⟨a, b⟩ := h n (by omega) e
      have r := cnt_off (p := q) (q := fun k => if k = f n then false else q k) (b := f n) b (if_pos rfl) N a (fun k _ hk => (if_neg hk).symm)
      have := cnt_inj (q := q) n (fun k => if k = f n then false else q k) (fun k hk hp => by
        obtain ⟨a2, b2⟩ := h k (by omega) hp
        refine ⟨a2, ?_⟩
        rw [if_neg (fun z => by have := hi k n (by omega) (by omega) hp e z; omega)]
        exact b2) (fun k l a b => hi k l (by omega) (by omega))
      simp
      omega
theorem cnt_ex {p : Nat → Bool} : ∀ n, 0 < cnt p n → ∃ k, k < n ∧ p k = true
  | 0, h => absurd h (Nat.not_lt_zero _)
  | n + 1, h => by
    rw [cnt_s] at h
    cases e : p n with
    | true => exact ⟨n, by omega, e⟩
    | false =>
      rw [e] at h
      obtain ⟨k, a, b⟩ := cnt_ex n (by simpa using h)
      exact ⟨k, by omega, b⟩
theorem cnt_pos {p : Nat → Bool} {k : Nat} : ∀ n, k < n → p k = true → 0 < cnt p n
  | 0, h, _ => absurd h (Nat.not_lt_zero _)
  | n + 1, h, e => by
    rw [cnt_s]
    by_cases q : k = n
    · rw [← q, e]; simp
    · have := cnt_pos (p := p) n (k := k) (by omega) e
      omega
/-! the class's rounds -/
def mxK (M J : Nat → Nat) (p : Nat) (A : Nat → Nat) (i : Nat) : Nat → Nat
  | 0 => 0
  | k + 1 => if ap M J p i k = true then max (mxK M J p A i k) (A k) else mxK M J p A i k
def aR (M J : Nat → Nat) (p n : Nat) : Nat → Nat → Nat
  | 0 => fun _ => 0
  | r + 1 => fun i => if J i = r then 1 + mxK M J p (aR M J p n r) i n else aR M J p n r i
theorem mxK_congr {M J : Nat → Nat} {p : Nat} {A B : Nat → Nat} {i : Nat} : ∀ n, (∀ k, k < n → ap M J p i k = true → A k = B k) → mxK M J p A i n = mxK M J p B i n
  | 0, _ => rfl
  | n + 1, h => by
    unfold mxK
    rw [mxK_congr n (fun k hk => h k (by omega))]
    by_cases q : ap M J p i n = true
    · rw [if_pos q, if_pos q, h n (by omega) q]
    · rw [if_neg q, if_neg q]
theorem mxK_ge {M J : Nat → Nat} {p : Nat} {A : Nat → Nat} {i k : Nat} : ∀ n, k < n → ap M J p i k = true → A k ≤ mxK M J p A i n
  | 0, h, _ => absurd h (Nat.not_lt_zero _)
  | n + 1, h, e => by
    unfold mxK
    by_cases q : k = n
    · subst q
      rw [if_pos e]
      omega
    · have := mxK_ge (A := A) n (k := k) (by omega) e
      split <;> omega
theorem mxK_is {M J : Nat → Nat} {p : Nat} {A : Nat → Nat} {i : Nat} : ∀ n, mxK M J p A i n = 0 ∨ ∃ k, k < n ∧ ap M J p i k = true ∧ mxK M J p A i n = A k
  | 0 => Or.inl rfl
  | n + 1 => by
    unfold mxK
    by_cases q : ap M J p i n = true
    · rw [if_pos q]
      by_cases z : mxK M J p A i n ≤ A n
      · exact Or.inr ⟨n, by omega, q, by omega⟩
      · rw [Nat.max_eq_left (by omega)]
        rcases mxK_is (A := A) (i := i) n with y | ⟨k, a, b, c⟩
        · exact Or.inl y
        · exact Or.inr ⟨k, by omega, b, c⟩
    · rw [if_neg q]
      rcases mxK_is (A := A) (i := i) n with y | ⟨k, a, b, c⟩
      · exact Or.inl y
      · exact Or.inr ⟨k, by omega, b, c⟩
theorem aR_keep {M J : Nat → Nat} {p n i : Nat} : ∀ r s, J i < r → r ≤ s → aR M J p n s i = aR M J p n r i := by
  intro r s h1 h2
  obtain ⟨k, rfl⟩ : ∃ k, s = r + k := ⟨s - r, by omega⟩
  clear h2
  induction k with
  | zero => rfl
  | succ k ih =>
    show (if J i = r + k then _ else aR M J p n (r + k) i) = _
    rw [if_neg (by omega)]
    exact ih
theorem aR_eq {M J : Nat → Nat} {p n i r : Nat} (h : J i < r) : aR M J p n r i = 1 + mxK M J p (aR M J p n r) i n := by
  rw [aR_keep (J i + 1) r (by omega) (by omega)]
  show (if J i = J i then 1 + mxK M J p (aR M J p n (J i)) i n else _) = _
  rw [if_pos rfl]
  refine congrArg _ (mxK_congr n fun k _ e => ?_)
  have := ap_lt e
  rw [aR_keep (J k + 1) (J i) (by omega) (by omega), aR_keep (J k + 1) r (by omega) (by omega)]
/-- a row of tasks of which no boy can do two, as long as told -/
theorem row_of {M J : Nat → Nat} {p n r : Nat} : ∀ i, i < n → J i < r → ∃ X : Nat → Bool, cnt X n = aR M J p n r i ∧ X i = true ∧ (∀ k, k < n → X k = true → k = i ∨ ap M J p i k = true) ∧ ∀ k l, k < n → l < n → X k = true → X l = true → k = l ∨ ap M J p k l = true ∨ ap M J p l k = true := by
  have key : ∀ b i, J i < b → i < n → J i < r → ∃ X : Nat → Bool, cnt X n = aR M J p n r i ∧ X i = true ∧ (∀ k, k < n → X k = true → k = i ∨ ap M J p i k = true) ∧ ∀ k l, k < n → l < n → X k = true → X l = true → k = l ∨ ap M J p k l = true ∨ ap M J p l k = true := by
    intro b
    induction b with
    | zero => intro i h; omega
    | succ b ih =>
      intro i hb hi hr
      rw [aR_eq hr]
      rcases mxK_is (M := M) (J := J) (p := p) (A := aR M J p n r) (i := i) n with z | ⟨k, k1, k2, k3⟩
      · refine ⟨fun x => decide (x = i), ?_, decide_eq_true rfl, fun k _ e => Or.inl (of_decide_eq_true e), fun k l _ _ a c => Or.inl ((of_decide_eq_true a).trans (of_decide_eq_true c).symm)⟩
        rw [z]
        have h0 : cnt (fun _ => false) n = 0 := (cnt_0 n).mpr fun _ _ => rfl
        rw [cnt_off (p := fun x => decide (x = i)) (q := fun _ => false) (b := i) (decide_eq_true rfl) rfl n hi (fun k _ hk => decide_eq_false hk), h0]
      · have lk := ap_lt k2
        obtain ⟨X, x1, x2, x3, x4⟩ := ih k (by omega) k1 (by omega)
        have nX : X i = false := by
          cases e : X i with
          | false => rfl
          | true =>
            rcases x3 i hi e with y | y
            · rw [y] at lk; omega
            · have := ap_lt y; omega
        have up : ∀ y, y < n → X y = true → ap M J p i y = true := fun y hy e => by
          rcases x3 y hy e with z | z
          · rw [z]; exact k2
          · exact ap_tr k2 z
        refine ⟨fun x => if x = i then true else X x, ?_, if_pos rfl, fun y hy e => ?_, fun y l hy hl ey el => ?_⟩
        · rw [cnt_off (p := fun x => if x = i then true else X x) (q := X) (b := i) (if_pos rfl) nX n hi (fun k _ hk => if_neg hk), x1, k3]
          omega
        · dsimp only at e
          by_cases q : y = i
          · exact Or.inl q
          · rw [if_neg q] at e
            exact Or.inr (up y hy e)
        · dsimp only at ey el
          by_cases q : y = i
          · by_cases q2 : l = i
            · exact Or.inl (q.trans q2.symm)
            · rw [if_neg q2] at el
              rw [q]
              exact Or.inr (Or.inl (up l hl el))
          · rw [if_neg q] at ey
            by_cases q2 : l = i
            · rw [q2]
              exact Or.inr (Or.inr (up y hy ey))
            · rw [if_neg q2] at el
              exact x4 y l hy hl ey el
  intro i hi hr
  exact key (J i + 1) i (by omega) hi hr
/-- and such a row is no longer than told -/
theorem row_le {M J : Nat → Nat} {p n r : Nat} {X : Nat → Bool} (hJ : ∀ i, i < n → J i < r) (hX : ∀ k l, k < n → l < n → X k = true → X l = true → k = l ∨ ap M J p k l = true ∨ ap M J p l k = true) : cnt X n = 0 ∨ ∃ i, i < n ∧ cnt X n ≤ aR M J p n r i := by
  have key : ∀ b, cnt (fun k => X k && decide (J k < b)) n = 0 ∨ ∃ i, i < n ∧ X i = true ∧ J i < b ∧ cnt (fun k => X k && decide (J k < b)) n ≤ aR M J p n r i := by
    intro b
    induction b with
    | zero => exact Or.inl ((cnt_0 n).mpr fun k _ => by simp)
    | succ b ih =>
      by_cases q : ∃ x, x < n ∧ X x = true ∧ J x = b
      · obtain ⟨x, x1, x2, x3⟩ := q
        have e : cnt (fun k => X k && decide (J k < b + 1)) n = cnt (fun k => X k && decide (J k < b)) n + 1 := by
          refine cnt_off (b := x) ?_ ?_ n x1 (fun k hk hkx => ?_)
          · simp [x2, x3]
          · simp [x3]
          · cases eX : X k with
            | false => simp
            | true =>
              have : J k ≠ b := fun z => by
                rcases hX k x hk x1 eX x2 with y | y | y
                · exact hkx y
                · have := ap_lt y; omega
                · have := ap_lt y; omega
              have e2 : (J k < b + 1) = (J k < b) := propext ⟨fun y => by omega, fun y => by omega⟩
              simp only [e2]
        right
        refine ⟨x, x1, x2, by omega, ?_⟩
        rw [e, aR_eq (hJ x x1)]
        rcases ih with z | ⟨i, i1, i2, i3, i4⟩
        · omega
        · have hap : ap M J p x i = true := by
            rcases hX x i x1 i1 x2 i2 with y | y | y
            · rw [y] at x3; omega
            · exact y
            · have := ap_lt y; omega
          have := mxK_ge (A := aR M J p n r) n i1 hap
          omega
      · have e : cnt (fun k => X k && decide (J k < b + 1)) n = cnt (fun k => X k && decide (J k < b)) n := by
          refine cnt_congr n fun k hk => ?_
          cases eX : X k with
          | false => simp
          | true =>
            have : J k ≠ b := fun z => q ⟨k, hk, eX, z⟩
            have e2 : (J k < b + 1) = (J k < b) := propext ⟨fun y => by omega, fun y => by omega⟩
            simp only [e2]
        rw [e]
        rcases ih with z | ⟨i, i1, i2, i3, i4⟩
        · exact Or.inl z
        · exact Or.inr ⟨i, i1, i2, by omega, i4⟩
  have e : cnt (fun k => X k && decide (J k < r)) n = cnt X n := by
    refine cnt_congr n fun k hk => ?_
    rw [decide_eq_true (hJ k hk), Bool.and_true]
  rcases key r with z | ⟨i, i1, i2, i3, i4⟩
  · exact Or.inl (by omega)
  · exact Or.inr ⟨i, i1, by omega⟩
/-! chains of a matching -/
def anc (bh : Nat → Option Nat) : Nat → Nat → Option Nat
  | 0, v => some v
  | k + 1, v => (anc bh k v).bind bh
theorem anc_bh {bh : Nat → Option Nat} {v a : Nat} (e : bh v = some a) : ∀ k, anc bh (k + 1) v = anc bh k a
  | 0 => by show (some v).bind bh = some a; rw [Option.bind_some]; exact e
  | k + 1 => by
    show (anc bh (k + 1) v).bind bh = (anc bh k a).bind bh
    rw [anc_bh e k]
theorem anc_le {bh : Nat → Option Nat} (hb : ∀ v a, bh v = some a → a < v) : ∀ k v u, anc bh k v = some u → u ≤ v
  | 0, v, u, h => by cases h; exact Nat.le_refl _
  | k + 1, v, u, h => by
    cases e : anc bh k v with
    | none => rw [show anc bh (k + 1) v = (anc bh k v).bind bh from rfl, e] at h; cases h
    | some w =>
      rw [show anc bh (k + 1) v = (anc bh k v).bind bh from rfl, e] at h
      have h1 := anc_le hb k v w e
      have h2 := hb w u h
      omega
theorem anc_root {bh : Nat → Option Nat} (hb : ∀ v a, bh v = some a → a < v) : ∀ v, ∃ r k, anc bh k v = some r ∧ bh r = none := by
  intro v
  induction v using Nat.strongRecOn with
  | _ v ih =>
    cases e : bh v with
    | none => exact ⟨v, 0, rfl, e⟩
    | some a =>
      obtain ⟨r, k, h1, h2⟩ := ih a (hb v a e)
      exact ⟨r, k + 1, by rw [anc_bh e]; exact h1, h2⟩
/-- of two in one chain the lesser stands ahead -/
theorem anc_same {bh : Nat → Option Nat} (hb : ∀ v a, bh v = some a → a < v) (hi : ∀ v w a, bh v = some a → bh w = some a → v = w) {r : Nat} : ∀ v u k l, anc bh k v = some r → anc bh l u = some r → bh r = none → u ≤ v → ∃ j, anc bh j v = some u := by
  intro v
  induction v using Nat.strongRecOn with
  | _ v ih =>
    intro u k l hk hl hr huv
    by_cases q : u = v
    · exact ⟨0, by rw [q]; rfl⟩
    · have lu := anc_le hb l u r hl
      cases e : bh v with
      | none =>
        exfalso
        cases k with
        | zero => cases hk; omega
        | succ k =>
          cases k with
          | zero => rw [show anc bh 1 v = (some v).bind bh from rfl, Option.bind_some, e] at hk; cases hk
          | succ k =>
            -- the chain ends at v
            have z : ∀ k, anc bh (k + 1) v = none := by
              intro k
              induction k with
              | zero => show (some v).bind bh = none; rw [Option.bind_some]; exact e
              | succ k ih2 => show (anc bh (k + 1) v).bind bh = none; rw [ih2]; rfl
            rw [z] at hk
            cases hk
      | some a =>
        have la := hb v a e
        have hk' : ∃ k', anc bh k' a = some r := by
          cases k with
          | zero => cases hk; omega
          | succ k => exact ⟨k, by rw [← anc_bh e]; exact hk⟩
        obtain ⟨k', hk'⟩ := hk'
        by_cases q2 : u ≤ a
        · obtain ⟨j, hj⟩ := ih a la u k' l hk' hl hr q2
          exact ⟨j + 1, by rw [anc_bh e]; exact hj⟩
        · exfalso
          obtain ⟨j, hj⟩ := ih u (by omega) a l k' hl hk' hr (by omega)
          cases j with
          | zero => cases hj; omega
          | succ j =>
            cases ej : anc bh j u with
            | none => rw [show anc bh (j + 1) u = (anc bh j u).bind bh from rfl, ej] at hj; cases hj
            | some w =>
              rw [show anc bh (j + 1) u = (anc bh j u).bind bh from rfl, ej] at hj
              have lw := anc_le hb j u w ej
              have := hi v w a e hj
              omega
theorem anc_cF {M J : Nat → Nat} {p : Nat} {bh : Nat → Option Nat} (hc : ∀ v a, bh v = some a → cF M J p a v = true) : ∀ k v u, anc bh k v = some u → u = v ∨ cF M J p u v = true
  | 0, v, u, h => by cases h; exact Or.inl rfl
  | k + 1, v, u, h => by
    cases e : anc bh k v with
    | none => rw [show anc bh (k + 1) v = (anc bh k v).bind bh from rfl, e] at h; cases h
    | some w =>
      rw [show anc bh (k + 1) v = (anc bh k v).bind bh from rfl, e] at h
      have h1 := hc w u h
      rcases anc_cF hc k v w e with q | q
      · rw [q] at h1; exact Or.inr h1
      · exact Or.inr (cF_tr h1 q)
/-- a row of which no boy can do two is no longer than the chains of a matching -/
theorem chains {M J : Nat → Nat} {p n : Nat} {bh : Nat → Option Nat} {X : Nat → Bool} (hc : ∀ v a, bh v = some a → cF M J p a v = true) (hi : ∀ v w a, bh v = some a → bh w = some a → v = w) (hX : ∀ k l, k < n → l < n → X k = true → X l = true → k = l ∨ ap M J p k l = true ∨ ap M J p l k = true) : cnt X n ≤ cnt (fun j => (bh j).isNone) n := by
  have hb : ∀ v a, bh v = some a → a < v := fun v a e => by
    have := hc v a e
    unfold cF at this
    exact (of_decide_eq_true this).1
  obtain ⟨rt, hrt⟩ := w_exists (n := n) (P := fun v r => ∃ k, anc bh k v = some r ∧ bh r = none) (fun v _ => anc_root hb v)
  refine cnt_inj (q := fun j => (bh j).isNone) (f := rt) n _ (fun k hk _ => ?_) (fun k l hk hl ek el e => ?_)
  · obtain ⟨j, h1, h2⟩ := hrt k hk
    have := anc_le hb j k _ h1
    exact ⟨by omega, by show (bh (rt k)).isNone = true; rw [h2]; rfl⟩
  · obtain ⟨j, h1, h2⟩ := hrt k hk
    obtain ⟨i, h3, h4⟩ := hrt l hl
    rw [← e] at h3
    have no : ∀ a b, ap M J p a b = true → cF M J p a b = true → False := fun a b x y => by rw [(ap_no x).1] at y; cases y
    have no2 : ∀ a b, ap M J p a b = true → cF M J p b a = true → False := fun a b x y => by rw [(ap_no x).2] at y; cases y
    by_cases q : k ≤ l
    · obtain ⟨x, hx⟩ := anc_same hb hi l k i j h3 h1 h2 q
      rcases anc_cF hc x l k hx with y | y
      · exact y
      · exfalso
        rcases hX k l hk hl ek el with z | z | z
        · rw [z] at y; unfold cF at y; have := (of_decide_eq_true y).1; omega
        · exact no _ _ z y
        · exact no2 _ _ z y
    · obtain ⟨x, hx⟩ := anc_same hb hi k l j i h1 h3 h2 (by omega)
      rcases anc_cF hc x k l hx with y | y
      · exact y.symm
      · exfalso
        rcases hX k l hk hl ek el with z | z | z
        · rw [z] at y; unfold cF at y; have := (of_decide_eq_true y).1; omega
        · exact no2 _ _ z y
        · exact no _ _ z y
/-- the fewest boys -/
theorem dilworth {M J : Nat → Nat} {p n r F G : Nat} {bh : Nat → Option Nat} {A B fl : Nat → Bool} (hJ : ∀ i, i < n → J i < r) (hM : ∀ i k, i < k → k < n → M i ≤ M k) (hF1 : ∀ i, i < n → aR M J p n r i ≤ F) (hF2 : F = 0 ∨ ∃ i, i < n ∧ F = aR M J p n r i)
    (hc : ∀ v a, bh v = some a → cF M J p a v = true) (hi : ∀ v w a, bh v = some a → bh w = some a → v = w) (hG : cnt (fun j => (bh j).isNone) n = G) (hfl : cnt fl n = G) (h1 : ∀ u, u < n → fl u = true → A u = true) (h2 : ∀ a, a < n → A a = true → ∀ j, j < n → cF M J p a j = true → B j = true) (h3 : ∀ j, j < n → B j = true → ∃ a, a < n ∧ bh j = some a ∧ A a = true) (h4 : ∀ j a, bh j = some a → fl a = false) : F = G := by
  have up : F ≤ G := by
    rcases hF2 with z | ⟨i, i1, i2⟩
    · omega
    · obtain ⟨X, x1, x2, x3, x4⟩ := row_of (M := M) (J := J) (p := p) (r := r) i i1 (hJ i i1)
      have := chains (n := n) hc hi x4
      omega
  have dn : G ≤ F := by
    -- A without B
    have hX : ∀ k l, k < n → l < n → (A k && !B k) = true → (A l && !B l) = true → k = l ∨ ap M J p k l = true ∨ ap M J p l k = true := by
      intro k l hk hl ek el
      rw [Bool.and_eq_true, Bool.not_eq_true'] at ek el
      have nf : ∀ a b, a < n → b < n → A a = true → B b = false → cF M J p a b = false := fun a b ha hb x y => by
        cases e : cF M J p a b with
        | false => rfl
        | true => rw [h2 a ha x b hb e] at y; cases y
      by_cases q : k < l
      · rcases no_ap (hM k l q hl) q (nf k l hk hl ek.1 el.2) with z | z
        · exact Or.inr (Or.inl z)
        · exact Or.inr (Or.inr z)
      · by_cases q2 : l < k
        · rcases no_ap (hM l k q2 hk) q2 (nf l k hl hk el.1 ek.2) with z | z
          · exact Or.inr (Or.inr z)
          · exact Or.inr (Or.inl z)
        · exact Or.inl (by omega)
    have c1 : cnt A n ≤ cnt (fun k => A k && !B k) n + cnt B n := by
      refine Nat.le_trans (cnt_sub (q := fun k => (A k && !B k) || B k) n fun k _ e => ?_) (cnt_or n)
      rw [e]
      cases B k <;> rfl
    have c2 : cnt B n ≤ cnt (fun k => A k && !fl k) n := by
      obtain ⟨f, hf⟩ := w_exists (n := n) (P := fun j a => B j = true → a < n ∧ bh j = some a ∧ A a = true) (fun j hj => by
        cases e : B j with
        | false => exact ⟨0, fun z => by cases z⟩
        | true =>
          obtain ⟨a, a1, a2, a3⟩ := h3 j hj e
          exact ⟨a, fun _ => ⟨a1, a2, a3⟩⟩)
      refine cnt_inj (q := fun k => A k && !fl k) (f := f) n _ (fun k hk e => ?_) (fun k l hk hl ek el e => ?_)
      · obtain ⟨a1, a2, a3⟩ := hf k hk e
        refine ⟨a1, ?_⟩
        rw [a3, h4 k _ a2]
        rfl
      · obtain ⟨_, a2, _⟩ := hf k hk ek
        obtain ⟨_, b2, _⟩ := hf l hl el
        rw [← e] at b2
        exact hi k l _ a2 b2
    have c3 : cnt (fun k => A k && fl k) n = cnt fl n := by
      refine cnt_congr n fun k hk => ?_
      cases e : fl k with
      | false => simp
      | true => rw [h1 k hk e]; rfl
    have c4 := cnt_split (p := A) (q := fl) n
    rcases row_le (M := M) (J := J) (p := p) (n := n) (r := r) hJ hX with z | ⟨i, i1, i2⟩
    · omega
    · have := hF1 i i1
      omega
  omega
