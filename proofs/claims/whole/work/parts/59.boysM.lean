/-! boys of the model; boys -/
section CORE
variable {h h' hm : mH} {nT nJ nK nV nT' nJ' nK' : Nat} {vs : Nat → Nat}
theorem sp_leads {g : mG} {p : Nat} {hB : mH} (C : mCore h nT nJ nK nV vs) (B : bB h hB nK p (tkL h nK nV)) (bn : (tkL h nK nV).length ≤ 60) (bp : p ≤ 30) : ∀ f d (seen : Nat → Bool) (bh : Nat → Option Nat) hX a (Q : Option mV → mH → Prop), cnt (fun j => !seen j) (tkL h nK nV).length ≤ f → a < (tkL h nK nV).length → bR hB hX (tkL h nK nV).length seen bh → ldP (tkL h nK nV).length (cF (Mf (tkL h nK nV)) (Jf h (tkL h nK nV)) p) seen bh a →
    (∀ hY s2 b2, bR hB hY (tkL h nK nV).length s2 b2 → ldT (tkL h nK nV).length (cF (Mf (tkL h nK nV)) (Jf h (tkL h nK nV)) p) seen bh a b2 → Q (some (vi 1)) hY) → (∀ hY s2, bR hB hY (tkL h nK nV).length s2 bh → ldF (tkL h nK nV).length (cF (Mf (tkL h nK nV)) (Jf h (tkL h nK nV)) p) seen bh a s2 → Q (some (vi 0)) hY) →
    mT g me_fm_leads (d + f + 2) 0 0 0 [some (vr 10 0), some (vi (nI a)), none] [] hX Q := by
  intro f
  induction f with
  | zero =>
    intro d seen bh hX a Q hf ha R P KT KF
    refine v_fm_leads_0 _ (B.1.of R.1) ?_
    -- all are seen
    have all : ∀ j, j < (tkL h nK nV).length → seen j = true := fun j hj => by
      have := (cnt_0 _).mp (by omega : cnt (fun j => !seen j) (tkL h nK nV).length = 0) j hj
      simpa using this
    have w : ∀ j, j ≤ (tkL h nK nV).length → mT g me_fm_leads (d + 0 + 2) 0 0 2 [some (vr 10 0), some (vi (nI a)), some (vi (nI j))] [] hX Q := by
      refine upTo ?_ fun j hj ih => ?_
      · have c52 : hI hX 10 0 52 = nI (tkL h nK nV).length := (R.2.1 10 0 52 (by omega) (by omega)).trans B.2.1.2
        exact v_fm_leads_2 _ _ (B.1.of R.1) ⟨fun _ => KF hX seen R ⟨fun _ z => z, fun j hj _ => all j hj, fun j hj z y => (by rw [z] at y; cases y)⟩, fun q => absurd (by rw [c52]; exact Int32.le_refl _) q⟩
      · have c52 : hI hX 10 0 52 = nI (tkL h nK nV).length := (R.2.1 10 0 52 (by omega) (by omega)).trans B.2.1.2
        refine v_fm_leads_2 _ _ (B.1.of R.1) ⟨fun q => absurd q (by rw [c52]; exact nnle hj (by omega)), fun _ => ⟨nin (by omega) (by omega), ?_⟩⟩
        rw [nc (by omega : j ≤ 1000000), R.2.2.2 j hj, all j hj, nI_1]
        exact ⟨fun _ => ih, fun q => absurd q (by decide)⟩
    exact w 0 (Nat.zero_le _)
  | succ f ihf =>
    intro d seen bh hX a Q hf ha R P KT KF
    refine v_fm_leads_0 _ (B.1.of R.1) ?_
    have w : ∀ j, j ≤ (tkL h nK nV).length → ∀ s h2, bR hB h2 (tkL h nK nV).length s bh → (∀ k, seen k = true → s k = true) → (∀ k, k < j → cF (Mf (tkL h nK nV)) (Jf h (tkL h nK nV)) p a k = true → s k = true) → (∀ k, k < (tkL h nK nV).length → s k = true → seen k = false → ∃ b, b < (tkL h nK nV).length ∧ bh k = some b ∧ ∀ l, l < (tkL h nK nV).length → cF (Mf (tkL h nK nV)) (Jf h (tkL h nK nV)) p b l = true → s l = true) →
        mT g me_fm_leads (d + (f + 1) + 2) 0 0 2 [some (vr 10 0), some (vi (nI a)), some (vi (nI j))] [] h2 Q := by
      refine upTo ?_ fun j hj ih => ?_
      · intro s h2 R2 s1 s2 s3
        have c52 : hI h2 10 0 52 = nI (tkL h nK nV).length := (R2.2.1 10 0 52 (by omega) (by omega)).trans B.2.1.2
        exact v_fm_leads_2 _ _ (B.1.of R2.1) ⟨fun _ => KF h2 s R2 ⟨s1, s2, s3⟩, fun q => absurd (by rw [c52]; exact Int32.le_refl _) q⟩
      · intro s h2 R2 s1 s2 s3
        have c52 : hI h2 10 0 52 = nI (tkL h nK nV).length := (R2.2.1 10 0 52 (by omega) (by omega)).trans B.2.1.2
        have hin : vp_in (nI j) 60 := nin (by omega) (by omega)
        have cj : (nI j).toNatClampNeg = j := nc (by omega)
        -- go on, if j is seen or can't be led
        have on : (cF (Mf (tkL h nK nV)) (Jf h (tkL h nK nV)) p a j = true → s j = true) → mT g me_fm_leads (d + (f + 1) + 2) 0 0 2 [some (vr 10 0), some (vi (nI a)), some (vi (nI j + 1))] [] h2 Q := by
          intro z
          rw [nI_1]
          refine ih s h2 R2 s1 (fun k hk e => ?_) s3
          by_cases q : k = j
          · rw [q] at e ⊢; exact z e
          · exact s2 k (by omega) e
        refine v_fm_leads_2 _ _ (B.1.of R2.1) ⟨fun q => absurd q (by rw [c52]; exact nnle hj (by omega)), fun _ => ⟨hin, ?_⟩⟩
        rw [cj, R2.2.2.2 j hj]
        refine ⟨fun q => on fun _ => ?_, fun q => ?_⟩
        · cases e : s j with
          | true => rfl
          | false => rw [e] at q; exact absurd rfl q
        · have sj : s j = false := bI_0.mp q
          have nj : seen j = false := by
            cases e : seen j with
            | false => rfl
            | true => rw [s1 j e] at sj; cases sj
          refine sp_canFollow (d := d + (f + 1)) C B R2 bn bp ha hj ⟨_, rfl, B.1.of R2.1, fun q2 => ?_, fun q2 => on fun z => by rw [z] at q2; exact absurd q2 (by decide)⟩
          have hc : cF (Mf (tkL h nK nV)) (Jf h (tkL h nK nV)) p a j = true := by
            cases e : cF (Mf (tkL h nK nV)) (Jf h (tkL h nK nV)) p a j with
            | true => rfl
            | false => rw [e] at q2; exact absurd rfl q2
          have hm : ∀ k, k < (tkL h nK nV).length → s k = true → seen k = false → bh k ≠ none := fun k k1 k2 k3 z => by
            obtain ⟨b, _, e, _⟩ := s3 k k1 k2 k3
            rw [z] at e; cases e
          have Ps : ldP (tkL h nK nV).length (cF (Mf (tkL h nK nV)) (Jf h (tkL h nK nV)) p) s bh a := by
            have sf : ∀ j, s j = false → seen j = false := fun j z => by
              cases e : seen j with
              | false => rfl
              | true => rw [s1 j e] at z; cases z
            exact ⟨fun k k1 k2 => P.1 k k1 (sf k k2), fun k l u k1 l1 k2 l2 => P.2.1 k l u k1 l1 (sf k k2) (sf l l2), fun k u k1 k2 => P.2.2 k u k1 (sf k k2)⟩
          rw [R2.2.2.1 j hj]
          refine ⟨hin, hin, fun q3 => ⟨hin, ?_⟩, fun q3 => ⟨hin, ?_⟩⟩
          · -- nobody leads j
            have bj : bh j = none := by
              cases e : bh j with
              | none => rfl
              | some b =>
                rw [e] at q3
                have hb : b < (tkL h nK nV).length := (Ps.2.2 j b hj sj e).2
                exact absurd q3 (nnneg (by omega))
            exact KT _ _ _ (R2.see.led (a := a)) (ldT_wk P s1 hm (ldT_free Ps ha hj sj hc bj))
          · have bj : ∃ b, bh j = some b := by
              cases e : bh j with
              | none => rw [e] at q3; exact absurd (by decide) q3
              | some b => exact ⟨b, rfl⟩
            obtain ⟨b, bj⟩ := bj
            have hb : b < (tkL h nK nV).length := (Ps.2.2 j b hj sj bj).2
            have e0 : oI (bh j) = nI b := by rw [bj]; rfl
            rw [e0]
            have hcn : cnt (fun i => !seJ s j i) (tkL h nK nV).length ≤ f := by
              have c1 : cnt (fun i => !s i) (tkL h nK nV).length ≤ cnt (fun i => !seen i) (tkL h nK nV).length := cnt_sub _ fun k _ e => by
                cases e2 : seen k with
                | false => rfl
                | true =>
                  have e3 := s1 k e2
                  rw [e3] at e; cases e
              have c2 : cnt (fun i => !s i) (tkL h nK nV).length = cnt (fun i => !seJ s j i) (tkL h nK nV).length + 1 := cnt_off (b := j) (by rw [sj]; rfl) (by rw [seJ_s]; rfl) _ hj fun k _ hk => by rw [seJ_n hk]
              omega
            refine ihf d (seJ s j) bh _ b _ hcn hb R2.see (ldP_next Ps hj sj bj) (fun hY sY b2 RY T => ⟨_, rfl, B.1.of RY.1, fun q => absurd q (by decide), fun _ => ⟨hin, ?_⟩⟩) (fun hY sY RY F => ⟨_, rfl, B.1.of RY.1, fun _ => ?_, fun q => absurd rfl q⟩)
            · exact KT _ _ _ (RY.led (a := a)) (ldT_wk P s1 hm (ldT_next Ps ha hj sj hc bj T))
            · rw [nI_1]
              obtain ⟨f1, f2, f3⟩ := F
              have up : ∀ k, s k = true → sY k = true := fun k e => f1 k (by
                by_cases z : k = j
                · rw [z]; exact seJ_s
                · rw [seJ_n z]; exact e)
              refine ih sY hY RY (fun k e => up k (s1 k e)) (fun k hk e => ?_) (fun k k1 k2 k3 => ?_)
              · by_cases z : k = j
                · rw [z]; exact f1 j seJ_s
                · exact up k (s2 k (by omega) e)
              · by_cases z : k = j
                · rw [z]
                  exact ⟨b, hb, bj, f2⟩
                · by_cases z2 : s k = true
                  · obtain ⟨b', b1, b2, b3⟩ := s3 k k1 z2 k3
                    exact ⟨b', b1, b2, fun l l1 l2 => up l (b3 l l1 l2)⟩
                  · refine f3 k k1 k2 ?_
                    rw [seJ_n z]
                    cases e : s k with
                    | false => rfl
                    | true => exact absurd e z2
    exact w 0 (Nat.zero_le _) seen hX R (fun _ z => z) (fun k hk => absurd hk (Nat.not_lt_zero _)) (fun k _ z y => by rw [z] at y; cases y)
/-- the state of the model's boys -/
def bS (n i G : Nat) (c : Nat → Nat → Bool) (bh : Nat → Option Nat) (A B fl : Nat → Bool) : Prop :=
  (∀ j, n ≤ j → bh j = none) ∧ (∀ j a, bh j = some a → c a j = true ∧ a < i) ∧ (∀ v w a, bh v = some a → bh w = some a → v = w) ∧ cnt (fun j => (bh j).isNone) n = G ∧ cnt fl n + n = G + i ∧ (∀ u, fl u = true → u < i ∧ A u = true) ∧ (∀ j a, bh j = some a → fl a = false) ∧
  (∀ a, a < n → A a = true → ∀ j, j < n → c a j = true → B j = true) ∧ ∀ j, j < n → B j = true → ∃ a, a < n ∧ bh j = some a ∧ A a = true
theorem bS.ok {n i G : Nat} {c : Nat → Nat → Bool} {bh b2 : Nat → Option Nat} {A B fl : Nat → Bool} (S : bS n i G c bh A B fl) (hi : i < n) (T : ldT n c (fun _ => false) bh i b2) : 0 < G ∧ bS n (i + 1) (G - 1) c b2 A B fl := by
  obtain ⟨s1, s2, s3, s4, s5, s6, s7, s8, s9⟩ := S
  obtain ⟨⟨t1, t1'⟩, t2, t3, t4, ⟨r, r1, r2, r3, r4⟩, t6⟩ := T
  obtain ⟨_, u2⟩ := t6 A B s8 s9
  have bn : ∀ j a, b2 j = some a → j < n := fun j a e => by
    by_cases q : j < n
    · exact q
    · rw [t1' j (by omega), s1 j (by omega)] at e; cases e
  have hG : cnt (fun j => (bh j).isNone) n = cnt (fun j => (b2 j).isNone) n + 1 := by
    refine cnt_off (b := r) ?_ ?_ n r1 fun k hk hkr => ?_
    · rw [r3]; rfl
    · cases e : b2 r with
      | none => exact absurd rfl ((r4 r r1 rfl).mp e).2
      | some x => rfl
    · have z := r4 k hk rfl
      cases e : bh k with
      | none => rw [z.mpr ⟨e, hkr⟩]
      | some x =>
        cases e2 : b2 k with
        | none => rw [(z.mp e2).1] at e; cases e
        | some y => rfl
  have nw : ∀ j a, b2 j = some a → (∃ k, bh k = some a) ∨ a = i := fun j a e => by
    rcases (t2 a).mp ⟨j, bn j a e, rfl, e⟩ with ⟨k, _, _, k3⟩ | z
    · exact Or.inl ⟨k, k3⟩
    · exact Or.inr z
  refine ⟨by omega, fun j hj => by rw [t1' j hj]; exact s1 j hj, fun j a e => ⟨(t4 j a (bn j a e) rfl e).1, ?_⟩, fun v w a e1 e2 => t3 v w a (bn v a e1) (bn w a e2) rfl rfl e1 e2, by omega, by omega, fun u e => ⟨by have := (s6 u e).1; omega, (s6 u e).2⟩, fun j a e => ?_, s8, fun j hj e => ?_⟩
  · rcases nw j a e with ⟨k, k1⟩ | z
    · have := (s2 k a k1).2; omega
    · omega
  · rcases nw j a e with ⟨k, k1⟩ | z
    · exact s7 k a k1
    · cases ef : fl a with
      | false => rfl
      | true => have := (s6 a ef).1; omega
  · obtain ⟨a, a1, a2, a3⟩ := s9 j hj e
    exact ⟨a, a1, by rw [u2 j hj e]; exact a2, a3⟩
theorem bS.no {n i G : Nat} {c : Nat → Nat → Bool} {bh : Nat → Option Nat} {A B fl sn : Nat → Bool} (S : bS n i G c bh A B fl) (hi : i < n) (F : ldF n c (fun _ => false) bh i sn) : ∃ A' B' fl' : Nat → Bool, bS n (i + 1) G c bh A' B' fl' := by
  obtain ⟨s1, s2, s3, s4, s5, s6, s7, s8, s9⟩ := S
  obtain ⟨f1, f2, f3⟩ := F
  have flI : fl i = false := by
    cases e : fl i with
    | false => rfl
    | true => have := (s6 i e).1; omega
  refine ⟨fun u => A u || decide (u = i) || decide (∃ j, j < n ∧ (sn j = true ∧ bh j = some u)), fun j => B j || (sn j && decide (j < n)), seJ fl i, s1, fun j a e => ⟨(s2 j a e).1, by have := (s2 j a e).2; omega⟩, s3, s4, ?_, fun u e => ?_, fun j a e => ?_, fun a ha e j hj hc => ?_, fun j hj e => ?_⟩
  · have := cnt_off (p := seJ fl i) (q := fl) (b := i) seJ_s flI n hi fun k _ hk => seJ_n hk
    omega
  · by_cases q : u = i
    · rw [q]
      exact ⟨by omega, by simp⟩
    · rw [seJ_n q] at e
      obtain ⟨a, b⟩ := s6 u e
      exact ⟨by omega, by dsimp only; rw [b]; rfl⟩
  · have := (s2 j a e).2
    rw [seJ_n (by omega)]
    exact s7 j a e
  · rw [Bool.or_eq_true, Bool.or_eq_true] at e
    rw [Bool.or_eq_true]
    rcases e with (e | e) | e
    · exact Or.inl (s8 a ha e j hj hc)
    · rw [of_decide_eq_true e] at hc
      right
      rw [f2 j hj hc, decide_eq_true hj]
      rfl
    · obtain ⟨k, k1, k2, k3⟩ := of_decide_eq_true e
      obtain ⟨b, b1, b2, b3⟩ := f3 k k1 k2 rfl
      rw [k3] at b2
      cases b2
      right
      rw [b3 j hj hc, decide_eq_true hj]
      rfl
  · rw [Bool.or_eq_true] at e
    rcases e with e | e
    · obtain ⟨a, a1, a2, a3⟩ := s9 j hj e
      exact ⟨a, a1, a2, by dsimp only; rw [a3]; rfl⟩
    · rw [Bool.and_eq_true] at e
      obtain ⟨b, b1, b2, b3⟩ := f3 j hj e.1 rfl
      refine ⟨b, b1, b2, ?_⟩
      rw [Bool.or_eq_true]
      exact Or.inr (decide_eq_true ⟨j, hj, e.1, b2⟩)
theorem sp_boysM {g : mG} {d p : Nat} {hB : mH} {Q : Option mV → mH → Prop} (C : mCore h nT nJ nK nV vs) (B : bB h hB nK p (tkL h nK nV)) (bn : (tkL h nK nV).length ≤ 60) (bp : p ≤ 30) (o2 o3 : Option mV)
    (K : ∀ hY G bh A Bs fl, hY.1 = hB.1 → (∀ k m f, ¬ (k = 11 ∧ m = 39) → ¬ (k = 12 ∧ m = 3) → hI hY k m f = hI hB k m f) → bS (tkL h nK nV).length (tkL h nK nV).length G (cF (Mf (tkL h nK nV)) (Jf h (tkL h nK nV)) p) bh A Bs fl → Q (some (vi (nI G))) hY) : mT g me_fm_boys (d + 63) 0 0 22 [some (vr 10 0), some (vi 0), o2, o3] [] hB Q := by
  have bS0 : ∀ hX, hX.1 = hB.1 → (∀ k m f, ¬ (k = 11 ∧ m = 39) → ¬ (k = 12 ∧ m = 3) → hI hX k m f = hI hB k m f) → hI hX 10 0 52 = nI (tkL h nK nV).length := fun hX e R => (R 10 0 52 (by omega) (by omega)).trans B.2.1.2
  -- the rounds
  have rounds : ∀ i, i ≤ (tkL h nK nV).length → ∀ hX G bh A Bs fl sn o3, bS (tkL h nK nV).length i G (cF (Mf (tkL h nK nV)) (Jf h (tkL h nK nV)) p) bh A Bs fl → bR hB hX (tkL h nK nV).length sn bh → mT g me_fm_boys (d + 63) 0 0 50 [some (vr 10 0), some (vi (nI G)), some (vi (nI i)), o3] [] hX Q := by
    refine upTo ?_ fun i hi ih => ?_
    · intro hX G bh A Bs fl sn o3 S R
      have c52 := bS0 hX R.1 R.2.1
      exact v_fm_boys_50 (d := d + 60) _ _ _ (B.1.of R.1) ⟨fun _ => K hX G bh A Bs fl R.1 R.2.1 S, fun q => absurd (by rw [c52]; exact Int32.le_refl _) q⟩
    · intro hX G bh A Bs fl sn o3 S R
      have c52 := bS0 hX R.1 R.2.1
      refine v_fm_boys_50 (d := d + 60) _ _ _ (B.1.of R.1) ⟨fun q => absurd q (by rw [c52]; exact nnle hi (by omega)), fun _ => ?_⟩
      have clr : ∀ j, j ≤ (tkL h nK nV).length → ∀ h2, h2.1 = hB.1 → (∀ k m f, ¬ (k = 11 ∧ m = 39) → ¬ (k = 12 ∧ m = 3) → hI h2 k m f = hI hB k m f) → (∀ k, k < (tkL h nK nV).length → hI h2 11 39 k = oI (bh k)) → (∀ k, k < j → hI h2 12 3 k = 0) → mT g me_fm_boys (d + 63) 0 0 60 [some (vr 10 0), some (vi (nI G)), some (vi (nI i)), some (vi (nI j))] [] h2 Q := by
        refine upTo ?_ fun j hj ihj => ?_
        · intro h2 e R2 R39 R3
          have c52 := bS0 h2 e R2
          have R' : bR hB h2 (tkL h nK nV).length (fun _ => false) bh := ⟨e, R2, R39, R3⟩
          refine v_fm_boys_60 (d := d + 60) _ _ _ (B.1.of e) ⟨fun _ => ?_, fun q => absurd (by rw [c52]; exact Int32.le_refl _) q⟩
          have P : ldP (tkL h nK nV).length (cF (Mf (tkL h nK nV)) (Jf h (tkL h nK nV)) p) (fun _ => false) bh i := by
            obtain ⟨s1, s2, s3, _⟩ := S
            refine ⟨fun k _ _ z => by have := (s2 k i z).2; omega, fun k l u _ _ _ _ => s3 k l u, fun k u _ _ z => ⟨(s2 k u z).1, by have := (s2 k u z).2; omega⟩⟩
          have hc : cnt (fun j => !(fun _ : Nat => false) j) (tkL h nK nV).length ≤ 60 := Nat.le_trans (cnt_le _) bn
          refine sp_leads C B bn bp 60 d (fun _ => false) bh h2 i _ hc hi R' P (fun hY s2 b2 RY T => ⟨_, rfl, B.1.of RY.1, fun q => absurd q (by decide), fun _ => ?_⟩) (fun hY s2 RY F => ⟨_, rfl, B.1.of RY.1, fun _ => ?_, fun q => absurd rfl q⟩)
          · obtain ⟨g1, S2⟩ := S.ok hi T
            rw [nI_1, show (1 : Int32) = nI 1 from rfl, pk_sub (by omega)]
            exact ih hY _ _ _ _ _ _ _ S2 RY
          · obtain ⟨A', B', fl', S2⟩ := S.no hi F
            rw [nI_1, show nI G - (0 : Int32) = nI G from Int32.sub_zero _]
            exact ih hY _ _ _ _ _ _ _ S2 RY
        · intro h2 e R2 R39 R3
          have c52 := bS0 h2 e R2
          refine v_fm_boys_60 (d := d + 60) _ _ _ (B.1.of e) ⟨fun q => absurd q (by rw [c52]; exact nnle hj (by omega)), fun _ => ⟨nin (by omega) (by omega), ?_⟩⟩
          rw [nc (by omega : j ≤ 1000000), nI_1]
          refine ihj _ e (fun k m f z1 z2 => (hI_no (fun y => z2 ⟨y.1, y.2.1⟩)).trans (R2 k m f z1 z2)) (fun k hk => R39 k hk) fun k hk => ?_
          rw [hI_setI2]
          by_cases q : k = j
          · rw [if_pos q]
          · rw [if_neg q]; exact R3 k (by omega)
      exact clr 0 (Nat.zero_le _) hX R.1 R.2.1 R.2.2.1 (fun k hk => absurd hk (Nat.not_lt_zero _))
  -- nobody leads
  have w : ∀ j, j ≤ (tkL h nK nV).length → ∀ h2, h2.1 = hB.1 → (∀ k m f, ¬ (k = 11 ∧ m = 39) → hI h2 k m f = hI hB k m f) → (∀ k, k < j → hI h2 11 39 k = -1) → mT g me_fm_boys (d + 63) 0 0 22 [some (vr 10 0), some (vi (nI j)), o2, o3] [] h2 Q := by
    refine upTo ?_ fun j hj ihj => ?_
    · intro h2 e R2 R39
      have c52 := bS0 h2 e (fun k m f z _ => R2 k m f z)
      refine v_fm_boys_22 (d := d + 60) _ _ _ (B.1.of e) ⟨fun _ => ?_, fun q => absurd (by rw [c52]; exact Int32.le_refl _) q⟩
      rw [c52]
      -- the flags as they lie
      have sn : ∃ sn : Nat → Bool, True := ⟨fun _ => false, trivial⟩
      have S : bS (tkL h nK nV).length 0 (tkL h nK nV).length (cF (Mf (tkL h nK nV)) (Jf h (tkL h nK nV)) p) (fun _ => none) (fun _ => false) (fun _ => false) (fun _ => false) := by
        refine ⟨fun _ _ => rfl, fun j a e => (by cases e), fun v w a e => (by cases e), ?_, ?_, fun u e => (by cases e), fun j a e => (by cases e), fun a _ e => (by cases e), fun j _ e => (by cases e)⟩
        · have := cnt_not (p := fun _ => false) (tkL h nK nV).length
          rw [(cnt_0 _).mpr (fun _ _ => rfl)] at this
          have e2 : (fun _ : Nat => !false) = fun j : Nat => ((fun _ : Nat => (none : Option Nat)) j).isNone := rfl
          rw [← e2]
          omega
        · rw [(cnt_0 _).mpr (fun _ _ => rfl)]
          omega
      -- a first clearing of what was seen: rounds begins with any flags
      have first : mT g me_fm_boys (d + 63) 0 0 50 [some (vr 10 0), some (vi (nI (tkL h nK nV).length)), some (vi 0), o3] [] h2 Q := by
        by_cases q0 : (tkL h nK nV).length = 0
        · have := rounds 0 (Nat.zero_le _) h2 (tkL h nK nV).length _ _ _ _ (fun _ => false) o3 S ⟨e, fun k m f z _ => R2 k m f z, R39, fun j hj => by omega⟩
          exact this
        · refine v_fm_boys_50 (d := d + 60) _ _ _ (B.1.of e) ⟨fun q => absurd q (by rw [c52]; exact nnle (b := 0) (by omega) (by omega)), fun _ => ?_⟩
          have clr : ∀ j, j ≤ (tkL h nK nV).length → ∀ h3, h3.1 = hB.1 → (∀ k m f, ¬ (k = 11 ∧ m = 39) → ¬ (k = 12 ∧ m = 3) → hI h3 k m f = hI hB k m f) → (∀ k, k < (tkL h nK nV).length → hI h3 11 39 k = -1) → (∀ k, k < j → hI h3 12 3 k = 0) → mT g me_fm_boys (d + 63) 0 0 60 [some (vr 10 0), some (vi (nI (tkL h nK nV).length)), some (vi (nI 0)), some (vi (nI j))] [] h3 Q := by
            refine upTo ?_ fun j hj ihj => ?_
            · intro h3 e3 R3 R39 R12
              have c52 := bS0 h3 e3 R3
              have R' : bR hB h3 (tkL h nK nV).length (fun _ => false) (fun _ => none) := ⟨e3, R3, R39, R12⟩
              have hi : 0 < (tkL h nK nV).length := by omega
              refine v_fm_boys_60 (d := d + 60) _ _ _ (B.1.of e3) ⟨fun _ => ?_, fun q => absurd (by rw [c52]; exact Int32.le_refl _) q⟩
              have P : ldP (tkL h nK nV).length (cF (Mf (tkL h nK nV)) (Jf h (tkL h nK nV)) p) (fun _ => false) (fun _ => none) 0 := ⟨fun k _ _ z => (by cases z), fun k l u _ _ _ _ z => (by cases z), fun k u _ _ z => (by cases z)⟩
              have hc : cnt (fun j => !(fun _ : Nat => false) j) (tkL h nK nV).length ≤ 60 := Nat.le_trans (cnt_le _) bn
              refine sp_leads C B bn bp 60 d (fun _ => false) (fun _ => none) h3 0 _ hc hi R' P (fun hY s2 b2 RY T => ⟨_, rfl, B.1.of RY.1, fun q => absurd q (by decide), fun _ => ?_⟩) (fun hY s2 RY F => ⟨_, rfl, B.1.of RY.1, fun _ => ?_, fun q => absurd rfl q⟩)
              · obtain ⟨g1, S2⟩ := S.ok hi T
                rw [nI_1, show (1 : Int32) = nI 1 from rfl, pk_sub (by omega)]
                exact rounds 1 (by omega) hY _ _ _ _ _ _ _ S2 RY
              · obtain ⟨A', B', fl', S2⟩ := S.no hi F
                rw [nI_1, show nI (tkL h nK nV).length - (0 : Int32) = nI (tkL h nK nV).length from Int32.sub_zero _]
                exact rounds 1 (by omega) hY _ _ _ _ _ _ _ S2 RY
            · intro h3 e3 R3 R39 R12
              have c52 := bS0 h3 e3 R3
              refine v_fm_boys_60 (d := d + 60) _ _ _ (B.1.of e3) ⟨fun q => absurd q (by rw [c52]; exact nnle hj (by omega)), fun _ => ⟨nin (by omega) (by omega), ?_⟩⟩
              rw [nc (by omega : j ≤ 1000000), nI_1]
              refine ihj _ e3 (fun k m f z1 z2 => (hI_no (fun y => z2 ⟨y.1, y.2.1⟩)).trans (R3 k m f z1 z2)) (fun k hk => R39 k hk) fun k hk => ?_
              rw [hI_setI2]
              by_cases q : k = j
              · rw [if_pos q]
              · rw [if_neg q]; exact R12 k (by omega)
          exact clr 0 (Nat.zero_le _) h2 e (fun k m f z _ => R2 k m f z) R39 (fun k hk => absurd hk (Nat.not_lt_zero _))
      exact first
    · intro h2 e R2 R39
      have c52 := bS0 h2 e (fun k m f z _ => R2 k m f z)
      refine v_fm_boys_22 (d := d + 60) _ _ _ (B.1.of e) ⟨fun q => absurd q (by rw [c52]; exact nnle hj (by omega)), fun _ => ⟨nin (by omega) (by omega), ?_⟩⟩
      rw [nc (by omega : j ≤ 1000000), nI_1]
      refine ihj _ e (fun k m f z => (hI_no (fun y => z ⟨y.1, y.2.1⟩)).trans (R2 k m f z)) fun k hk => ?_
      rw [hI_setI2]
      by_cases q : k = j
      · rw [if_pos q]
      · rw [if_neg q]; exact R39 k (by omega)
  exact w 0 (Nat.zero_le _) hB rfl (fun _ _ _ _ => rfl) (fun k hk => absurd hk (Nat.not_lt_zero _))
theorem op_boys {g : mG} {d : Nat} (I : mI h nT nJ nK nV vs) : mB g me_fn_boys me_fm_boys (d + 69) 0 0 [some (vr 0 0)] [some (vr 10 0), none, none, none] h := by
  have C := I.1
  have bL := tkL_le C
  obtain ⟨_, ⟨p, _, bp, p1, p2⟩, _⟩ := C.sc
  by_cases bn : (tkL h nK nV).length ≤ 60
  case neg =>
    refine mB.refR I rf6 (-6) (fun Q K => v_fn_boys_0 (d := d + 63) C.1 (sp_build (d := d + 63) C fun h2 R T => ⟨rfl, C.1.of R.1, fun q => absurd q (by rw [T.2]; exact nnle (b := 60) (by omega) (by omega)), fun _ => sp_refC (Q := fun y h => Q (some (vi y)) h) (C.1.of R.1) rf6 (K h2 R)⟩)) (fun hC R Q K => v_fm_boys_0 (d := d + 66) (C.1.of R.1) (sp_findTasks (d := d + 66) C ((sameQ.A R).tr sameQ.rfC) fun h2 e U T => ⟨rfl, (C.1.of R.1).of e, fun q => absurd q (by rw [T.2]; exact nnle (b := 60) (by omega) (by omega)), fun _ => sp_refM (Q := fun y h => Q (some (vi y)) h) ((C.1.of R.1).of e) rf6 (K h2 (sameA.U e U))⟩))
  refine v_fn_boys_0 (d := d + 63) C.1 (sp_build (d := d + 63) C fun h2 R T => ⟨rfl, C.1.of R.1, fun _ => ?_, fun q => absurd (by rw [T.2]; exact nle (b := 60) bn (by omega)) q⟩)
  rw [R.2 0 0 6 rfl, p1]
  refine sp_fewest (d := d + 66) (p := p) C R T bn bp fun hC F RC bF F1 F2 => ⟨_, rfl, C.1.of RC.1, nI F, rfl, C.1.of RC.1, RC.kp, ?_⟩
  refine v_fm_boys_0 (d := d + 66) (C.1.of RC.1) (sp_findTasks (d := d + 66) C (sameQ.A RC) fun hB e U TM => ⟨rfl, (C.1.of RC.1).of e, fun _ => ?_, fun q => absurd (by rw [TM.2]; exact nle (b := 60) bn (by omega)) q⟩)
  have RB : sameA h hB := RC.tr (sameA.U e U)
  have B : bB h hB nK p (tkL h nK nV) := ⟨C.1.of RB.1, TM, fun k hk => (RB.2 11 21 k rfl).trans (C.nP_lt hk).2.2.1, (RB.2 10 0 6 rfl).trans p2⟩
  refine sp_boysM (d := d + 6) C B bn bp none none fun hY G bh A Bs fl eY RY S => ?_
  have RYA : sameA h hY := RB.tr ⟨eY, fun k m f r => RY k m f (fun z => by rw [z.1, z.2] at r; exact absurd (show false = true from r) (by decide)) (fun z => by rw [z.1, z.2] at r; exact absurd (show false = true from r) (by decide))⟩
  obtain ⟨s1, s2, s3, s4, s5, s6, s7, s8, s9⟩ := S
  have hF : F = G := by
    refine dilworth (r := 30) (fun i hi => ?_) (fun i k hik hk => ?_) F1 F2 (fun v a e => (s2 v a e).1) s3 s4 (by omega) (fun u _ e => (s6 u e).2) s8 s9 s7
    · obtain ⟨x, _, _, x2, _, _, x5⟩ := tk_at C hi
      have bJ := C.2.1.2.1
      omega
    · obtain ⟨x, ex, x1, _⟩ := tk_at C (i := i) (by omega)
      obtain ⟨y, ey, y1, _⟩ := tk_at C hk
      rw [x1, y1]
      exact (tkL_srt C).1 i k x y hik ex ey
  exact ⟨nI G, rfl, C.1.of RYA.1, by rw [hF], ⟨nT, nJ, nK, nV, vs, mI.of I RYA⟩, RYA.kp⟩
end CORE
