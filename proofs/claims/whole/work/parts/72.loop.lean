/-! the walk of the law -/
theorem lw_loop {g : mG} {d n0 : Nat} (hn0 : n0 ≤ 3072) {Q : Option mV → mH → Prop} (K : ∀ h, Q (some (vi 1)) h) : ∀ m i h, n0 ≤ i + 6 * m → i ≤ n0 + 6 → mInv h → hL h 14 0 = n0 → mT g me_lw_law (d + 70) (2 * m + 2) (100 * m + 100) 18 [some (vr 14 0), some (vr 0 0), some (vr 10 0), some (vi (nI i))] [] h Q := by
  have ge : ∀ i, i ≤ n0 + 6 → n0 < i + 6 → Int32.ofNat n0 - 6 < nI i := by
    intro i hi hlt
    by_cases q : 6 ≤ n0
    · have e : Int32.ofNat n0 - 6 = nI (n0 - 6) := pk_sub q
      rw [e]
      exact nlt (by omega) (by omega)
    · have neg : Int32.ofNat n0 - 6 < 0 := by
        have : n0 = 0 ∨ n0 = 1 ∨ n0 = 2 ∨ n0 = 3 ∨ n0 = 4 ∨ n0 = 5 := by omega
        rcases this with rfl | rfl | rfl | rfl | rfl | rfl <;> decide
      exact Int32.lt_of_lt_of_le neg (nle (a := 0) (Nat.zero_le _) (by omega))
  intro m
  induction m with
  | zero =>
    intro i h h1 h2 hi hn
    obtain ⟨nT, nJ, nK, nV, vs, I⟩ := hi
    refine mT.weaken (v_lw_law_18 (d := d + 60) (mc := 0) (ms := 0) _ I.1.1 ⟨fun _ => K h, fun q => ?_⟩) (by omega) (by omega)
    rw [hn] at q
    exact absurd (ge i h2 (by omega)) q
  | succ m ih =>
    intro i h h1 h2 hi hn
    obtain ⟨nT, nJ, nK, nV, vs, I⟩ := hi
    refine mT.weaken (v_lw_law_18 (d := d + 60) (mc := 2 * m + 2) (ms := 100 * m + 100) _ I.1.1 ⟨fun _ => K h, fun q => ?_⟩) (by omega) (by omega)
    have lt : i + 6 ≤ n0 := by
      rw [hn] at q
      refine Nat.le_of_not_lt fun z => q (ge i h2 (by omega))
    have next : ∀ h2, mInv h2 → kpS h h2 → mT g me_lw_law (d + 60 + 10) (2 * m + 2) (100 * m + 100) 18 [some (vr 14 0), some (vr 0 0), some (vr 10 0), some (vi (nI i + 6))] [] h2 Q := by
      intro h2 i2 k
      have e : nI i + 6 = nI (i + 6) := nI_add i 6
      rw [e]
      exact ih (i + 6) h2 (by omega) (by omega) i2 (k.1.trans hn)
    have in_ : ∀ k, i + k < n0 → vp_in (nI i + nI k) n0 := fun k hk => by
      rw [nI_add]
      exact nin hk (by omega)
    rw [hn]
    refine ⟨nin (by omega) (by omega), ?_⟩
    refine ⟨fun _ => ⟨in_ 1 (by omega), in_ 2 (by omega), in_ 3 (by omega), in_ 4 (by omega), mT.mono (op_tank (d := d + 60) I _ _ _ _) fun v h1 ⟨y, ev, s1, k1, t⟩ => ⟨y, ev, s1, by simp only [k1.1, k1.2, hn]; exact ⟨in_ 1 (by omega), in_ 2 (by omega), in_ 3 (by omega), in_ 4 (by omega), mT.mono t fun v h2 ⟨z, ev2, s2, e, i2, k2⟩ => ⟨z, ev2, s2, fun _ => next h2 i2 k2, fun q => absurd e q⟩⟩⟩⟩,
    fun _ => ⟨in_ 1 (by omega), in_ 2 (by omega), in_ 3 (by omega), mT.mono (op_set (d := d + 60) I _ _ _) fun v h1 ⟨y, ev, s1, k1, t⟩ => ⟨y, ev, s1, by simp only [k1.1, k1.2, hn]; exact ⟨in_ 1 (by omega), in_ 2 (by omega), in_ 3 (by omega), mT.mono t fun v h2 ⟨z, ev2, s2, e, i2, k2⟩ => ⟨z, ev2, s2, fun _ => next h2 i2 k2, fun q => absurd e q⟩⟩⟩⟩,
    fun _ => ⟨in_ 1 (by omega), fun e0 => ⟨in_ 2 (by omega), in_ 3 (by omega), in_ 4 (by omega), in_ 5 (by omega), mT.mono (op_joint (d := d + 60) I 0 _ _ _ _) fun v h1 ⟨y, ev, s1, k1, t⟩ => ⟨y, ev, s1, by simp only [k1.1, k1.2, hn]; exact ⟨in_ 1 (by omega), fun _ => ⟨in_ 2 (by omega), in_ 3 (by omega), in_ 4 (by omega), in_ 5 (by omega), mT.mono t fun v h2 ⟨z, ev2, s2, e, i2, k2⟩ => ⟨z, ev2, s2, fun _ => next h2 i2 k2, fun q => absurd e q⟩⟩, fun z => absurd e0 z⟩⟩⟩, fun e0 => ⟨in_ 2 (by omega), in_ 3 (by omega), in_ 4 (by omega), in_ 5 (by omega), mT.mono (op_joint (d := d + 60) I 1 _ _ _ _) fun v h1 ⟨y, ev, s1, k1, t⟩ => ⟨y, ev, s1, by simp only [k1.1, k1.2, hn]; exact ⟨in_ 1 (by omega), fun z => absurd z e0, fun _ => ⟨in_ 2 (by omega), in_ 3 (by omega), in_ 4 (by omega), in_ 5 (by omega), mT.mono t fun v h2 ⟨z, ev2, s2, e, i2, k2⟩ => ⟨z, ev2, s2, fun _ => next h2 i2 k2, fun q => absurd e q⟩⟩⟩⟩⟩⟩,
    fun _ => ⟨in_ 1 (by omega), in_ 2 (by omega), mT.mono (op_jet (d := d + 60) I _ _) fun v h1 ⟨y, ev, s1, k1, t⟩ => ⟨y, ev, s1, by simp only [k1.1, k1.2, hn]; exact ⟨in_ 1 (by omega), in_ 2 (by omega), mT.mono t fun v h2 ⟨z, ev2, s2, e, i2, k2⟩ => ⟨z, ev2, s2, fun _ => next h2 i2 k2, fun q => absurd e q⟩⟩⟩⟩,
    fun _ => ⟨in_ 1 (by omega), in_ 2 (by omega), fun e0 => mT.mono (op_play (d := d + 60) I _ 0 (Or.inl rfl)) fun v h1 ⟨y, ev, s1, k1, t⟩ => ⟨y, ev, s1, by simp only [k1.1, k1.2, hn]; exact ⟨in_ 1 (by omega), in_ 2 (by omega), fun _ => mT.mono t fun v h2 ⟨z, ev2, s2, e, i2, k2⟩ => ⟨z, ev2, s2, fun _ => next h2 i2 k2, fun q => absurd e q⟩, fun z => absurd e0 z⟩⟩, fun e0 => mT.mono (op_play (d := d + 60) I _ 1 (Or.inr rfl)) fun v h1 ⟨y, ev, s1, k1, t⟩ => ⟨y, ev, s1, by simp only [k1.1, k1.2, hn]; exact ⟨in_ 1 (by omega), in_ 2 (by omega), fun z => absurd z e0, fun _ => mT.mono t fun v h2 ⟨z, ev2, s2, e, i2, k2⟩ => ⟨z, ev2, s2, fun _ => next h2 i2 k2, fun q => absurd e q⟩⟩⟩⟩,
    fun _ => ⟨in_ 1 (by omega), in_ 2 (by omega), mT.mono (op_pipe (d := d + 60) I _ _) fun v h1 ⟨y, ev, s1, k1, t⟩ => ⟨y, ev, s1, by simp only [k1.1, k1.2, hn]; exact ⟨in_ 1 (by omega), in_ 2 (by omega), mT.mono t fun v h2 ⟨z, ev2, s2, e, i2, k2⟩ => ⟨z, ev2, s2, fun _ => next h2 i2 k2, fun q => absurd e q⟩⟩⟩⟩,
    fun _ => ⟨in_ 1 (by omega), in_ 2 (by omega), mT.mono (op_leak (d := d + 60) I _ _) fun v h1 ⟨y, ev, s1, k1, t⟩ => ⟨y, ev, s1, by simp only [k1.1, k1.2, hn]; exact ⟨in_ 1 (by omega), in_ 2 (by omega), mT.mono t fun v h2 ⟨z, ev2, s2, e, i2, k2⟩ => ⟨z, ev2, s2, fun _ => next h2 i2 k2, fun q => absurd e q⟩⟩⟩⟩,
    fun _ => ⟨in_ 1 (by omega), mT.mono (op_flow (d := d + 60) I _) fun v h1 ⟨y, ev, s1, k1, t⟩ => ⟨y, ev, s1, by simp only [k1.1, k1.2, hn]; exact ⟨in_ 1 (by omega), mT.mono t fun v h2 ⟨z, ev2, s2, e, i2, k2⟩ => ⟨z, ev2, s2, fun _ => next h2 i2 k2, fun q => absurd e q⟩⟩⟩⟩,
    fun _ => ⟨in_ 1 (by omega), mT.mono (op_head (d := d + 60) I _) fun v h1 ⟨y, ev, s1, k1, t⟩ => ⟨y, ev, s1, by simp only [k1.1, k1.2, hn]; exact ⟨in_ 1 (by omega), mT.mono t fun v h2 ⟨z, ev2, s2, e, i2, k2⟩ => ⟨z, ev2, s2, fun _ => next h2 i2 k2, fun q => absurd e q⟩⟩⟩⟩,
    fun _ => ⟨in_ 1 (by omega), mT.mono (op_rise (d := d + 60) I _) fun v h1 ⟨y, ev, s1, k1, t⟩ => ⟨y, ev, s1, by simp only [k1.1, k1.2, hn]; exact ⟨in_ 1 (by omega), mT.mono t fun v h2 ⟨z, ev2, s2, e, i2, k2⟩ => ⟨z, ev2, s2, fun _ => next h2 i2 k2, fun q => absurd e q⟩⟩⟩⟩,
    fun _ => ⟨in_ 1 (by omega), in_ 2 (by omega), mT.mono (op_share (d := d + 60) I _ _) fun v h1 ⟨y, ev, s1, k1, t⟩ => ⟨y, ev, s1, by simp only [k1.1, k1.2, hn]; exact ⟨in_ 1 (by omega), in_ 2 (by omega), mT.mono t fun v h2 ⟨z, ev2, s2, e, i2, k2⟩ => ⟨z, ev2, s2, fun _ => next h2 i2 k2, fun q => absurd e q⟩⟩⟩⟩,
    fun _ => ⟨in_ 1 (by omega), mT.mono (op_minutes (d := d + 60) I _) fun v h1 ⟨y, ev, s1, k1, t⟩ => ⟨y, ev, s1, by simp only [k1.1, k1.2, hn]; exact ⟨in_ 1 (by omega), mT.mono t fun v h2 ⟨z, ev2, s2, e, i2, k2⟩ => ⟨z, ev2, s2, fun _ => next h2 i2 k2, fun q => absurd e q⟩⟩⟩⟩,
    fun _ => ⟨in_ 1 (by omega), mT.mono (op_lasts (d := d + 60) I _) fun v h1 ⟨y, ev, s1, k1, t⟩ => ⟨y, ev, s1, by simp only [k1.1, k1.2, hn]; exact ⟨in_ 1 (by omega), mT.mono t fun v h2 ⟨z, ev2, s2, e, i2, k2⟩ => ⟨z, ev2, s2, fun _ => next h2 i2 k2, fun q => absurd e q⟩⟩⟩⟩,
    fun _ => ⟨in_ 1 (by omega), in_ 2 (by omega), in_ 3 (by omega), in_ 4 (by omega), mT.mono (op_view (d := d + 60) I _ _ _ _) fun v h1 ⟨y, ev, s1, k1, t⟩ => ⟨y, ev, s1, by simp only [k1.1, k1.2, hn]; exact ⟨in_ 1 (by omega), in_ 2 (by omega), in_ 3 (by omega), in_ 4 (by omega), mT.mono t fun v h2 ⟨z, ev2, s2, e, i2, k2⟩ => ⟨z, ev2, s2, fun _ => next h2 i2 k2, fun q => absurd e q⟩⟩⟩⟩,
    fun _ => mT.mono (op_unview (d := d + 60) I) fun v h1 ⟨y, ev, s1, k1, t⟩ => ⟨y, ev, s1, mT.mono t fun v h2 ⟨z, ev2, s2, e, i2, k2⟩ => ⟨z, ev2, s2, fun _ => next h2 i2 k2, fun q => absurd e q⟩⟩,
    fun _ => ⟨in_ 1 (by omega), mT.mono (op_walk (d := d + 60) I _) fun v h1 ⟨y, ev, s1, k1, t⟩ => ⟨y, ev, s1, by simp only [k1.1, k1.2, hn]; exact ⟨in_ 1 (by omega), mT.mono t fun v h2 ⟨z, ev2, s2, e, i2, k2⟩ => ⟨z, ev2, s2, fun _ => next h2 i2 k2, fun q => absurd e q⟩⟩⟩⟩,
    fun _ => mT.mono (op_most (d := d + 60) I) fun v h1 ⟨y, ev, s1, k1, t⟩ => ⟨y, ev, s1, mT.mono t fun v h2 ⟨z, ev2, s2, e, i2, k2⟩ => ⟨z, ev2, s2, fun _ => next h2 i2 k2, fun q => absurd e q⟩⟩,
    fun _ => ⟨in_ 1 (by omega), mT.mono (op_pace (d := d + 60) I _) fun v h1 ⟨y, ev, s1, k1, t⟩ => ⟨y, ev, s1, by simp only [k1.1, k1.2, hn]; exact ⟨in_ 1 (by omega), mT.mono t fun v h2 ⟨z, ev2, s2, e, i2, k2⟩ => ⟨z, ev2, s2, fun _ => next h2 i2 k2, fun q => absurd e q⟩⟩⟩⟩,
    fun _ => mT.mono (op_tasks (d := d + 60) I) fun v h1 ⟨y, ev, s1, k1, t⟩ => ⟨y, ev, s1, mT.mono t fun v h2 ⟨z, ev2, s2, e, i2, k2⟩ => ⟨z, ev2, s2, fun _ => next h2 i2 k2, fun q => absurd e q⟩⟩,
    fun _ => ⟨in_ 1 (by omega), in_ 2 (by omega), mT.mono (op_task (d := d + 60) I _ _) fun v h1 ⟨y, ev, s1, k1, t⟩ => ⟨y, ev, s1, by simp only [k1.1, k1.2, hn]; exact ⟨in_ 1 (by omega), in_ 2 (by omega), mT.mono t fun v h2 ⟨z, ev2, s2, e, i2, k2⟩ => ⟨z, ev2, s2, fun _ => next h2 i2 k2, fun q => absurd e q⟩⟩⟩⟩,
    fun _ => mT.mono (op_boys (d := d) I) fun v h1 ⟨y, ev, s1, k1, t⟩ => ⟨y, ev, s1, mT.mono t fun v h2 ⟨z, ev2, s2, e, i2, k2⟩ => ⟨z, ev2, s2, fun _ => next h2 i2 k2, fun q => absurd e q⟩⟩,
    fun _ => ⟨in_ 1 (by omega), in_ 2 (by omega), mT.mono (op_gauge (d := d + 60) I _ _) fun v h1 ⟨y, ev, s1, k1, t⟩ => ⟨y, ev, s1, by simp only [k1.1, k1.2, hn]; exact ⟨in_ 1 (by omega), in_ 2 (by omega), mT.mono t fun v h2 ⟨z, ev2, s2, e, i2, k2⟩ => ⟨z, ev2, s2, fun _ => next h2 i2 k2, fun q => absurd e q⟩⟩⟩⟩,
    fun _ => ⟨in_ 1 (by omega), mT.mono (op_tol (d := d + 60) I _) fun v h1 ⟨y, ev, s1, k1, t⟩ => ⟨y, ev, s1, by simp only [k1.1, k1.2, hn]; exact ⟨in_ 1 (by omega), mT.mono t fun v h2 ⟨z, ev2, s2, e, i2, k2⟩ => ⟨z, ev2, s2, fun _ => next h2 i2 k2, fun q => absurd e q⟩⟩⟩⟩,
    fun _ => mT.mono (op_explain (d := d + 60) I) fun v h1 ⟨y, ev, s1, k1, t⟩ => ⟨y, ev, s1, mT.mono t fun v h2 ⟨z, ev2, s2, e, i2, k2⟩ => ⟨z, ev2, s2, fun _ => next h2 i2 k2, fun q => absurd e q⟩⟩,
    fun _ => ⟨in_ 1 (by omega), mT.mono (op_explained (d := d + 60) I _) fun v h1 ⟨y, ev, s1, k1, t⟩ => ⟨y, ev, s1, by simp only [k1.1, k1.2, hn]; exact ⟨in_ 1 (by omega), mT.mono t fun v h2 ⟨z, ev2, s2, e, i2, k2⟩ => ⟨z, ev2, s2, fun _ => next h2 i2 k2, fun q => absurd e q⟩⟩⟩⟩,
    fun _ => mT.mono (op_rivals (d := d + 60) I) fun v h1 ⟨y, ev, s1, k1, t⟩ => ⟨y, ev, s1, mT.mono t fun v h2 ⟨z, ev2, s2, e, i2, k2⟩ => ⟨z, ev2, s2, fun _ => next h2 i2 k2, fun q => absurd e q⟩⟩,
    fun _ => ⟨in_ 1 (by omega), mT.mono (op_empty (d := d + 60) I _) fun v h1 ⟨y, ev, s1, k1, t⟩ => ⟨y, ev, s1, by simp only [k1.1, k1.2, hn]; exact ⟨in_ 1 (by omega), mT.mono t fun v h2 ⟨z, ev2, s2, e, i2, k2⟩ => ⟨z, ev2, s2, fun _ => next h2 i2 k2, fun q => absurd e q⟩⟩⟩⟩,
    fun _ => ⟨in_ 1 (by omega), mT.mono (op_fill (d := d + 60) I _) fun v h1 ⟨y, ev, s1, k1, t⟩ => ⟨y, ev, s1, by simp only [k1.1, k1.2, hn]; exact ⟨in_ 1 (by omega), mT.mono t fun v h2 ⟨z, ev2, s2, e, i2, k2⟩ => ⟨z, ev2, s2, fun _ => next h2 i2 k2, fun q => absurd e q⟩⟩⟩⟩,
    fun _ => ⟨in_ 1 (by omega), mT.mono (op_order (d := d + 60) I _) fun v h1 ⟨y, ev, s1, k1, t⟩ => ⟨y, ev, s1, by simp only [k1.1, k1.2, hn]; exact ⟨in_ 1 (by omega), mT.mono t fun v h2 ⟨z, ev2, s2, e, i2, k2⟩ => ⟨z, ev2, s2, fun _ => next h2 i2 k2, fun q => absurd e q⟩⟩⟩⟩,
    fun _ => ⟨in_ 1 (by omega), in_ 2 (by omega), mT.mono (op_tankOf (d := d + 60) I _ _) fun v h1 ⟨y, ev, s1, k1, t⟩ => ⟨y, ev, s1, by simp only [k1.1, k1.2, hn]; exact ⟨in_ 1 (by omega), in_ 2 (by omega), mT.mono t fun v h2 ⟨z, ev2, s2, e, i2, k2⟩ => ⟨z, ev2, s2, fun _ => next h2 i2 k2, fun q => absurd e q⟩⟩⟩⟩,
    fun _ => ⟨in_ 1 (by omega), in_ 2 (by omega), mT.mono (op_jointOf (d := d + 60) I _ _) fun v h1 ⟨y, ev, s1, k1, t⟩ => ⟨y, ev, s1, by simp only [k1.1, k1.2, hn]; exact ⟨in_ 1 (by omega), in_ 2 (by omega), mT.mono t fun v h2 ⟨z, ev2, s2, e, i2, k2⟩ => ⟨z, ev2, s2, fun _ => next h2 i2 k2, fun q => absurd e q⟩⟩⟩⟩,
    fun _ => ⟨in_ 1 (by omega), mT.mono (op_count (d := d + 60) I _) fun v h1 ⟨y, ev, s1, k1, t⟩ => ⟨y, ev, s1, by simp only [k1.1, k1.2, hn]; exact ⟨in_ 1 (by omega), mT.mono t fun v h2 ⟨z, ev2, s2, e, i2, k2⟩ => ⟨z, ev2, s2, fun _ => next h2 i2 k2, fun q => absurd e q⟩⟩⟩⟩,
    ?_⟩
    intros
    exact next h ⟨nT, nJ, nK, nV, vs, I⟩ ⟨rfl, fun _ => rfl⟩
theorem lw_T (g : mG) (hL : g.2.2.2.2.1 ≤ 3072) : mT g me_lw_law 2000 10000 1000000 0 [some (vr 14 0), none, none, none] [] (mh0 g) (fun v _ => v = some (vi 1)) := by
  refine v_lw_law_0 (d := 1990) (mc := 9900) (ms := 980000) ?_
  refine v_fn_init_0 (d := 1994) ⟨rfl, ?_⟩
  refine v_fm_init_0 (d := 1998) ⟨rfl, ?_⟩
  exact mT.weaken (lw_loop (g := g) (d := 1930) hL (fun _ => rfl) 512 0 (mzB g) (by omega) (by omega) ⟨0, 0, 0, 0, fun _ => 0, mz_I g⟩ rfl) (by omega) (by omega)
