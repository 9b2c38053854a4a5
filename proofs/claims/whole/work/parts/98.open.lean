/-! OPEN: the abstract walk of the law -/
theorem lw_T (g : mG) (hL : g.2.2.2.2.1 ≤ 3072) : mT g me_lw_law 2000 10000 1000000 0 [some (vr 14 0), none, none, none] [] (mh0 g) (fun v _ => v = some (vi 1)) := by
  sorry
