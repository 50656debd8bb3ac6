theorem i_vc (xs : Nat → Int32) (L : Nat) (hL : L ≤ 260) : wpL_law (fun r => r = 1) L xs := by
  unfold wpL_law
  refine sq_cel (k := 0) hL (by decide) ?_
  refine sq_cel (k := 1) hL (by decide) ?_
  refine sq_cel (k := 2) hL (by decide) ?_
  refine ⟨16, 904, by decide, by decide, sq_init ?_⟩
  refine ⟨by decide, by decide, 16, 904, by decide, by decide, sq_init ?_⟩
  refine ⟨5, ?_⟩
  refine sq_47 hL (fun n3 hn3 hn ops oa ob len hB => ⟨n3 + 2400 + 1, ?_⟩) 4 0 rfl _ _ _ _ (sq_Bd_0 _ _ _)
  exact sq_143 hL hn3 hn (n3 + 2400) 0 (Nat.zero_add _) _ _ _ _ _ _ _ _ _ _ _ _ _ _ ⟨ke_cv14 _, hB, ke_N_0 3, sq_G_0⟩
