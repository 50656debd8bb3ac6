theorem i_vc_step {k : Nat} {u : SX} {v : SY} (I : i_Rel k u v) (hk : k + 5 ≤ 2563) (v1 : Int32) : wpX_step (fun r u' => wpY_step (fun r' v' => r' = r ∧ i_Rel (k + 5) u' v') v v1) u v1 := by
  obtain ⟨W, S, R, O, mem, ops, oa, ob, len, st, pc, reg, res, fp, bv, yb, hb, att, ca, co, cn, rfl, rfl, hR⟩ := I
  rcases ke_ix v1 4 (by decide) with h | ⟨c, hc, rfl⟩
  · unfold wpX_step
    refine ke_o3 3 h ?_
    refine br_t rfl ?_
    exact ke_o1 3 h ⟨rfl, ke_mk hR⟩
  · exact ke_step hc hR
