theorem i_vc_state {k : Nat} {u : SX} {v : SY} (I : i_Rel k u v) (hk : k + 5 ≤ 2563) (v1 : Int32) : wpX_state (fun r => wpY_state (fun r' => r' = r ∧ i_Rel (k + 5) u v) v v1) u v1 := by
  obtain ⟨W, S, R, O, mem, ops, oa, ob, len, st, pc, reg, res, fp, bv, yb, hb, att, ca, co, cn, rfl, rfl, hR⟩ := I
  unfold wpX_state
  rcases ke_ix v1 4 (by decide) with h | ⟨c, hc, rfl⟩
  · refine ke_o3 3 h ?_
    refine br_t rfl ?_
    exact ke_o1 3 h ⟨rfl, ke_mk hR⟩
  · refine ke_co1 hc ?_
    refine br_f (by decide) ⟨ke_i4 hc, ?_⟩
    exact ke_g1 3 hc ⟨ke_i4 hc, ⟨rfl, ke_mk hR⟩⟩
theorem i_vc_pc {k : Nat} {u : SX} {v : SY} (I : i_Rel k u v) (hk : k + 5 ≤ 2563) (v1 : Int32) : wpX_pc (fun r => wpY_pc (fun r' => r' = r ∧ i_Rel (k + 5) u v) v v1) u v1 := by
  obtain ⟨W, S, R, O, mem, ops, oa, ob, len, st, pc, reg, res, fp, bv, yb, hb, att, ca, co, cn, rfl, rfl, hR⟩ := I
  unfold wpX_pc
  rcases ke_ix v1 4 (by decide) with h | ⟨c, hc, rfl⟩
  · refine ke_o3 3 h ?_
    refine br_t rfl ?_
    exact ke_o1 3 h ⟨rfl, ke_mk hR⟩
  · refine ke_co1 hc ?_
    refine br_f (by decide) ⟨ke_i4 hc, ?_⟩
    exact ke_g1 3 hc ⟨ke_i4 hc, ⟨rfl, ke_mk hR⟩⟩
theorem i_vc_attempts {k : Nat} {u : SX} {v : SY} (I : i_Rel k u v) (hk : k + 5 ≤ 2563) (v1 : Int32) : wpX_attempts (fun r => wpY_attempts (fun r' => r' = r ∧ i_Rel (k + 5) u v) v v1) u v1 := by
  obtain ⟨W, S, R, O, mem, ops, oa, ob, len, st, pc, reg, res, fp, bv, yb, hb, att, ca, co, cn, rfl, rfl, hR⟩ := I
  unfold wpX_attempts
  rcases ke_ix v1 4 (by decide) with h | ⟨c, hc, rfl⟩
  · refine ke_o3 3 h ?_
    refine br_t rfl ?_
    exact ke_o1 3 h ⟨rfl, ke_mk hR⟩
  · refine ke_co1 hc ?_
    refine br_f (by decide) ⟨ke_i4 hc, ?_⟩
    exact ke_g1 3 hc ⟨ke_i4 hc, ⟨rfl, ke_mk hR⟩⟩
theorem i_vc_lastCause {k : Nat} {u : SX} {v : SY} (I : i_Rel k u v) (hk : k + 5 ≤ 2563) (v1 : Int32) : wpX_lastCause (fun r => wpY_lastCause (fun r' => r' = r ∧ i_Rel (k + 5) u v) v v1) u v1 := by
  obtain ⟨W, S, R, O, mem, ops, oa, ob, len, st, pc, reg, res, fp, bv, yb, hb, att, ca, co, cn, rfl, rfl, hR⟩ := I
  unfold wpX_lastCause
  rcases ke_ix v1 4 (by decide) with h | ⟨c, hc, rfl⟩
  · refine ke_o3 3 h ?_
    refine br_t rfl ?_
    exact ke_o1 3 h ⟨rfl, ke_mk hR⟩
  · refine ke_co1 hc ?_
    refine br_f (by decide) ⟨ke_i4 hc, ?_⟩
    exact ke_g1 3 hc ⟨ke_i4 hc, ⟨rfl, ke_mk hR⟩⟩
theorem i_vc_abortCode {k : Nat} {u : SX} {v : SY} (I : i_Rel k u v) (hk : k + 5 ≤ 2563) (v1 : Int32) : wpX_abortCode (fun r => wpY_abortCode (fun r' => r' = r ∧ i_Rel (k + 5) u v) v v1) u v1 := by
  obtain ⟨W, S, R, O, mem, ops, oa, ob, len, st, pc, reg, res, fp, bv, yb, hb, att, ca, co, cn, rfl, rfl, hR⟩ := I
  unfold wpX_abortCode
  rcases ke_ix v1 4 (by decide) with h | ⟨c, hc, rfl⟩
  · refine ke_o3 3 h ?_
    refine br_t rfl ?_
    exact ke_o1 3 h ⟨rfl, ke_mk hR⟩
  · refine ke_co1 hc ?_
    refine br_f (by decide) ⟨ke_i4 hc, ?_⟩
    exact ke_g1 3 hc ⟨ke_i4 hc, ⟨rfl, ke_mk hR⟩⟩
theorem i_vc_peek {k : Nat} {u : SX} {v : SY} (I : i_Rel k u v) (hk : k + 5 ≤ 2563) (v1 : Int32) : wpX_peek (fun r => wpY_peek (fun r' => r' = r ∧ i_Rel (k + 5) u v) v v1) u v1 := by
  obtain ⟨W, S, R, O, mem, ops, oa, ob, len, st, pc, reg, res, fp, bv, yb, hb, att, ca, co, cn, rfl, rfl, hR⟩ := I
  unfold wpX_peek
  rcases ke_ix v1 64 (by decide) with h | ⟨c, hc, rfl⟩
  · refine ke_o3 63 h ?_
    refine br_t rfl ?_
    exact ke_o1 63 h ⟨rfl, ke_mk hR⟩
  · refine ke_g3 63 hc ?_
    refine br_f (by decide) ⟨vp_in_nI hc (by decide), ?_⟩
    exact ke_g1 63 hc ⟨vp_in_nI hc (by decide), ⟨rfl, ke_mk hR⟩⟩
theorem i_vc_reg {k : Nat} {u : SX} {v : SY} (I : i_Rel k u v) (hk : k + 5 ≤ 2563) (v1 : Int32) (v2 : Int32) : wpX_reg (fun r => wpY_reg (fun r' => r' = r ∧ i_Rel (k + 5) u v) v v1 v2) u v1 v2 := by
  obtain ⟨W, S, R, O, mem, ops, oa, ob, len, st, pc, reg, res, fp, bv, yb, hb, att, ca, co, cn, rfl, rfl, hR⟩ := I
  unfold wpX_reg
  rcases ke_ix v1 4 (by decide) with h | ⟨c, hc, rfl⟩
  · refine ke_o3 3 h ?_
    refine br_t rfl ?_
    exact ke_o2 3 h ⟨rfl, ke_mk hR⟩
  · refine ke_co1 hc ?_
    refine br_f (by decide) ?_
    rcases ke_ix v2 4 (by decide) with h | ⟨d, hd, rfl⟩
    · refine ke_o3 3 h ?_
      refine br_t rfl ?_
      exact ke_g2 3 hc (ke_o1 3 h ⟨rfl, ke_mk hR⟩)
    · refine ke_g3 3 hd ?_
      refine br_f (by decide) ⟨ke_v4 hc hd, ?_⟩
      exact ke_g2 3 hc (ke_g1 3 hd ⟨ke_v4 hc hd, ⟨rfl, ke_mk hR⟩⟩)
theorem i_vc_result {k : Nat} {u : SX} {v : SY} (I : i_Rel k u v) (hk : k + 5 ≤ 2563) (v1 : Int32) (v2 : Int32) : wpX_result (fun r => wpY_result (fun r' => r' = r ∧ i_Rel (k + 5) u v) v v1 v2) u v1 v2 := by
  obtain ⟨W, S, R, O, mem, ops, oa, ob, len, st, pc, reg, res, fp, bv, yb, hb, att, ca, co, cn, rfl, rfl, hR⟩ := I
  unfold wpX_result
  rcases ke_ix v1 4 (by decide) with h | ⟨c, hc, rfl⟩
  · refine ke_o3 3 h ?_
    refine br_t rfl ?_
    exact ke_o2 3 h ⟨rfl, ke_mk hR⟩
  · refine ke_co1 hc ?_
    refine br_f (by decide) ?_
    rcases ke_ix v2 4 (by decide) with h | ⟨d, hd, rfl⟩
    · refine ke_o3 3 h ?_
      refine br_t rfl ?_
      exact ke_g2 3 hc (ke_o1 3 h ⟨rfl, ke_mk hR⟩)
    · refine ke_g3 3 hd ?_
      refine br_f (by decide) ⟨ke_v4 hc hd, ?_⟩
      exact ke_g2 3 hc (ke_g1 3 hd ⟨ke_v4 hc hd, ⟨rfl, ke_mk hR⟩⟩)
theorem i_vc_count {k : Nat} {u : SX} {v : SY} (I : i_Rel k u v) (hk : k + 5 ≤ 2563) (v1 : Int32) (v2 : Int32) : wpX_count (fun r => wpY_count (fun r' => r' = r ∧ i_Rel (k + 5) u v) v v1 v2) u v1 v2 := by
  obtain ⟨W, S, R, O, mem, ops, oa, ob, len, st, pc, reg, res, fp, bv, yb, hb, att, ca, co, cn, rfl, rfl, hR⟩ := I
  unfold wpX_count
  rcases ke_ix v2 3 (by decide) with h | ⟨d, hd, rfl⟩
  · refine ke_o3 2 h ?_
    rcases ke_ix v1 4 (by decide) with h' | ⟨c, hc, rfl⟩
    · refine ke_o3 3 h' ?_
      refine br_t rfl ?_
      exact ke_o2 3 h' ⟨rfl, ke_mk hR⟩
    · refine ke_g3 3 hc ?_
      refine br_f (by decide) (br_t rfl ?_)
      exact ke_g2 3 hc (ke_o1 2 h ⟨rfl, ke_mk hR⟩)
  · refine ke_g3 2 hd ?_
    rcases ke_ix v1 4 (by decide) with h' | ⟨c, hc, rfl⟩
    · refine ke_o3 3 h' ?_
      refine br_t rfl ?_
      exact ke_o2 3 h' ⟨rfl, ke_mk hR⟩
    · refine ke_g3 3 hc ?_
      refine br_f (by decide) (br_f (by decide) ⟨ke_v3 hc hd, ?_⟩)
      exact ke_g2 3 hc (ke_g1 2 hd ⟨ke_v3 hc hd, ⟨rfl, ke_mk hR⟩⟩)
theorem i_vc_lineState {k : Nat} {u : SX} {v : SY} (I : i_Rel k u v) (hk : k + 5 ≤ 2563) (v1 : Int32) (v2 : Int32) : wpX_lineState (fun r => wpY_lineState (fun r' => r' = r ∧ i_Rel (k + 5) u v) v v1 v2) u v1 v2 := by
  obtain ⟨W, S, R, O, mem, ops, oa, ob, len, st, pc, reg, res, fp, bv, yb, hb, att, ca, co, cn, rfl, rfl, hR⟩ := I
  unfold wpX_lineState
  rcases ke_ix v2 17 (by decide) with h | ⟨d, hd, rfl⟩
  · refine ke_o3 16 h ?_
    rcases ke_ix v1 4 (by decide) with h' | ⟨c, hc, rfl⟩
    · refine ke_o3 3 h' ?_
      refine br_t rfl ?_
      exact ke_o2 3 h' ⟨rfl, ke_mk hR⟩
    · refine ke_g3 3 hc ?_
      refine br_f (by decide) (br_t rfl ?_)
      exact ke_g2 3 hc (ke_o1 16 h ⟨rfl, ke_mk hR⟩)
  · refine ke_g3 16 hd ?_
    rcases ke_ix v1 4 (by decide) with h' | ⟨c, hc, rfl⟩
    · refine ke_o3 3 h' ?_
      refine br_t rfl ?_
      exact ke_o2 3 h' ⟨rfl, ke_mk hR⟩
    · refine ke_g3 3 hc ?_
      refine br_f (by decide) (br_f (by decide) ⟨ke_v17 hc hd, ?_⟩)
      exact ke_g2 3 hc (ke_g1 16 hd ⟨ke_v17 hc hd, ⟨rfl, ke_mk hR⟩⟩)
theorem i_vc_lockOwner {k : Nat} {u : SX} {v : SY} (I : i_Rel k u v) (hk : k + 5 ≤ 2563) : wpX_lockOwner (fun r => wpY_lockOwner (fun r' => r' = r ∧ i_Rel (k + 5) u v) v) u := by
  obtain ⟨W, S, R, O, mem, ops, oa, ob, len, st, pc, reg, res, fp, bv, yb, hb, att, ca, co, cn, rfl, rfl, hR⟩ := I
  exact ⟨rfl, ke_mk hR⟩
