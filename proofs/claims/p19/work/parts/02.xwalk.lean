/-! the walks of the class: each private method with a general post -/
section
variable {W S R O : Int32} {mem ops oa ob len st pc reg res fp bv yb hb att ca co cn : Nat → Int32} {c : Nat}
theorem ke_i4 {c : Nat} (hc : c < 4) : vp_in (nI c) 4 := vp_in_nI hc (by omega)
theorem ke_k4 {c : Nat} (hc : c < 4) : (nI c).toNatClampNeg = c := nI_clamp (by omega)
theorem ke_Xrs_l {post : St2 → Prop} (hc : c < 4) (hp : post (W, S, R, O, mem, ops, oa, ob, len, st, pc, ke_fill reg (c * 4) 4, res, fp, bv, hb, att, ca, co, cn)) : ∀ d i, i + d = 4 → wX_restartProgram_9 post (nI c) W S R O (d + 1) (nI i) mem ops oa ob len st pc (ke_fill reg (c * 4) i) res fp bv hb att ca co cn := by
  intro d
  induction d with
  | zero =>
    intro i hi
    have e : i = 4 := by omega
    subst e
    exact br_t (nI_le (Nat.le_refl 4) (by decide)) hp
  | succ d ih =>
    intro i hi
    refine br_f (nI_ge (b := 4) (by omega) (by decide)) ⟨ke_v4 hc (by omega), nm_r (e' := ke_fill reg (c * 4) (i + 1)) ?_ (nm_r (nI_1 i) ?_)⟩
    · rw [ke_c4 hc (by omega)]; rfl
    · exact ih (i + 1) (by omega)
theorem ke_Xrs {post : St2 → Prop} (hc : c < 4) (hp : post (W, S, R, O, mem, ops, oa, ob, len, st, upd pc c 0, ke_fill reg (c * 4) 4, res, fp, bv, hb, att, ca, co, cn)) : wpX_restartProgram post (W, S, R, O, mem, ops, oa, ob, len, st, pc, reg, res, fp, bv, hb, att, ca, co, cn) (nI c) := by
  refine ⟨ke_i4 hc, nm_r (e' := upd pc c 0) (by rw [ke_k4 hc]) ⟨5, ?_⟩⟩
  exact ke_Xrs_l hc hp 4 0 rfl
theorem ke_Xd28 {post : St2 → Prop} (hc : c < 4) (hp : post (W, S, R, O, mem, ops, oa, ob, len, st, pc, reg, res, fp, bv, ke_fill hb (c * 64) 64, att, ca, co, cn)) : ∀ d i, i + d = 64 → wX_dropSpeculation_28 post (nI c) W S R O (d + 1) (nI i) mem ops oa ob len st pc reg res fp bv (ke_fill hb (c * 64) i) att ca co cn := by
  intro d
  induction d with
  | zero =>
    intro i hi
    have e : i = 64 := by omega
    subst e
    exact br_t (nI_le (Nat.le_refl 64) (by decide)) hp
  | succ d ih =>
    intro i hi
    refine br_f (nI_ge (b := 64) (by omega) (by decide)) ⟨ke_v64 hc (by omega), nm_r (e' := ke_fill hb (c * 64) (i + 1)) ?_ (nm_r (nI_1 i) ?_)⟩
    · rw [ke_c64 hc (by omega)]; rfl
    · exact ih (i + 1) (by omega)
theorem ke_Xd2 {post : St2 → Prop} (hc : c < 4) (hp : post (W, S, R, O, mem, ops, oa, ob, len, st, pc, reg, res, ke_fill fp (c * 17) 17, bv, ke_fill hb (c * 64) 64, att, ca, co, cn)) : ∀ d i, i + d = 17 → wX_dropSpeculation_2 post (nI c) W S R O (d + 1) (nI i) mem ops oa ob len st pc reg res (ke_fill fp (c * 17) i) bv hb att ca co cn := by
  intro d
  induction d with
  | zero =>
    intro i hi
    have e : i = 17 := by omega
    subst e
    refine br_t (nI_le (Nat.le_refl 17) (by decide)) ⟨65, ?_⟩
    exact ke_Xd28 hc hp 64 0 rfl
  | succ d ih =>
    intro i hi
    refine br_f (nI_ge (b := 17) (by omega) (by decide)) ⟨ke_v17 hc (by omega), nm_r (e' := ke_fill fp (c * 17) (i + 1)) ?_ (nm_r (nI_1 i) ?_)⟩
    · rw [ke_c17 hc (by omega)]; rfl
    · exact ih (i + 1) (by omega)
theorem ke_Xdr {post : St2 → Prop} (hc : c < 4) (hp : post (W, S, R, O, mem, ops, oa, ob, len, st, pc, reg, res, ke_fill fp (c * 17) 17, bv, ke_fill hb (c * 64) 64, att, ca, co, cn)) : wpX_dropSpeculation post (W, S, R, O, mem, ops, oa, ob, len, st, pc, reg, res, fp, bv, hb, att, ca, co, cn) (nI c) := by
  refine ⟨18, ?_⟩
  exact ke_Xd2 hc hp 17 0 rfl
theorem ke_X88 {post : St2 → Prop} (hc : c < 4) (hp : post (W, S, R, O, mem, ops, oa, ob, len, upd st c 3, pc, reg, res, fp, bv, hb, att, ca, co, cn)) : wX_abort_83 post (nI c) W S R O mem ops oa ob len st pc reg res fp bv hb att ca co cn := by
  refine br_f (by decide) ⟨ke_i4 hc, nm_r (e' := upd st c 3) (by rw [ke_k4 hc]) hp⟩
theorem ke_X63 {post : St2 → Prop} (hc : c < 4) (hp : post (W, S, R, O, mem, ops, oa, ob, len, upd st c (if att c ≤ R then 1 else 3), pc, reg, res, fp, bv, hb, att, ca, co, cn)) : wX_abort_63 post (nI c) 0 W S R O mem ops oa ob len st pc reg res fp bv hb att ca co cn := by
  refine br_t rfl ⟨ke_i4 hc, ?_⟩
  by_cases h : att c ≤ R
  · rw [if_pos h] at hp
    exact br_t (by rw [ke_k4 hc]; exact h) (br_t rfl ⟨ke_i4 hc, nm_r (e' := upd st c 1) (by rw [ke_k4 hc]) hp⟩)
  · rw [if_neg h] at hp
    exact br_f (by rw [ke_k4 hc]; exact h) (ke_X88 hc hp)
theorem ke_Xab {post : St2 → Prop} {k z : Int32} (hc : c < 4) (hp : post (W, S, R, O, mem, ops, oa, ob, len, upd st c (ke_as R k (att c + 1)), upd pc c 0, ke_fill reg (c * 4) 4, res, ke_fill fp (c * 17) 17, bv, ke_fill hb (c * 64) 64, upd att c (att c + 1), upd ca c k, upd co c z, upd cn (c * 3 + 2) (cn (c * 3 + 2) + 1))) : wpX_abort post (W, S, R, O, mem, ops, oa, ob, len, st, pc, reg, res, fp, bv, hb, att, ca, co, cn) (nI c) k z := by
  unfold wpX_abort
  refine ke_Xdr hc ?_
  refine ke_Xrs hc ?_
  refine ⟨ke_i4 hc, ke_i4 hc, nm_r (e' := upd att c (att c + 1)) (by rw [ke_k4 hc]) ?_⟩
  refine ⟨ke_v3 (i := 2) hc (by decide), ke_v3 (i := 2) hc (by decide), nm_r (e' := upd cn (c * 3 + 2) (cn (c * 3 + 2) + 1)) (by rw [ke_c3_2 hc]) ?_⟩
  refine ⟨ke_i4 hc, nm_r (e' := upd ca c k) (by rw [ke_k4 hc]) ?_⟩
  refine ⟨ke_i4 hc, nm_r (e' := upd co c z) (by rw [ke_k4 hc]) ?_⟩
  by_cases h2 : k = 2
  · have e : ke_as R k (att c + 1) = 3 := if_pos (Or.inl h2)
    rw [e] at hp
    refine br_t h2 (br_f (by decide) ?_)
    exact ke_X88 hc hp
  · by_cases h3 : k = 3
    · have e : ke_as R k (att c + 1) = 3 := if_pos (Or.inr (Or.inl h3))
      rw [e] at hp
      refine br_f h2 (br_t h3 (br_f (by decide) ?_))
      exact ke_X88 hc hp
    · refine br_f h2 (br_f h3 (ke_X63 hc ?_))
      have e : ke_as R k (att c + 1) = if upd att c (att c + 1) c ≤ R then 1 else 3 := by
        rw [pk_us]
        unfold ke_as
        by_cases h : att c + 1 ≤ R
        · rw [if_pos h, if_neg (by intro x; rcases x with x | x | x; exact h2 x; exact h3 x; exact x h)]
        · rw [if_neg h, if_pos (Or.inr (Or.inr h))]
      rw [e] at hp
      exact hp
theorem ke_Xaq_l {post : Int32 → St2 → Prop} {t : ke_T} (hc : c < 4) (hp : post 3 (W, S, R, O, mem, ops, oa, ob, len, upd (ke_acq R t 4).1 c 4, upd (ke_acq R t 4).2.1 c 0, ke_fill (ke_acq R t 4).2.2.1 (c * 4) 4, res, (ke_acq R t 4).2.2.2.1, bv, (ke_acq R t 4).2.2.2.2.1, (ke_acq R t 4).2.2.2.2.2.1, (ke_acq R t 4).2.2.2.2.2.2.1, (ke_acq R t 4).2.2.2.2.2.2.2.1, (ke_acq R t 4).2.2.2.2.2.2.2.2.1)) : ∀ d i, i + d = 4 → wX_acquire_17 post (nI c) (d + 1) (nI i) W S R O mem ops oa ob len ((ke_acq R t i).1) ((ke_acq R t i).2.1) ((ke_acq R t i).2.2.1) res ((ke_acq R t i).2.2.2.1) bv ((ke_acq R t i).2.2.2.2.1) ((ke_acq R t i).2.2.2.2.2.1) ((ke_acq R t i).2.2.2.2.2.2.1) ((ke_acq R t i).2.2.2.2.2.2.2.1) ((ke_acq R t i).2.2.2.2.2.2.2.2.1) := by
  intro d
  induction d with
  | zero =>
    intro i hi
    have e : i = 4 := by omega
    subst e
    refine br_t (nI_le (Nat.le_refl 4) (by decide)) ⟨ke_i4 hc, nm_r (e' := upd (ke_acq R t 4).1 c 4) (by rw [ke_k4 hc]) ?_⟩
    exact ke_Xrs hc hp
  | succ d ih =>
    intro i hi
    have hi4 : i < 4 := by omega
    refine br_f (nI_ge (b := 4) (by omega) (by decide)) ⟨ke_i4 hi4, ?_⟩
    have h1 := ih (i + 1) (by omega)
    by_cases z : (ke_acq R t i).1 i = 2
    · have e : ke_acq R t (i + 1) = ke_ab R i 4 0 (ke_acq R t i) := if_pos z
      rw [e] at h1
      refine br_t (by rw [ke_k4 hi4]; exact z) (ke_Xab hi4 ?_)
      exact nm_r (nI_1 i) h1
    · have e : ke_acq R t (i + 1) = ke_acq R t i := if_neg z
      rw [e] at h1
      exact br_f (by rw [ke_k4 hi4]; exact z) (nm_r (nI_1 i) h1)
theorem ke_Xaq {post : Int32 → St2 → Prop} (hc : c < 4) (hO : O = -1) (hp : post 3 (W, S, R, nI c, mem, ops, oa, ob, len, upd (ke_acq R (st, pc, reg, fp, hb, att, ca, co, cn, yb) 4).1 c 4, upd (ke_acq R (st, pc, reg, fp, hb, att, ca, co, cn, yb) 4).2.1 c 0, ke_fill (ke_acq R (st, pc, reg, fp, hb, att, ca, co, cn, yb) 4).2.2.1 (c * 4) 4, res, (ke_acq R (st, pc, reg, fp, hb, att, ca, co, cn, yb) 4).2.2.2.1, bv, (ke_acq R (st, pc, reg, fp, hb, att, ca, co, cn, yb) 4).2.2.2.2.1, (ke_acq R (st, pc, reg, fp, hb, att, ca, co, cn, yb) 4).2.2.2.2.2.1, (ke_acq R (st, pc, reg, fp, hb, att, ca, co, cn, yb) 4).2.2.2.2.2.2.1, (ke_acq R (st, pc, reg, fp, hb, att, ca, co, cn, yb) 4).2.2.2.2.2.2.2.1, (ke_acq R (st, pc, reg, fp, hb, att, ca, co, cn, yb) 4).2.2.2.2.2.2.2.2.1)) : wpX_acquire post (W, S, R, O, mem, ops, oa, ob, len, st, pc, reg, res, fp, bv, hb, att, ca, co, cn) (nI c) := by
  refine br_t hO ⟨5, ?_⟩
  exact ke_Xaq_l (t := (st, pc, reg, fp, hb, att, ca, co, cn, yb)) hc hp 4 0 rfl
theorem ke_Xcm_l {post : St2 → Prop} {k : Nat} (hc : c < 4) (hk : k < 3) (hp : post (W, S, R, O, mem, ops, oa, ob, len, upd st c 0, pc, reg, ke_copy res reg (c * 4) 4, fp, bv, hb, att, ca, co, upd cn (c * 3 + k) (cn (c * 3 + k) + 1))) : ∀ d i, i + d = 4 → wX_complete_2 post (nI c) (nI k) W S R O (d + 1) (nI i) mem ops oa ob len st pc reg (ke_copy res reg (c * 4) i) fp bv hb att ca co cn := by
  intro d
  induction d with
  | zero =>
    intro i hi
    have e : i = 4 := by omega
    subst e
    refine br_t (nI_le (Nat.le_refl 4) (by decide)) ⟨ke_v3 hc hk, ke_v3 hc hk, nm_r (e' := upd cn (c * 3 + k) (cn (c * 3 + k) + 1)) (by rw [ke_c3 hc hk]) ⟨ke_i4 hc, nm_r (e' := upd st c 0) (by rw [ke_k4 hc]) hp⟩⟩
  | succ d ih =>
    intro i hi
    refine br_f (nI_ge (b := 4) (by omega) (by decide)) ⟨ke_v4 hc (by omega), ke_v4 hc (by omega), nm_r (e' := ke_copy res reg (c * 4) (i + 1)) ?_ (nm_r (nI_1 i) ?_)⟩
    · rw [ke_c4 hc (by omega)]; rfl
    · exact ih (i + 1) (by omega)
theorem ke_Xcm {post : St2 → Prop} {k : Nat} (hc : c < 4) (hk : k < 3) (hp : post (W, S, R, O, mem, ops, oa, ob, len, upd st c 0, pc, reg, ke_copy res reg (c * 4) 4, fp, bv, hb, att, ca, co, upd cn (c * 3 + k) (cn (c * 3 + k) + 1))) : wpX_complete post (W, S, R, O, mem, ops, oa, ob, len, st, pc, reg, res, fp, bv, hb, att, ca, co, cn) (nI c) (nI k) := by
  refine ⟨5, ?_⟩
  exact ke_Xcm_l hc hk hp 4 0 rfl
theorem ke_Xct_l {post : Int32 → St2 → Prop} (hc : c < 4) (hp : post 6 (W, S, R, O, ke_mrg mem hb bv (c * 64) 64, ops, oa, ob, len, upd st c 0, pc, reg, ke_copy res reg (c * 4) 4, ke_fill fp (c * 17) 17, bv, ke_fill hb (c * 64) 64, att, ca, co, upd cn (c * 3 + 0) (cn (c * 3 + 0) + 1))) : ∀ d i, i + d = 64 → wX_commit_2 post (nI c) W S R O (d + 1) (nI i) (ke_mrg mem hb bv (c * 64) i) ops oa ob len st pc reg res fp bv hb att ca co cn := by
  intro d
  induction d with
  | zero =>
    intro i hi
    have e : i = 64 := by omega
    subst e
    refine br_t (nI_le (Nat.le_refl 64) (by decide)) (ke_Xdr hc ?_)
    exact ke_Xcm (k := 0) hc (by decide) hp
  | succ d ih =>
    intro i hi
    refine br_f (nI_ge (b := 64) (by omega) (by decide)) ⟨ke_v64 hc (by omega), ?_⟩
    have h1 := ih (i + 1) (by omega)
    by_cases z : hb (c * 64 + i) = 0
    · have e : ke_mrg mem hb bv (c * 64) (i + 1) = ke_mrg mem hb bv (c * 64) i := if_pos z
      rw [e] at h1
      exact br_t (by rw [ke_c64 hc (by omega)]; exact z) (nm_r (nI_1 i) h1)
    · have e : ke_mrg mem hb bv (c * 64) (i + 1) = upd (ke_mrg mem hb bv (c * 64) i) i (bv (c * 64 + i)) := if_neg z
      rw [e] at h1
      exact br_f (by rw [ke_c64 hc (by omega)]; exact z) ⟨ke_v64 hc (by omega), vp_in_nI (by omega) (by omega), nm_r (e' := upd (ke_mrg mem hb bv (c * 64) i) i (bv (c * 64 + i))) (by rw [ke_c64 hc (by omega), nI_clamp (by omega)]) (nm_r (nI_1 i) h1)⟩
theorem ke_Xct {post : Int32 → St2 → Prop} (hc : c < 4) (hp : post 6 (W, S, R, O, ke_mrg mem hb bv (c * 64) 64, ops, oa, ob, len, upd st c 0, pc, reg, ke_copy res reg (c * 4) 4, ke_fill fp (c * 17) 17, bv, ke_fill hb (c * 64) 64, att, ca, co, upd cn (c * 3 + 0) (cn (c * 3 + 0) + 1))) : wpX_commit post (W, S, R, O, mem, ops, oa, ob, len, st, pc, reg, res, fp, bv, hb, att, ca, co, cn) (nI c) := by
  refine ⟨65, ?_⟩
  exact ke_Xct_l hc hp 64 0 rfl
theorem ke_Xrl {post : Int32 → St2 → Prop} (hc : c < 4) (hp : post 7 (W, S, R, -1, mem, ops, oa, ob, len, upd st c 0, pc, reg, ke_copy res reg (c * 4) 4, fp, bv, hb, att, ca, co, upd cn (c * 3 + 1) (cn (c * 3 + 1) + 1))) : wpX_release post (W, S, R, O, mem, ops, oa, ob, len, st, pc, reg, res, fp, bv, hb, att, ca, co, cn) (nI c) := by
  unfold wpX_release
  exact ke_Xcm (k := 1) hc (by decide) hp
theorem ke_Xbg {post : Int32 → St2 → Prop} (hc : c < 4) (hO : O = -1) (hp : post 2 (W, S, R, O, mem, ops, oa, ob, len, upd st c 2, upd pc c 0, ke_fill reg (c * 4) 4, res, upd (ke_fill fp (c * 17) 17) (c * 17 + 16) 1, bv, ke_fill hb (c * 64) 64, att, ca, co, cn)) : wpX_begin post (W, S, R, O, mem, ops, oa, ob, len, st, pc, reg, res, fp, bv, hb, att, ca, co, cn) (nI c) := by
  refine br_t hO ⟨ke_i4 hc, nm_r (e' := upd st c 2) (by rw [ke_k4 hc]) ?_⟩
  refine ke_Xrs hc ?_
  refine ke_Xdr hc ?_
  exact ⟨ke_v17 (i := 16) hc (by decide), nm_r (e' := upd (ke_fill fp (c * 17) 17) (c * 17 + 16) 1) (by rw [ke_c17_16 hc]) hp⟩
end
