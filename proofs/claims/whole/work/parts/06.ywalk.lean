section
variable {W S R O : Int32} {mem ops oa ob len st pc reg res fp bv yb hb att ca co cn : Nat → Int32} {c : Nat}
theorem ke_Yrs_l {post : SY → Prop} (hc : c < 4) (hp : post (W, S, R, O, mem, ops, oa, ob, len, st, pc, ke_fill reg (c * 4) 4, fp, yb, hb, res, att, ca, co, cn)) : ∀ d i, i + d = 4 → wY_clearRegs_2 post (nI c) W S R O (d + 1) (nI i) mem ops oa ob len st pc (ke_fill reg (c * 4) i) fp yb hb res att ca co cn := by
  intro d
  induction d with
  | zero =>
    intro i hi
    have e : i = 4 := by omega
    subst e
    exact br_t (nI_le (Nat.le_refl 4) (by decide)) hp
  | succ d ih =>
    intro i hi
    refine br_f (nI_ge (b := 4) (by omega) (by decide)) ⟨ke_v4 hc (by omega), nm_r (e' := ke_fill reg (c * 4) (i + 1)) ?_ (nm_r (nI_1 i) ?_)⟩
    · rw [ke_c4 hc (by omega)]; rfl
    · exact ih (i + 1) (by omega)
theorem ke_Yrs {post : SY → Prop} (hc : c < 4) (hp : post (W, S, R, O, mem, ops, oa, ob, len, st, pc, ke_fill reg (c * 4) 4, fp, yb, hb, res, att, ca, co, cn)) : wpY_clearRegs post (W, S, R, O, mem, ops, oa, ob, len, st, pc, reg, fp, yb, hb, res, att, ca, co, cn) (nI c) := by
  refine ⟨5, ?_⟩
  exact ke_Yrs_l hc hp 4 0 rfl
theorem ke_Yd28 {post : SY → Prop} (hc : c < 4) (hp : post (W, S, R, O, mem, ops, oa, ob, len, st, pc, reg, fp, ke_fill yb (c * 64) 64, ke_fill hb (c * 64) 64, res, att, ca, co, cn)) : ∀ d i, i + d = 64 → wY_clearSpec_28 post (nI c) W S R O (d + 1) (nI i) mem ops oa ob len st pc reg fp (ke_fill yb (c * 64) i) (ke_fill hb (c * 64) i) res att ca co cn := by
  intro d
  induction d with
  | zero =>
    intro i hi
    have e : i = 64 := by omega
    subst e
    exact br_t (nI_le (Nat.le_refl 64) (by decide)) hp
  | succ d ih =>
    intro i hi
    refine br_f (nI_ge (b := 64) (by omega) (by decide)) ⟨ke_v64 hc (by omega), nm_r (e' := ke_fill hb (c * 64) (i + 1)) ?_ ⟨ke_v64 hc (by omega), nm_r (e' := ke_fill yb (c * 64) (i + 1)) ?_ (nm_r (nI_1 i) ?_)⟩⟩
    · rw [ke_c64 hc (by omega), ke_b_0]; rfl
    · rw [ke_c64 hc (by omega)]; rfl
    · exact ih (i + 1) (by omega)
theorem ke_Yd2 {post : SY → Prop} (hc : c < 4) (hp : post (W, S, R, O, mem, ops, oa, ob, len, st, pc, reg, ke_fill fp (c * 17) 17, ke_fill yb (c * 64) 64, ke_fill hb (c * 64) 64, res, att, ca, co, cn)) : ∀ d i, i + d = 17 → wY_clearSpec_2 post (nI c) W S R O (d + 1) (nI i) mem ops oa ob len st pc reg (ke_fill fp (c * 17) i) yb hb res att ca co cn := by
  intro d
  induction d with
  | zero =>
    intro i hi
    have e : i = 17 := by omega
    subst e
    refine br_t (nI_le (Nat.le_refl 17) (by decide)) ⟨65, ?_⟩
    exact ke_Yd28 hc hp 64 0 rfl
  | succ d ih =>
    intro i hi
    refine br_f (nI_ge (b := 17) (by omega) (by decide)) ⟨ke_v17 hc (by omega), nm_r (e' := ke_fill fp (c * 17) (i + 1)) ?_ (nm_r (nI_1 i) ?_)⟩
    · rw [ke_c17 hc (by omega)]; rfl
    · exact ih (i + 1) (by omega)
theorem ke_Ydr {post : SY → Prop} (hc : c < 4) (hp : post (W, S, R, O, mem, ops, oa, ob, len, st, pc, reg, ke_fill fp (c * 17) 17, ke_fill yb (c * 64) 64, ke_fill hb (c * 64) 64, res, att, ca, co, cn)) : wpY_clearSpec post (W, S, R, O, mem, ops, oa, ob, len, st, pc, reg, fp, yb, hb, res, att, ca, co, cn) (nI c) := by
  refine ⟨18, ?_⟩
  exact ke_Yd2 hc hp 17 0 rfl
theorem ke_Y75 {post : SY → Prop} {k z : Int32} (hc : c < 4) (hp : post (W, S, R, O, mem, ops, oa, ob, len, upd st c (ke_as R k (att c)), pc, reg, fp, yb, hb, res, att, ca, upd co c z, cn)) : wY_abort_75 post (nI c) k z (nI c) W S R O mem ops oa ob len st pc reg fp yb hb res att ca co cn := by
  refine ⟨ke_i4 hc, nm_r (e' := upd co c z) (by rw [ke_k4 hc]) ?_⟩
  by_cases h2 : k = 2
  · have e : ke_as R k (att c) = 3 := if_pos (Or.inl h2)
    rw [e] at hp
    exact br_t h2 ⟨ke_i4 hc, nm_r (e' := upd st c 3) (by rw [ke_k4 hc]) hp⟩
  · by_cases h3 : k = 3
    · have e : ke_as R k (att c) = 3 := if_pos (Or.inr (Or.inl h3))
      rw [e] at hp
      exact br_f h2 (br_t h3 ⟨ke_i4 hc, nm_r (e' := upd st c 3) (by rw [ke_k4 hc]) hp⟩)
    · refine br_f h2 (br_f h3 ⟨ke_i4 hc, ?_⟩)
      by_cases h : att c ≤ R
      · have e : ke_as R k (att c) = 1 := if_neg (by intro x; rcases x with x | x | x; exact h2 x; exact h3 x; exact x h)
        rw [e] at hp
        exact br_t (by rw [ke_k4 hc]; exact h) ⟨ke_i4 hc, nm_r (e' := upd st c 1) (by rw [ke_k4 hc]) hp⟩
      · have e : ke_as R k (att c) = 3 := if_pos (Or.inr (Or.inr h))
        rw [e] at hp
        exact br_f (by rw [ke_k4 hc]; exact h) ⟨ke_i4 hc, nm_r (e' := upd st c 3) (by rw [ke_k4 hc]) hp⟩
theorem ke_Yab {post : SY → Prop} {k z : Int32} (hc : c < 4) (hk : ¬ k = 3) (hp : post (W, S, R, O, mem, ops, oa, ob, len, upd st c (ke_as R k (att c + 1)), upd pc c 0, ke_fill reg (c * 4) 4, ke_fill fp (c * 17) 17, ke_fill yb (c * 64) 64, ke_fill hb (c * 64) 64, res, upd att c (att c + 1), upd ca c k, upd co c 0, upd cn (c * 3 + 2) (cn (c * 3 + 2) + 1))) : wpY_abort post (W, S, R, O, mem, ops, oa, ob, len, st, pc, reg, fp, yb, hb, res, att, ca, co, cn) (nI c) k z := by
  unfold wpY_abort
  refine ke_Ydr hc ?_
  refine ke_Yrs hc ?_
  refine ⟨ke_i4 hc, nm_r (e' := upd pc c 0) (by rw [ke_k4 hc]) ?_⟩
  refine ⟨ke_i4 hc, ke_i4 hc, nm_r (e' := upd att c (att c + 1)) (by rw [ke_k4 hc]) ?_⟩
  refine ⟨ke_v3 (i := 2) hc (by decide), ke_v3 (i := 2) hc (by decide), nm_r (e' := upd cn (c * 3 + 2) (cn (c * 3 + 2) + 1)) (by rw [ke_c3_2 hc]) ?_⟩
  refine ⟨ke_i4 hc, nm_r (e' := upd ca c k) (by rw [ke_k4 hc]) ?_⟩
  have e : ke_as R k (att c + 1) = ke_as R k (upd att c (att c + 1) c) := by rw [pk_us]
  rw [e] at hp
  exact br_f hk (ke_Y75 hc hp)
theorem ke_Yab3 {post : SY → Prop} {k z : Int32} (hc : c < 4) (hp : post (W, S, R, O, mem, ops, oa, ob, len, upd st c (ke_as R 3 (att c + 1)), upd pc c 0, ke_fill reg (c * 4) 4, ke_fill fp (c * 17) 17, ke_fill yb (c * 64) 64, ke_fill hb (c * 64) 64, res, upd att c (att c + 1), upd ca c 3, upd co c z, upd cn (c * 3 + 2) (cn (c * 3 + 2) + 1))) : wpY_abort post (W, S, R, O, mem, ops, oa, ob, len, st, pc, reg, fp, yb, hb, res, att, ca, co, cn) (nI c) 3 z := by
  unfold wpY_abort
  refine ke_Ydr hc ?_
  refine ke_Yrs hc ?_
  refine ⟨ke_i4 hc, nm_r (e' := upd pc c 0) (by rw [ke_k4 hc]) ?_⟩
  refine ⟨ke_i4 hc, ke_i4 hc, nm_r (e' := upd att c (att c + 1)) (by rw [ke_k4 hc]) ?_⟩
  refine ⟨ke_v3 (i := 2) hc (by decide), ke_v3 (i := 2) hc (by decide), nm_r (e' := upd cn (c * 3 + 2) (cn (c * 3 + 2) + 1)) (by rw [ke_c3_2 hc]) ?_⟩
  refine ⟨ke_i4 hc, nm_r (e' := upd ca c 3) (by rw [ke_k4 hc]) ?_⟩
  have e : ke_as R 3 (att c + 1) = ke_as R 3 (upd att c (att c + 1) c) := by rw [pk_us]
  rw [e] at hp
  exact br_t rfl (ke_Y75 hc hp)
theorem ke_Yse {post : Int32 → Prop} {d l : Nat} (hS : S = nI d) (h1 : 1 ≤ d) (h4 : d ≤ 4) (hl : l < 17) (hp : post (nI (ke_set d l))) : wpY_setOf post (W, S, R, O, mem, ops, oa, ob, len, st, pc, reg, fp, yb, hb, res, att, ca, co, cn) (nI l) := by
  by_cases e : l = 16
  · subst e
    exact br_t rfl hp
  · have e2 : ke_set d l = l % d := if_neg e
    rw [e2] at hp
    subst hS
    refine br_f (fun z => e ((nI_eq (by omega) (by decide)).mp z)) ⟨nI_ne0 (by omega) (by omega), ?_⟩
    rw [pk_rem (by omega) (by omega) (by omega)]
    exact hp
theorem ke_a3 {m : Nat} (h : m < 4) : nI m &&& 3 = nI m := by rw [pk_andN (by omega) 2 (by decide), Nat.mod_eq_of_lt h]
theorem ke_a15 {m : Nat} (h : m < 16) : nI m &&& 15 = nI m := by rw [pk_andN (by omega) 4 (by decide), Nat.mod_eq_of_lt h]
theorem ke_a63 {m : Nat} (h : m < 64) : nI m &&& 63 = nI m := by rw [pk_andN (by omega) 6 (by decide), Nat.mod_eq_of_lt h]
theorem ke_Y130 {post : SY → Prop} {i : Nat} (hc : c < 4) (hi : pc c = nI i) (hp : post (W, S, R, O, mem, ops, oa, ob, len, st, upd pc c (nI (i + 1)), reg, fp, yb, hb, res, att, ca, co, cn)) : wY_simple_130 post (nI c) W S R O mem ops oa ob len st pc reg fp yb hb res att ca co cn :=
  ⟨ke_i4 hc, ke_i4 hc, nm_r (e' := upd pc c (nI (i + 1))) (by rw [ke_k4 hc, hi, nI_1]) hp⟩
theorem ke_Ysi {post : SY → Prop} {p q i L : Nat} {b : Int32} (hc : c < 4) (hi : pc c = nI i) (hL : len c = nI L) (hL16 : L ≤ 16) (hiL : i < L) (hok : ke_Ok (nI p) (nI q) b) (hpp : p = 0 ∨ p = 3 ∨ p = 4 ∨ p = 8) (hq4 : q < 4) (hp : post (W, S, R, O, mem, ops, oa, ob, len, st, upd pc c (nI (ke_xp p q b c L i reg)), ke_xr p q b c reg, fp, yb, hb, res, att, ca, co, cn)) : wpY_simple post (W, S, R, O, mem, ops, oa, ob, len, st, pc, reg, fp, yb, hb, res, att, ca, co, cn) (nI c) (nI p) (nI q) b := by
  refine nm_r (e' := nI c * 4 + nI q) rfl ?_
  have hx : p ≠ 8 → ke_xp p q b c L i reg = i + 1 := by
    intro h
    unfold ke_xp
    rw [if_neg (fun z => h z.1)]
  have hl : len (nI c).toNatClampNeg = nI L := by rw [ke_k4 hc]; exact hL
  rcases hpp with rfl | rfl | rfl | rfl
  · rw [hx (by decide)] at hp
    exact br_t rfl ⟨ke_v4 hc hq4, nm_r (e' := upd reg (c * 4 + q) b) (by rw [ke_c4 hc hq4]) (br_f (by decide) (br_f (by decide) (br_f (by decide) (ke_Y130 hc hi hp))))⟩
  · rw [hx (by decide)] at hp
    obtain ⟨m, hm, em⟩ := ke_Ok3 hok (by omega) (by omega)
    subst em
    exact br_f (by decide) (br_t rfl ⟨ke_v4 hc hq4, by rw [ke_a3 hm]; exact ke_v4 hc hm, ke_v4 hc hq4, nm_r (e' := upd reg (c * 4 + q) (reg (c * 4 + q) + reg (c * 4 + (nI m).toNatClampNeg))) (by rw [ke_a3 hm, ke_c4 hc hq4, ke_c4 hc hm, nI_clamp (show m < 2 ^ 31 by omega)]) (br_f (by decide) (br_f (by decide) (ke_Y130 hc hi hp)))⟩)
  · rw [hx (by decide)] at hp
    exact br_f (by decide) (br_f (by decide) (br_t rfl ⟨ke_v4 hc hq4, ke_v4 hc hq4, nm_r (e' := upd reg (c * 4 + q) (reg (c * 4 + q) + b)) (by rw [ke_c4 hc hq4]) (br_f (by decide) (ke_Y130 hc hi hp))⟩))
  · obtain ⟨m, hm1, hm, em⟩ := ke_Ok8 hok (by omega) rfl
    subst em
    by_cases z : reg (c * 4 + q) = 0
    · have hv : ke_xp 8 q (nI m) c L i reg = i + 1 := by
        unfold ke_xp
        rw [if_neg (fun y => y.2 z)]
      rw [hv] at hp
      exact br_f (by decide) (br_f (by decide) (br_f (by decide) (br_t rfl ⟨ke_v4 hc hq4, br_t (by rw [ke_c4 hc hq4]; exact z) (ke_Y130 hc hi hp)⟩)))
    · have hv : ke_xp 8 q (nI m) c L i reg = if L < i + m then L else i + m := by
        unfold ke_xp
        rw [if_pos ⟨rfl, z⟩, nI_clamp (show m < 2 ^ 31 by omega)]
      rw [hv] at hp
      refine br_f (by decide) (br_f (by decide) (br_f (by decide) (br_t rfl ⟨ke_v4 hc hq4, br_f (by rw [ke_c4 hc hq4]; exact z) ⟨ke_i4 hc, nm_r (e' := nI (i + m)) (by rw [ke_k4 hc, hi, nI_add]) ⟨ke_i4 hc, ?_⟩⟩⟩)))
      by_cases h : L < i + m
      · rw [if_pos h] at hp
        exact br_f (by rw [hl]; exact nI_ge h (by omega)) ⟨ke_i4 hc, nm_r (e' := nI L) hl ⟨ke_i4 hc, nm_r (e' := upd pc c (nI L)) (by rw [ke_k4 hc]) hp⟩⟩
      · rw [if_neg h] at hp
        exact br_t (by rw [hl]; exact nI_le (by omega) (by omega)) ⟨ke_i4 hc, nm_r (e' := upd pc c (nI (i + m))) (by rw [ke_k4 hc]) hp⟩
end
