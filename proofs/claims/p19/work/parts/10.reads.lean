/-! what the law reads of the script -/
def sq_cl (L : Nat) (xs : ke_F) (k : Nat) : Int32 := if k < L then xs k else 0
theorem sq_cel {post : Int32 → Prop} {L : Nat} {xs : ke_F} {k : Nat} (hL : L ≤ 260) (hk : k < 2 ^ 31) (h : post (sq_cl L xs k)) : wpL_cell post L xs () (nI k) := by
  unfold sq_cl at h
  by_cases z : k < L
  · rw [if_pos z] at h
    refine br_f (nI_ge (b := L) z (by omega)) ⟨vp_in_nI z (by omega), ?_⟩
    rw [nI_clamp hk]
    exact h
  · rw [if_neg z] at h
    exact br_t (nI_le (a := L) (by omega) hk) h
def sq_ps (x : Int32) : Nat := x.toBitVec.toNat % 2 ^ 31
theorem sq_pos (x : Int32) : x &&& 2147483647 = nI (sq_ps x) := pk_and x 31 (by decide)
theorem sq_ps_lt (x : Int32) : sq_ps x < 2 ^ 31 := Nat.mod_lt _ (by decide)
def sq_len (L : Nat) (xs : ke_F) (c : Nat) : Nat := 1 + sq_ps (sq_cl L xs (3 + c)) % 6
def sq_op (L : Nat) (xs : ke_F) (c i : Nat) : Nat := sq_ps (sq_cl L xs (8 + c * 18 + i * 3)) % 9
def sq_ra (L : Nat) (xs : ke_F) (c i : Nat) : Nat := (sq_cl L xs (8 + c * 18 + i * 3 + 1)).toBitVec.toNat % 2 ^ 2
def sq_bo (o : Nat) (x : Int32) : Int32 := if o = 0 then x &&& 63 else if o = 1 then x &&& 15 else if o = 2 then x &&& 15 else if o = 3 then x &&& 3 else if o = 5 then x &&& 3 else if o = 6 then x &&& 3 else if o = 4 then (x &&& 7) - 3 else if o = 7 then x &&& 255 else 1 + (x &&& 3)
def sq_rb (L : Nat) (xs : ke_F) (c i : Nat) : Int32 := sq_bo (sq_op L xs c i) (sq_cl L xs (8 + c * 18 + i * 3 + 2))
def sq_P (L : Nat) (xs : ke_F) (c i : Nat) : sq_N := (sq_op L xs c i, sq_ra L xs c i, sq_rb L xs c i)
theorem sq_len_le (L : Nat) (xs : ke_F) (c : Nat) : 1 ≤ sq_len L xs c ∧ sq_len L xs c ≤ 6 := by
  unfold sq_len
  have := Nat.mod_lt (sq_ps (sq_cl L xs (3 + c))) (show 0 < 6 by decide)
  omega
theorem sq_op_lt (L : Nat) (xs : ke_F) (c i : Nat) : sq_op L xs c i < 9 := Nat.mod_lt _ (by decide)
theorem sq_ra_lt (L : Nat) (xs : ke_F) (c i : Nat) : sq_ra L xs c i < 4 := Nat.mod_lt _ (by decide)
theorem sq_Len {post : Int32 → Prop} {L : Nat} {xs : ke_F} {c : Nat} (hL : L ≤ 260) (hc : c < 4) (h : post (nI (sq_len L xs c))) : wpL_len post L xs () (nI c) := by
  unfold wpL_len
  have e : (3 : Int32) + nI c = nI (3 + c) := nI_add 3 c
  rw [e]
  refine sq_cel hL (by omega) ⟨by decide, ?_⟩
  rw [sq_pos]
  have e2 : nI (sq_ps (sq_cl L xs (3 + c))) - nI (sq_ps (sq_cl L xs (3 + c))) / 6 * 6 = nI (sq_ps (sq_cl L xs (3 + c)) % 6) := pk_rem (d := 6) (sq_ps_lt _) (by decide) (by decide)
  rw [e2]
  have e3 : (1 : Int32) + nI (sq_ps (sq_cl L xs (3 + c)) % 6) = nI (sq_len L xs c) := nI_add 1 _
  rw [e3]
  exact h
theorem sq_bas (c i : Nat) : ((8 : Int32) + (nI c * 18)) + (nI i * 3) = nI (8 + c * 18 + i * 3) := by
  have e1 : nI c * 18 = nI (c * 18) := pk_mul c 18
  have e2 : nI i * 3 = nI (i * 3) := pk_mul i 3
  have e3 : (8 : Int32) + nI (c * 18) = nI (8 + c * 18) := nI_add 8 _
  rw [e1, e2, e3, nI_add]
theorem sq_Op {post : Int32 → Prop} {L : Nat} {xs : ke_F} {c i : Nat} (hL : L ≤ 260) (hc : c < 4) (hi : i < 16) (h : post (nI (sq_op L xs c i))) : wpL_op post L xs () (nI c) (nI i) := by
  unfold wpL_op wpL_base
  rw [sq_bas]
  refine sq_cel hL (by omega) ⟨by decide, ?_⟩
  rw [sq_pos]
  have e2 : nI (sq_ps (sq_cl L xs (8 + c * 18 + i * 3))) - nI (sq_ps (sq_cl L xs (8 + c * 18 + i * 3))) / 9 * 9 = nI (sq_ps (sq_cl L xs (8 + c * 18 + i * 3)) % 9) := pk_rem (d := 9) (sq_ps_lt _) (by decide) (by decide)
  rw [e2]
  exact h
theorem sq_Ra {post : Int32 → Prop} {L : Nat} {xs : ke_F} {c i : Nat} (hL : L ≤ 260) (hc : c < 4) (hi : i < 16) (h : post (nI (sq_ra L xs c i))) : wpL_ra post L xs () (nI c) (nI i) := by
  unfold wpL_ra wpL_base
  rw [sq_bas]
  dsimp only
  have e : nI (8 + c * 18 + i * 3) + 1 = nI (8 + c * 18 + i * 3 + 1) := nI_1 _
  rw [e]
  refine sq_cel hL (by omega) ?_
  rw [pk_and _ 2 (by decide)]
  exact h
theorem sq_Rb {post : Int32 → Prop} {L : Nat} {xs : ke_F} {c i : Nat} (hL : L ≤ 260) (hc : c < 4) (hi : i < 16) (h : post (sq_rb L xs c i)) : wpL_rb post L xs () (nI c) (nI i) := by
  unfold wpL_rb wpL_base
  rw [sq_bas]
  dsimp only
  have e : nI (8 + c * 18 + i * 3) + 2 = nI (8 + c * 18 + i * 3 + 2) := nI_add _ 2
  rw [e]
  refine sq_cel hL (by omega) ?_
  refine sq_Op hL hc hi ?_
  unfold sq_rb at h
  have ho := sq_op_lt L xs c i
  generalize sq_op L xs c i = o at h ho ⊢
  have hpp : o = 0 ∨ o = 1 ∨ o = 2 ∨ o = 3 ∨ o = 4 ∨ o = 5 ∨ o = 6 ∨ o = 7 ∨ o = 8 := by omega
  rcases hpp with rfl | rfl | rfl | rfl | rfl | rfl | rfl | rfl | rfl
  · exact br_t rfl h
  · exact br_f (by decide) (br_t rfl h)
  · exact br_f (by decide) (br_f (by decide) (br_t rfl h))
  · exact br_f (by decide) (br_f (by decide) (br_f (by decide) (br_t rfl h)))
  · exact br_f (by decide) (br_f (by decide) (br_f (by decide) (br_f (by decide) (br_f (by decide) (br_f (by decide) (br_t rfl h))))))
  · exact br_f (by decide) (br_f (by decide) (br_f (by decide) (br_f (by decide) (br_t rfl h))))
  · exact br_f (by decide) (br_f (by decide) (br_f (by decide) (br_f (by decide) (br_f (by decide) (br_t rfl h)))))
  · exact br_f (by decide) (br_f (by decide) (br_f (by decide) (br_f (by decide) (br_f (by decide) (br_f (by decide) (br_f (by decide) (br_t rfl h)))))))
  · exact br_f (by decide) (br_f (by decide) (br_f (by decide) (br_f (by decide) (br_f (by decide) (br_f (by decide) (br_f (by decide) (br_f (by decide) (h))))))))
theorem sq_POk (L : Nat) (xs : ke_F) (c i : Nat) : sq_Ok (sq_P L xs c i) := by
  refine ⟨sq_op_lt L xs c i, sq_ra_lt L xs c i, fun h => ?_, fun h => ?_, fun h => ?_⟩
  · show ∃ m, m < 64 ∧ sq_rb L xs c i = nI m
    unfold sq_rb
    have h : sq_op L xs c i = 1 ∨ sq_op L xs c i = 2 := h
    obtain ⟨m, hm, e⟩ := pk_andE (sq_cl L xs (8 + c * 18 + i * 3 + 2)) (m := 15) 4 (by decide)
    refine ⟨m, Nat.lt_trans hm (by decide), ?_⟩
    rcases h with h | h <;> rw [h] <;> exact e
  · show ∃ m, m < 4 ∧ sq_rb L xs c i = nI m
    unfold sq_rb
    have h : sq_op L xs c i = 3 ∨ sq_op L xs c i = 5 ∨ sq_op L xs c i = 6 := h
    obtain ⟨m, hm, e⟩ := pk_andE (sq_cl L xs (8 + c * 18 + i * 3 + 2)) (m := 3) 2 (by decide)
    refine ⟨m, hm, ?_⟩
    rcases h with h | h | h <;> rw [h] <;> exact e
  · show ∃ m, 1 ≤ m ∧ m ≤ 16 ∧ sq_rb L xs c i = nI m
    unfold sq_rb
    have h : sq_op L xs c i = 8 := h
    obtain ⟨m, hm, e⟩ := pk_andE (sq_cl L xs (8 + c * 18 + i * 3 + 2)) (m := 3) 2 (by decide)
    refine ⟨1 + m, by omega, by omega, ?_⟩
    rw [h]
    show (1 : Int32) + (sq_cl L xs (8 + c * 18 + i * 3 + 2) &&& 3) = nI (1 + m)
    rw [e]
    exact nI_add 1 m
theorem sq_Ok_ke {i : sq_N} (h : sq_Ok i) : ke_Ok (nI i.1) (nI i.2.1) i.2.2 := ⟨i.1, i.2.1, h.1, h.2.1, rfl, rfl, h.2.2.1, h.2.2.2.1, h.2.2.2.2⟩
section
variable {W S R O : Int32} {mem ops oa ob len st pc reg res fp bv yb hb att ca co cn : Nat → Int32} {c : Nat}
theorem ke_Xap {post : Int32 → St2 → Prop} {i : Nat} {o a b : Int32} (hc : c < 4) (hs : st c = 0) (hl : len c = nI i) (hi : i < 16) (hok : ke_Ok o a b) (hp : post (nI (i + 1)) (W, S, R, O, mem, upd ops (c * 16 + i) o, upd oa (c * 16 + i) a, upd ob (c * 16 + i) b, upd len c (nI (i + 1)), st, pc, reg, res, fp, bv, hb, att, ca, co, cn)) : wpX_append post (W, S, R, O, mem, ops, oa, ob, len, st, pc, reg, res, fp, bv, hb, att, ca, co, cn) (nI c) o a b := by
  unfold wpX_append
  refine ke_co1 hc ?_
  refine br_f (by decide) ⟨ke_i4 hc, ?_⟩
  refine br_t (by rw [ke_k4 hc]; exact hs) ⟨ke_i4 hc, ?_⟩
  refine nm_r (e' := nI i) (by rw [ke_k4 hc]; exact hl) ?_
  refine br_f (nI_ge (b := 16) hi (by decide)) ?_
  refine ke_Xii (fun _ => ?_) (fun h => absurd hok h)
  have hA : vp_in (nI (c * 16 + i)) 64 := vp_in_nI (by omega) (by omega)
  have eA : (nI (c * 16 + i)).toNatClampNeg = c * 16 + i := nI_clamp (by omega)
  refine br_f (by decide) (nm_r (e' := nI (c * 16 + i)) (ke_x16 c i) ?_)
  refine ⟨hA, nm_r (e' := upd ops (c * 16 + i) o) (by rw [eA]) ⟨hA, nm_r (e' := upd oa (c * 16 + i) a) (by rw [eA]) ⟨hA, nm_r (e' := upd ob (c * 16 + i) b) (by rw [eA]) ⟨ke_i4 hc, nm_r (e' := upd len c (nI (i + 1))) (by rw [ke_k4 hc, nI_1]) ?_⟩⟩⟩⟩
  rw [nI_1]
  exact hp
theorem ke_Xen {post : Int32 → St2 → Prop} (hc : c < 4) (hs : st c = 0) (h0 : post 0 (W, S, R, O, mem, ops, oa, ob, len, st, pc, reg, res, fp, bv, hb, att, ca, co, cn)) (h1 : post 1 (W, S, R, O, mem, ops, oa, ob, len, upd st c 1, upd pc c 0, ke_fill reg (c * 4) 4, res, fp, bv, hb, upd att c 0, upd ca c 0, upd co c 0, cn)) : wpX_enter post (W, S, R, O, mem, ops, oa, ob, len, st, pc, reg, res, fp, bv, hb, att, ca, co, cn) (nI c) := by
  unfold wpX_enter
  refine ke_co1 hc ?_
  refine br_f (by decide) ⟨ke_i4 hc, ?_⟩
  refine br_t (by rw [ke_k4 hc]; exact hs) ⟨ke_i4 hc, ?_⟩
  by_cases hl : len c = 0
  · exact br_t (by rw [ke_k4 hc]; exact hl) h0
  · refine br_f (by rw [ke_k4 hc]; exact hl) ⟨ke_i4 hc, nm_r (e' := upd st c 1) (by rw [ke_k4 hc]) ?_⟩
    refine ke_Xrs hc ?_
    exact ⟨ke_i4 hc, nm_r (e' := upd att c 0) (by rw [ke_k4 hc]) ⟨ke_i4 hc, nm_r (e' := upd ca c 0) (by rw [ke_k4 hc]) ⟨ke_i4 hc, nm_r (e' := upd co c 0) (by rw [ke_k4 hc]) h1⟩⟩⟩
theorem ke_Xpk {post : Int32 → St2 → Prop} {a : Nat} {v : Int32} (ha : a < 64) (h0 : (∃ d, 0 ≤ d ∧ d < 4 ∧ (st d = 2 ∨ st d = 4)) → post 0 (W, S, R, O, mem, ops, oa, ob, len, st, pc, reg, res, fp, bv, hb, att, ca, co, cn)) (h1 : (∀ d, 0 ≤ d → d < 4 → ¬ st d = 2 ∧ ¬ st d = 4) → post 1 (W, S, R, O, upd mem a v, ops, oa, ob, len, st, pc, reg, res, fp, bv, hb, att, ca, co, cn)) : wpX_poke post (W, S, R, O, mem, ops, oa, ob, len, st, pc, reg, res, fp, bv, hb, att, ca, co, cn) (nI a) v := by
  unfold wpX_poke
  refine ke_g3 63 ha ?_
  refine br_f (by decide) ⟨5, ?_⟩
  refine ke_Xru 4 0 rfl (fun h => ?_) (fun h => ?_)
  · exact br_f (by decide) (h0 h)
  · exact br_t rfl ⟨vp_in_nI ha (by decide), nm_r (e' := upd mem a v) (by rw [nI_clamp (by omega)]) (h1 h)⟩
theorem ke_Xpe {post : Int32 → Prop} {a : Nat} (ha : a < 64) (hp : post (mem a)) : wpX_peek post (W, S, R, O, mem, ops, oa, ob, len, st, pc, reg, res, fp, bv, hb, att, ca, co, cn) (nI a) := by
  unfold wpX_peek
  refine ke_g3 63 ha ?_
  refine br_f (by decide) ⟨vp_in_nI ha (by decide), ?_⟩
  rw [nI_clamp (by omega)]
  exact hp
theorem ke_Xsa {post : Int32 → Prop} (hc : c < 4) (hp : post (st c)) : wpX_state post (W, S, R, O, mem, ops, oa, ob, len, st, pc, reg, res, fp, bv, hb, att, ca, co, cn) (nI c) := by
  unfold wpX_state
  refine ke_co1 hc ?_
  refine br_f (by decide) ⟨ke_i4 hc, ?_⟩
  rw [ke_k4 hc]
  exact hp
theorem ke_Xre {post : Int32 → Prop} {k : Nat} (hc : c < 4) (hk : k < 4) (hp : post (res (c * 4 + k))) : wpX_result post (W, S, R, O, mem, ops, oa, ob, len, st, pc, reg, res, fp, bv, hb, att, ca, co, cn) (nI c) (nI k) := by
  unfold wpX_result
  refine ke_co1 hc ?_
  refine br_f (by decide) ?_
  refine ke_g3 3 hk ?_
  refine br_f (by decide) ⟨ke_v4 hc hk, ?_⟩
  rw [ke_c4 hc hk]
  exact hp
end
