section
/-! arrays built by loops: filled with zeros, copied, merged -/
def ke_fill (a : Nat → Int32) (b : Nat) : Nat → (Nat → Int32)
  | 0 => a
  | n + 1 => upd (ke_fill a b n) (b + n) 0
def ke_copy (d s : Nat → Int32) (b : Nat) : Nat → (Nat → Int32)
  | 0 => d
  | n + 1 => upd (ke_copy d s b n) (b + n) (s (b + n))
def ke_mrg (m has buf : Nat → Int32) (b : Nat) : Nat → (Nat → Int32)
  | 0 => m
  | n + 1 => if has (b + n) = 0 then ke_mrg m has buf b n else upd (ke_mrg m has buf b n) n (buf (b + n))
theorem ke_fill_or (a : Nat → Int32) (b : Nat) : ∀ n j, ke_fill a b n j = 0 ∨ ke_fill a b n j = a j := by
  intro n
  induction n with
  | zero => intro j; exact Or.inr rfl
  | succ n ih =>
    intro j
    by_cases h : j = b + n
    · subst h; exact Or.inl pk_us
    · have e : ke_fill a b (n + 1) j = ke_fill a b n j := pk_un h
      rw [e]; exact ih j
theorem ke_fill_agree {has bx yb : Nat → Int32} (h : ∀ j, ¬ has j = 0 → bx j = yb j) (b : Nat) : ∀ n j, ¬ ke_fill has b n j = 0 → bx j = ke_fill yb b n j := by
  intro n
  induction n with
  | zero => exact h
  | succ n ih =>
    intro j hj
    by_cases e : j = b + n
    · subst e; exact absurd pk_us hj
    · have e1 : ke_fill has b (n + 1) j = ke_fill has b n j := pk_un e
      have e2 : ke_fill yb b (n + 1) j = ke_fill yb b n j := pk_un e
      rw [e1] at hj; rw [e2]; exact ih j hj
theorem ke_mrg_agree {m has bx yb : Nat → Int32} (h : ∀ j, ¬ has j = 0 → bx j = yb j) (b : Nat) : ∀ n, ke_mrg m has bx b n = ke_mrg m has yb b n := by
  intro n
  induction n with
  | zero => rfl
  | succ n ih =>
    by_cases z : has (b + n) = 0
    · simp only [ke_mrg, if_pos z, ih]
    · simp only [ke_mrg, if_neg z, ih, h _ z]
theorem ke_upd_all {P : Int32 → Prop} {a : Nat → Int32} {k : Nat} {x : Int32} (h : ∀ j, P (a j)) (hx : P x) : ∀ j, P (upd a k x j) := by
  intro j
  by_cases e : j = k
  · subst e; rw [pk_us]; exact hx
  · rw [pk_un e]; exact h j
theorem ke_fill_all {P : Int32 → Prop} {a : Nat → Int32} (h : ∀ j, P (a j)) (h0 : P 0) (b n : Nat) : ∀ j, P (ke_fill a b n j) := by
  intro j
  cases ke_fill_or a b n j with
  | inl e => rw [e]; exact h0
  | inr e => rw [e]; exact h j
/-! one instruction that append took -/
def ke_Ok (o a b : Int32) : Prop := ∃ p q : Nat, p < 9 ∧ q < 4 ∧ o = nI p ∧ a = nI q ∧ ((p = 1 ∨ p = 2) → ∃ m, m < 64 ∧ b = nI m) ∧ ((p = 3 ∨ p = 5 ∨ p = 6) → ∃ m, m < 4 ∧ b = nI m) ∧ (p = 8 → ∃ m, 1 ≤ m ∧ m ≤ 16 ∧ b = nI m)
def ke_Pg (ops as bs len : Nat → Int32) : Prop := ∀ c, c < 4 → ∃ L, L ≤ 16 ∧ len c = nI L ∧ ∀ j, j < L → ke_Ok (ops (c * 16 + j)) (as (c * 16 + j)) (bs (c * 16 + j))
def ke_N (k : Nat) (a : Nat → Int32) : Prop := ∀ j, ∃ p, p ≤ k ∧ a j = nI p
theorem ke_N_upd {k : Nat} {a : Nat → Int32} {i p : Nat} {x : Int32} (h : ke_N k a) (hp : p ≤ k) (hx : x = nI p) : ke_N k (upd a i x) := ke_upd_all (P := fun y => ∃ p, p ≤ k ∧ y = nI p) h ⟨p, hp, hx⟩
theorem ke_N_fill {k : Nat} {a : Nat → Int32} (h : ke_N k a) (b n : Nat) : ke_N k (ke_fill a b n) := ke_fill_all (P := fun y => ∃ p, p ≤ k ∧ y = nI p) h ⟨0, Nat.zero_le _, nI_0.symm⟩ b n
theorem ke_N_0 (k : Nat) : ke_N k (fun _ => 0) := fun _ => ⟨0, Nat.zero_le _, nI_0.symm⟩
theorem ke_Pg_0 (o a b : Nat → Int32) : ke_Pg o a b (fun _ => 0) := fun _ _ => ⟨0, Nat.zero_le _, nI_0.symm, fun _ h => absurd h (Nat.not_lt_zero _)⟩
theorem ke_Pg_clear {ops as bs len : Nat → Int32} (h : ke_Pg ops as bs len) (c : Nat) : ke_Pg ops as bs (upd len c 0) := by
  intro d hd
  by_cases e : d = c
  · subst e; exact ⟨0, Nat.zero_le _, by rw [pk_us, nI_0], fun _ h => absurd h (Nat.not_lt_zero _)⟩
  · obtain ⟨L, hL, e1, h1⟩ := h d hd
    exact ⟨L, hL, by rw [pk_un e]; exact e1, h1⟩
theorem ke_Pg_app {ops as bs len : Nat → Int32} (h : ke_Pg ops as bs len) {c L : Nat} {o a b : Int32} (hc : c < 4) (hL : L < 16) (eL : len c = nI L) (hok : ke_Ok o a b) : ke_Pg (upd ops (c * 16 + L) o) (upd as (c * 16 + L) a) (upd bs (c * 16 + L) b) (upd len c (nI (L + 1))) := by
  intro d hd
  obtain ⟨M, hM, e1, h1⟩ := h d hd
  by_cases e : d = c
  · subst e
    have eq : M = L := (nI_eq (by omega) (by omega)).mp (e1.symm.trans eL)
    subst eq
    refine ⟨M + 1, by omega, pk_us, fun j hj => ?_⟩
    by_cases ej : j = M
    · subst ej; rw [pk_us, pk_us, pk_us]; exact hok
    · have hn : d * 16 + j ≠ d * 16 + M := by omega
      rw [pk_un hn, pk_un hn, pk_un hn]; exact h1 j (by omega)
  · refine ⟨M, hM, by rw [pk_un e]; exact e1, fun j hj => ?_⟩
    have hn : d * 16 + j ≠ c * 16 + L := by omega
    rw [pk_un hn, pk_un hn, pk_un hn]; exact h1 j hj
theorem ke_b_1 : vp_nar .boolean 1 = 1 := by decide
theorem ke_b_0 : vp_nar .boolean 0 = 0 := by decide
/-! the set of a line, the lines held -/
def ke_set (d l : Nat) : Nat := if l = 16 then 0 else l % d
def ke_cnt (fp : Nat → Int32) (d s b : Nat) : Nat → Nat
  | 0 => 0
  | n + 1 => if ¬ fp (b + n) = 0 ∧ ke_set d n = s then ke_cnt fp d s b n + 1 else ke_cnt fp d s b n
theorem ke_cnt_le (fp : Nat → Int32) (d s b : Nat) : ∀ n, ke_cnt fp d s b n ≤ n := by
  intro n
  induction n with
  | zero => exact Nat.le_refl 0
  | succ n ih =>
    unfold ke_cnt
    split <;> omega
theorem ke_set_lt {d l : Nat} (h0 : 0 < d) : ke_set d l < d := by
  unfold ke_set
  split
  · exact h0
  · exact Nat.mod_lt _ h0

/-! what an abort changes: states, pcs, registers, footprints, has, attempts, causes, codes, counters, and the buffer that the reference empties -/
abbrev ke_F : Type := Nat → Int32
abbrev ke_T : Type := ke_F × ke_F × ke_F × ke_F × ke_F × ke_F × ke_F × ke_F × ke_F × ke_F
def ke_as (R cause a : Int32) : Int32 := if cause = 2 ∨ cause = 3 ∨ ¬ a ≤ R then 3 else 1
def ke_ab (R : Int32) (c : Nat) (cause code : Int32) (t : ke_T) : ke_T :=
  (upd t.1 c (ke_as R cause (t.2.2.2.2.2.1 c + 1)), upd t.2.1 c 0, ke_fill t.2.2.1 (c * 4) 4, ke_fill t.2.2.2.1 (c * 17) 17, ke_fill t.2.2.2.2.1 (c * 64) 64, upd t.2.2.2.2.2.1 c (t.2.2.2.2.2.1 c + 1), upd t.2.2.2.2.2.2.1 c cause, upd t.2.2.2.2.2.2.2.1 c code, upd t.2.2.2.2.2.2.2.2.1 (c * 3 + 2) (t.2.2.2.2.2.2.2.2.1 (c * 3 + 2) + 1), ke_fill t.2.2.2.2.2.2.2.2.2 (c * 64) 64)
def ke_acq (R : Int32) (t : ke_T) : Nat → ke_T
  | 0 => t
  | n + 1 => if (ke_acq R t n).1 n = 2 then ke_ab R n 4 0 (ke_acq R t n) else ke_acq R t n
def ke_con (R : Int32) (l : Nat) (f : Int32) (c : Nat) (t : ke_T) : Nat → ke_T
  | 0 => t
  | n + 1 => if ¬ n = c ∧ (ke_con R l f c t n).1 n = 2 ∧ ¬ (ke_con R l f c t n).2.2.2.1 (n * 17 + l) &&& f = 0 then ke_ab R n 1 0 (ke_con R l f c t n) else ke_con R l f c t n
def ke_I (bx : ke_F) (t : ke_T) : Prop := ke_N 4 t.1 ∧ ke_N 16 t.2.1 ∧ ke_N 3 t.2.2.2.1 ∧ ∀ j, ¬ t.2.2.2.2.1 j = 0 → bx j = t.2.2.2.2.2.2.2.2.2 j
theorem ke_as_N (R cause a : Int32) : ∃ p, p ≤ 4 ∧ ke_as R cause a = nI p := by
  unfold ke_as
  split
  · exact ⟨3, by omega, rfl⟩
  · exact ⟨1, by omega, rfl⟩
theorem ke_ab_I {bx : ke_F} {t : ke_T} (h : ke_I bx t) (R : Int32) (c : Nat) (cause code : Int32) : ke_I bx (ke_ab R c cause code t) := by
  obtain ⟨h1, h2, h3, h4⟩ := h
  obtain ⟨p, hp, ep⟩ := ke_as_N R cause (t.2.2.2.2.2.1 c + 1)
  exact ⟨ke_N_upd h1 hp ep, ke_N_upd h2 (Nat.zero_le _) nI_0.symm, ke_N_fill h3 _ _, ke_fill_agree h4 _ _⟩
theorem ke_acq_I {bx : ke_F} {t : ke_T} (h : ke_I bx t) (R : Int32) : ∀ n, ke_I bx (ke_acq R t n) := by
  intro n
  induction n with
  | zero => exact h
  | succ n ih =>
    unfold ke_acq
    split
    · exact ke_ab_I ih _ _ _ _
    · exact ih
theorem ke_con_I {bx : ke_F} {t : ke_T} (h : ke_I bx t) (R : Int32) (l : Nat) (f : Int32) (c : Nat) : ∀ n, ke_I bx (ke_con R l f c t n) := by
  intro n
  induction n with
  | zero => exact h
  | succ n ih =>
    unfold ke_con
    split
    · exact ke_ab_I ih _ _ _ _
    · exact ih
theorem ke_acq_st {t : ke_T} {c : Nat} (h : t.1 c = 3) (R : Int32) : ∀ n, (ke_acq R t n).1 c = 3 := by
  intro n
  induction n with
  | zero => exact h
  | succ n ih =>
    unfold ke_acq
    split
    · rename_i z
      have e : c ≠ n := by
        intro e; subst e; rw [ih] at z; exact absurd z (by decide)
      show upd _ n _ c = 3
      rw [pk_un e]; exact ih
    · exact ih
theorem ke_con_pc (R : Int32) (l : Nat) (f : Int32) (c : Nat) (t : ke_T) : ∀ n, (ke_con R l f c t n).2.1 c = t.2.1 c := by
  intro n
  induction n with
  | zero => rfl
  | succ n ih =>
    unfold ke_con
    split
    · rename_i z
      have e : c ≠ n := fun e => z.1 e.symm
      show upd _ n _ c = _
      rw [pk_un e]; exact ih
    · exact ih
/-! an instruction on the registers alone -/
def ke_xr (p q : Nat) (b : Int32) (c : Nat) (reg : ke_F) : ke_F :=
  if p = 0 then upd reg (c * 4 + q) b
  else if p = 3 then upd reg (c * 4 + q) (reg (c * 4 + q) + reg (c * 4 + b.toNatClampNeg))
  else if p = 4 then upd reg (c * 4 + q) (reg (c * 4 + q) + b)
  else reg
def ke_xp (p q : Nat) (b : Int32) (c L i : Nat) (reg : ke_F) : Nat :=
  if p = 8 ∧ ¬ reg (c * 4 + q) = 0 then (if L < i + b.toNatClampNeg then L else i + b.toNatClampNeg) else i + 1
/-! the address of an access -/
def ke_ad (p : Nat) (b : Int32) (c : Nat) (reg : ke_F) : Nat :=
  if p = 5 ∨ p = 6 then (reg (c * 4 + b.toNatClampNeg) &&& 63).toNatClampNeg else b.toNatClampNeg
theorem ke_and63 (x : Int32) : ∃ m, m < 64 ∧ x &&& 63 = nI m := pk_andE x 6 (by decide)
theorem ke_Ok1 {p q : Nat} {b : Int32} (h : ke_Ok (nI p) (nI q) b) (hp : p < 9) (h1 : p = 1 ∨ p = 2) : ∃ m, m < 64 ∧ b = nI m := by
  obtain ⟨p', q', a1, a2, e1, e2, a3, _⟩ := h
  have e : p = p' := (nI_eq (Nat.lt_trans hp (by decide)) (Nat.lt_trans a1 (by decide))).mp e1
  subst e
  exact a3 h1
theorem ke_Ok3 {p q : Nat} {b : Int32} (h : ke_Ok (nI p) (nI q) b) (hp : p < 9) (h1 : p = 3 ∨ p = 5 ∨ p = 6) : ∃ m, m < 4 ∧ b = nI m := by
  obtain ⟨p', q', a1, a2, e1, e2, _, a3, _⟩ := h
  have e : p = p' := (nI_eq (Nat.lt_trans hp (by decide)) (Nat.lt_trans a1 (by decide))).mp e1
  subst e
  exact a3 h1
theorem ke_Ok8 {p q : Nat} {b : Int32} (h : ke_Ok (nI p) (nI q) b) (hp : p < 9) (h1 : p = 8) : ∃ m, 1 ≤ m ∧ m ≤ 16 ∧ b = nI m := by
  obtain ⟨p', q', a1, a2, e1, e2, _, _, a3⟩ := h
  have e : p = p' := (nI_eq (Nat.lt_trans hp (by decide)) (Nat.lt_trans a1 (by decide))).mp e1
  subst e
  exact a3 h1
theorem ke_ad_lt {p q : Nat} {b : Int32} (c : Nat) (reg : ke_F) (h : ke_Ok (nI p) (nI q) b) (hp : p = 1 ∨ p = 2 ∨ p = 5 ∨ p = 6) : ke_ad p b c reg < 64 := by
  unfold ke_ad
  split
  · obtain ⟨m, hm, e⟩ := ke_and63 (reg (c * 4 + b.toNatClampNeg))
    rw [e, nI_clamp (by omega)]; exact hm
  · obtain ⟨m, hm, e⟩ := ke_Ok1 h (by omega) (by omega)
    rw [e, nI_clamp (by omega)]; exact hm
theorem ke_x3 (c i : Nat) : nI c * 3 + nI i = nI (c * 3 + i) := by rw [← nI_add, ← pk_mul]; rfl
theorem ke_c3 {c i : Nat} (hc : c < 4) (hi : i < 3) : (nI c * 3 + nI i).toNatClampNeg = c * 3 + i := by rw [ke_x3, nI_clamp (by omega)]
theorem ke_v3 {c i : Nat} (hc : c < 4) (hi : i < 3) : vp_in (nI c * 3 + nI i) 12 := by rw [ke_x3]; exact vp_in_nI (by omega) (by omega)
theorem ke_x4 (c i : Nat) : nI c * 4 + nI i = nI (c * 4 + i) := by rw [← nI_add, ← pk_mul]; rfl
theorem ke_c4 {c i : Nat} (hc : c < 4) (hi : i < 4) : (nI c * 4 + nI i).toNatClampNeg = c * 4 + i := by rw [ke_x4, nI_clamp (by omega)]
theorem ke_v4 {c i : Nat} (hc : c < 4) (hi : i < 4) : vp_in (nI c * 4 + nI i) 16 := by rw [ke_x4]; exact vp_in_nI (by omega) (by omega)
theorem ke_x16 (c i : Nat) : nI c * 16 + nI i = nI (c * 16 + i) := by rw [← nI_add, ← pk_mul]; rfl
theorem ke_c16 {c i : Nat} (hc : c < 4) (hi : i < 16) : (nI c * 16 + nI i).toNatClampNeg = c * 16 + i := by rw [ke_x16, nI_clamp (by omega)]
theorem ke_v16 {c i : Nat} (hc : c < 4) (hi : i < 16) : vp_in (nI c * 16 + nI i) 64 := by rw [ke_x16]; exact vp_in_nI (by omega) (by omega)
theorem ke_x17 (c i : Nat) : nI c * 17 + nI i = nI (c * 17 + i) := by rw [← nI_add, ← pk_mul]; rfl
theorem ke_c17 {c i : Nat} (hc : c < 4) (hi : i < 17) : (nI c * 17 + nI i).toNatClampNeg = c * 17 + i := by rw [ke_x17, nI_clamp (by omega)]
theorem ke_v17 {c i : Nat} (hc : c < 4) (hi : i < 17) : vp_in (nI c * 17 + nI i) 68 := by rw [ke_x17]; exact vp_in_nI (by omega) (by omega)
theorem ke_x64 (c i : Nat) : nI c * 64 + nI i = nI (c * 64 + i) := by rw [← nI_add, ← pk_mul]; rfl
theorem ke_c64 {c i : Nat} (hc : c < 4) (hi : i < 64) : (nI c * 64 + nI i).toNatClampNeg = c * 64 + i := by rw [ke_x64, nI_clamp (by omega)]
theorem ke_v64 {c i : Nat} (hc : c < 4) (hi : i < 64) : vp_in (nI c * 64 + nI i) 256 := by rw [ke_x64]; exact vp_in_nI (by omega) (by omega)
theorem ke_c3_0 {c : Nat} (hc : c < 4) : (nI c * 3 + 0).toNatClampNeg = c * 3 + 0 := ke_c3 (i := 0) hc (by decide)
theorem ke_c3_1 {c : Nat} (hc : c < 4) : (nI c * 3 + 1).toNatClampNeg = c * 3 + 1 := ke_c3 (i := 1) hc (by decide)
theorem ke_c3_2 {c : Nat} (hc : c < 4) : (nI c * 3 + 2).toNatClampNeg = c * 3 + 2 := ke_c3 (i := 2) hc (by decide)
theorem ke_c17_16 {c : Nat} (hc : c < 4) : (nI c * 17 + 16).toNatClampNeg = c * 17 + 16 := ke_c17 (i := 16) hc (by decide)
def ke_ov (W : Int32) (d : Nat) (fp : ke_F) (c l : Nat) : Prop := fp (c * 17 + l) = 0 ∧ ¬ nI (ke_cnt fp d (ke_set d l) (c * 17) 17) < W
end
section
/-! the walks of the class: each private method with a general post -/
section
variable {W S R O : Int32} {mem ops oa ob len st pc reg res fp bv yb hb att ca co cn : Nat → Int32} {c : Nat}
theorem ke_i4 {c : Nat} (hc : c < 4) : vp_in (nI c) 4 := vp_in_nI hc (by omega)
theorem ke_k4 {c : Nat} (hc : c < 4) : (nI c).toNatClampNeg = c := nI_clamp (by omega)
theorem ke_Xrs_l {post : St2 → Prop} (hc : c < 4) (hp : post (W, S, R, O, mem, ops, oa, ob, len, st, pc, ke_fill reg (c * 4) 4, res, fp, bv, hb, att, ca, co, cn)) : ∀ d i, i + d = 4 → wX_restartProgram_9 post (nI c) W S R O (d + 1) (nI i) mem ops oa ob len st pc (ke_fill reg (c * 4) i) res fp bv hb att ca co cn := by
  intro d
  induction d with
  | zero =>
    intro i hi
    have e : i = 4 := by omega
    subst e
    exact br_t (nI_le (Nat.le_refl 4) (by decide)) hp
  | succ d ih =>
    intro i hi
    refine br_f (nI_ge (b := 4) (by omega) (by decide)) ⟨ke_v4 hc (by omega), nm_r (e' := ke_fill reg (c * 4) (i + 1)) ?_ (nm_r (nI_1 i) ?_)⟩
    · rw [ke_c4 hc (by omega)]; rfl
    · exact ih (i + 1) (by omega)
theorem ke_Xrs {post : St2 → Prop} (hc : c < 4) (hp : post (W, S, R, O, mem, ops, oa, ob, len, st, upd pc c 0, ke_fill reg (c * 4) 4, res, fp, bv, hb, att, ca, co, cn)) : wpX_restartProgram post (W, S, R, O, mem, ops, oa, ob, len, st, pc, reg, res, fp, bv, hb, att, ca, co, cn) (nI c) := by
  refine ⟨ke_i4 hc, nm_r (e' := upd pc c 0) (by rw [ke_k4 hc]) ⟨5, ?_⟩⟩
  exact ke_Xrs_l hc hp 4 0 rfl
theorem ke_Xd28 {post : St2 → Prop} (hc : c < 4) (hp : post (W, S, R, O, mem, ops, oa, ob, len, st, pc, reg, res, fp, bv, ke_fill hb (c * 64) 64, att, ca, co, cn)) : ∀ d i, i + d = 64 → wX_dropSpeculation_28 post (nI c) W S R O (d + 1) (nI i) mem ops oa ob len st pc reg res fp bv (ke_fill hb (c * 64) i) att ca co cn := by
  intro d
  induction d with
  | zero =>
    intro i hi
    have e : i = 64 := by omega
    subst e
    exact br_t (nI_le (Nat.le_refl 64) (by decide)) hp
  | succ d ih =>
    intro i hi
    refine br_f (nI_ge (b := 64) (by omega) (by decide)) ⟨ke_v64 hc (by omega), nm_r (e' := ke_fill hb (c * 64) (i + 1)) ?_ (nm_r (nI_1 i) ?_)⟩
    · rw [ke_c64 hc (by omega)]; rfl
    · exact ih (i + 1) (by omega)
theorem ke_Xd2 {post : St2 → Prop} (hc : c < 4) (hp : post (W, S, R, O, mem, ops, oa, ob, len, st, pc, reg, res, ke_fill fp (c * 17) 17, bv, ke_fill hb (c * 64) 64, att, ca, co, cn)) : ∀ d i, i + d = 17 → wX_dropSpeculation_2 post (nI c) W S R O (d + 1) (nI i) mem ops oa ob len st pc reg res (ke_fill fp (c * 17) i) bv hb att ca co cn := by
  intro d
  induction d with
  | zero =>
    intro i hi
    have e : i = 17 := by omega
    subst e
    refine br_t (nI_le (Nat.le_refl 17) (by decide)) ⟨65, ?_⟩
    exact ke_Xd28 hc hp 64 0 rfl
  | succ d ih =>
    intro i hi
    refine br_f (nI_ge (b := 17) (by omega) (by decide)) ⟨ke_v17 hc (by omega), nm_r (e' := ke_fill fp (c * 17) (i + 1)) ?_ (nm_r (nI_1 i) ?_)⟩
    · rw [ke_c17 hc (by omega)]; rfl
    · exact ih (i + 1) (by omega)
theorem ke_Xdr {post : St2 → Prop} (hc : c < 4) (hp : post (W, S, R, O, mem, ops, oa, ob, len, st, pc, reg, res, ke_fill fp (c * 17) 17, bv, ke_fill hb (c * 64) 64, att, ca, co, cn)) : wpX_dropSpeculation post (W, S, R, O, mem, ops, oa, ob, len, st, pc, reg, res, fp, bv, hb, att, ca, co, cn) (nI c) := by
  refine ⟨18, ?_⟩
  exact ke_Xd2 hc hp 17 0 rfl
theorem ke_X88 {post : St2 → Prop} (hc : c < 4) (hp : post (W, S, R, O, mem, ops, oa, ob, len, upd st c 3, pc, reg, res, fp, bv, hb, att, ca, co, cn)) : wX_abort_83 post (nI c) W S R O mem ops oa ob len st pc reg res fp bv hb att ca co cn := by
  refine br_f (by decide) ⟨ke_i4 hc, nm_r (e' := upd st c 3) (by rw [ke_k4 hc]) hp⟩
theorem ke_X63 {post : St2 → Prop} (hc : c < 4) (hp : post (W, S, R, O, mem, ops, oa, ob, len, upd st c (if att c ≤ R then 1 else 3), pc, reg, res, fp, bv, hb, att, ca, co, cn)) : wX_abort_63 post (nI c) 0 W S R O mem ops oa ob len st pc reg res fp bv hb att ca co cn := by
  refine br_t rfl ⟨ke_i4 hc, ?_⟩
  by_cases h : att c ≤ R
  · rw [if_pos h] at hp
    exact br_t (by rw [ke_k4 hc]; exact h) (br_t rfl ⟨ke_i4 hc, nm_r (e' := upd st c 1) (by rw [ke_k4 hc]) hp⟩)
  · rw [if_neg h] at hp
    exact br_f (by rw [ke_k4 hc]; exact h) (ke_X88 hc hp)
theorem ke_Xab {post : St2 → Prop} {k z : Int32} (hc : c < 4) (hp : post (W, S, R, O, mem, ops, oa, ob, len, upd st c (ke_as R k (att c + 1)), upd pc c 0, ke_fill reg (c * 4) 4, res, ke_fill fp (c * 17) 17, bv, ke_fill hb (c * 64) 64, upd att c (att c + 1), upd ca c k, upd co c z, upd cn (c * 3 + 2) (cn (c * 3 + 2) + 1))) : wpX_abort post (W, S, R, O, mem, ops, oa, ob, len, st, pc, reg, res, fp, bv, hb, att, ca, co, cn) (nI c) k z := by
  unfold wpX_abort
  refine ke_Xdr hc ?_
  refine ke_Xrs hc ?_
  refine ⟨ke_i4 hc, ke_i4 hc, nm_r (e' := upd att c (att c + 1)) (by rw [ke_k4 hc]) ?_⟩
  refine ⟨ke_v3 (i := 2) hc (by decide), ke_v3 (i := 2) hc (by decide), nm_r (e' := upd cn (c * 3 + 2) (cn (c * 3 + 2) + 1)) (by rw [ke_c3_2 hc]) ?_⟩
  refine ⟨ke_i4 hc, nm_r (e' := upd ca c k) (by rw [ke_k4 hc]) ?_⟩
  refine ⟨ke_i4 hc, nm_r (e' := upd co c z) (by rw [ke_k4 hc]) ?_⟩
  by_cases h2 : k = 2
  · have e : ke_as R k (att c + 1) = 3 := if_pos (Or.inl h2)
    rw [e] at hp
    refine br_t h2 (br_f (by decide) ?_)
    exact ke_X88 hc hp
  · by_cases h3 : k = 3
    · have e : ke_as R k (att c + 1) = 3 := if_pos (Or.inr (Or.inl h3))
      rw [e] at hp
      refine br_f h2 (br_t h3 (br_f (by decide) ?_))
      exact ke_X88 hc hp
    · refine br_f h2 (br_f h3 (ke_X63 hc ?_))
      have e : ke_as R k (att c + 1) = if upd att c (att c + 1) c ≤ R then 1 else 3 := by
        rw [pk_us]
        unfold ke_as
        by_cases h : att c + 1 ≤ R
        · rw [if_pos h, if_neg (by intro x; rcases x with x | x | x; exact h2 x; exact h3 x; exact x h)]
        · rw [if_neg h, if_pos (Or.inr (Or.inr h))]
      rw [e] at hp
      exact hp
theorem ke_Xaq_l {post : Int32 → St2 → Prop} {t : ke_T} (hc : c < 4) (hp : post 3 (W, S, R, O, mem, ops, oa, ob, len, upd (ke_acq R t 4).1 c 4, upd (ke_acq R t 4).2.1 c 0, ke_fill (ke_acq R t 4).2.2.1 (c * 4) 4, res, (ke_acq R t 4).2.2.2.1, bv, (ke_acq R t 4).2.2.2.2.1, (ke_acq R t 4).2.2.2.2.2.1, (ke_acq R t 4).2.2.2.2.2.2.1, (ke_acq R t 4).2.2.2.2.2.2.2.1, (ke_acq R t 4).2.2.2.2.2.2.2.2.1)) : ∀ d i, i + d = 4 → wX_acquire_17 post (nI c) (d + 1) (nI i) W S R O mem ops oa ob len ((ke_acq R t i).1) ((ke_acq R t i).2.1) ((ke_acq R t i).2.2.1) res ((ke_acq R t i).2.2.2.1) bv ((ke_acq R t i).2.2.2.2.1) ((ke_acq R t i).2.2.2.2.2.1) ((ke_acq R t i).2.2.2.2.2.2.1) ((ke_acq R t i).2.2.2.2.2.2.2.1) ((ke_acq R t i).2.2.2.2.2.2.2.2.1) := by
  intro d
  induction d with
  | zero =>
    intro i hi
    have e : i = 4 := by omega
    subst e
    refine br_t (nI_le (Nat.le_refl 4) (by decide)) ⟨ke_i4 hc, nm_r (e' := upd (ke_acq R t 4).1 c 4) (by rw [ke_k4 hc]) ?_⟩
    exact ke_Xrs hc hp
  | succ d ih =>
    intro i hi
    have hi4 : i < 4 := by omega
    refine br_f (nI_ge (b := 4) (by omega) (by decide)) ⟨ke_i4 hi4, ?_⟩
    have h1 := ih (i + 1) (by omega)
    by_cases z : (ke_acq R t i).1 i = 2
    · have e : ke_acq R t (i + 1) = ke_ab R i 4 0 (ke_acq R t i) := if_pos z
      rw [e] at h1
      refine br_t (by rw [ke_k4 hi4]; exact z) (ke_Xab hi4 ?_)
      exact nm_r (nI_1 i) h1
    · have e : ke_acq R t (i + 1) = ke_acq R t i := if_neg z
      rw [e] at h1
      exact br_f (by rw [ke_k4 hi4]; exact z) (nm_r (nI_1 i) h1)
theorem ke_Xaq {post : Int32 → St2 → Prop} (hc : c < 4) (hO : O = -1) (hp : post 3 (W, S, R, nI c, mem, ops, oa, ob, len, upd (ke_acq R (st, pc, reg, fp, hb, att, ca, co, cn, yb) 4).1 c 4, upd (ke_acq R (st, pc, reg, fp, hb, att, ca, co, cn, yb) 4).2.1 c 0, ke_fill (ke_acq R (st, pc, reg, fp, hb, att, ca, co, cn, yb) 4).2.2.1 (c * 4) 4, res, (ke_acq R (st, pc, reg, fp, hb, att, ca, co, cn, yb) 4).2.2.2.1, bv, (ke_acq R (st, pc, reg, fp, hb, att, ca, co, cn, yb) 4).2.2.2.2.1, (ke_acq R (st, pc, reg, fp, hb, att, ca, co, cn, yb) 4).2.2.2.2.2.1, (ke_acq R (st, pc, reg, fp, hb, att, ca, co, cn, yb) 4).2.2.2.2.2.2.1, (ke_acq R (st, pc, reg, fp, hb, att, ca, co, cn, yb) 4).2.2.2.2.2.2.2.1, (ke_acq R (st, pc, reg, fp, hb, att, ca, co, cn, yb) 4).2.2.2.2.2.2.2.2.1)) : wpX_acquire post (W, S, R, O, mem, ops, oa, ob, len, st, pc, reg, res, fp, bv, hb, att, ca, co, cn) (nI c) := by
  refine br_t hO ⟨5, ?_⟩
  exact ke_Xaq_l (t := (st, pc, reg, fp, hb, att, ca, co, cn, yb)) hc hp 4 0 rfl
theorem ke_Xcm_l {post : St2 → Prop} {k : Nat} (hc : c < 4) (hk : k < 3) (hp : post (W, S, R, O, mem, ops, oa, ob, len, upd st c 0, pc, reg, ke_copy res reg (c * 4) 4, fp, bv, hb, att, ca, co, upd cn (c * 3 + k) (cn (c * 3 + k) + 1))) : ∀ d i, i + d = 4 → wX_complete_2 post (nI c) (nI k) W S R O (d + 1) (nI i) mem ops oa ob len st pc reg (ke_copy res reg (c * 4) i) fp bv hb att ca co cn := by
  intro d
  induction d with
  | zero =>
    intro i hi
    have e : i = 4 := by omega
    subst e
    refine br_t (nI_le (Nat.le_refl 4) (by decide)) ⟨ke_v3 hc hk, ke_v3 hc hk, nm_r (e' := upd cn (c * 3 + k) (cn (c * 3 + k) + 1)) (by rw [ke_c3 hc hk]) ⟨ke_i4 hc, nm_r (e' := upd st c 0) (by rw [ke_k4 hc]) hp⟩⟩
  | succ d ih =>
    intro i hi
    refine br_f (nI_ge (b := 4) (by omega) (by decide)) ⟨ke_v4 hc (by omega), ke_v4 hc (by omega), nm_r (e' := ke_copy res reg (c * 4) (i + 1)) ?_ (nm_r (nI_1 i) ?_)⟩
    · rw [ke_c4 hc (by omega)]; rfl
    · exact ih (i + 1) (by omega)
theorem ke_Xcm {post : St2 → Prop} {k : Nat} (hc : c < 4) (hk : k < 3) (hp : post (W, S, R, O, mem, ops, oa, ob, len, upd st c 0, pc, reg, ke_copy res reg (c * 4) 4, fp, bv, hb, att, ca, co, upd cn (c * 3 + k) (cn (c * 3 + k) + 1))) : wpX_complete post (W, S, R, O, mem, ops, oa, ob, len, st, pc, reg, res, fp, bv, hb, att, ca, co, cn) (nI c) (nI k) := by
  refine ⟨5, ?_⟩
  exact ke_Xcm_l hc hk hp 4 0 rfl
theorem ke_Xct_l {post : Int32 → St2 → Prop} (hc : c < 4) (hp : post 6 (W, S, R, O, ke_mrg mem hb bv (c * 64) 64, ops, oa, ob, len, upd st c 0, pc, reg, ke_copy res reg (c * 4) 4, ke_fill fp (c * 17) 17, bv, ke_fill hb (c * 64) 64, att, ca, co, upd cn (c * 3 + 0) (cn (c * 3 + 0) + 1))) : ∀ d i, i + d = 64 → wX_commit_2 post (nI c) W S R O (d + 1) (nI i) (ke_mrg mem hb bv (c * 64) i) ops oa ob len st pc reg res fp bv hb att ca co cn := by
  intro d
  induction d with
  | zero =>
    intro i hi
    have e : i = 64 := by omega
    subst e
    refine br_t (nI_le (Nat.le_refl 64) (by decide)) (ke_Xdr hc ?_)
    exact ke_Xcm (k := 0) hc (by decide) hp
  | succ d ih =>
    intro i hi
    refine br_f (nI_ge (b := 64) (by omega) (by decide)) ⟨ke_v64 hc (by omega), ?_⟩
    have h1 := ih (i + 1) (by omega)
    by_cases z : hb (c * 64 + i) = 0
    · have e : ke_mrg mem hb bv (c * 64) (i + 1) = ke_mrg mem hb bv (c * 64) i := if_pos z
      rw [e] at h1
      exact br_t (by rw [ke_c64 hc (by omega)]; exact z) (nm_r (nI_1 i) h1)
    · have e : ke_mrg mem hb bv (c * 64) (i + 1) = upd (ke_mrg mem hb bv (c * 64) i) i (bv (c * 64 + i)) := if_neg z
      rw [e] at h1
      exact br_f (by rw [ke_c64 hc (by omega)]; exact z) ⟨ke_v64 hc (by omega), vp_in_nI (by omega) (by omega), nm_r (e' := upd (ke_mrg mem hb bv (c * 64) i) i (bv (c * 64 + i))) (by rw [ke_c64 hc (by omega), nI_clamp (by omega)]) (nm_r (nI_1 i) h1)⟩
theorem ke_Xct {post : Int32 → St2 → Prop} (hc : c < 4) (hp : post 6 (W, S, R, O, ke_mrg mem hb bv (c * 64) 64, ops, oa, ob, len, upd st c 0, pc, reg, ke_copy res reg (c * 4) 4, ke_fill fp (c * 17) 17, bv, ke_fill hb (c * 64) 64, att, ca, co, upd cn (c * 3 + 0) (cn (c * 3 + 0) + 1))) : wpX_commit post (W, S, R, O, mem, ops, oa, ob, len, st, pc, reg, res, fp, bv, hb, att, ca, co, cn) (nI c) := by
  refine ⟨65, ?_⟩
  exact ke_Xct_l hc hp 64 0 rfl
theorem ke_Xrl {post : Int32 → St2 → Prop} (hc : c < 4) (hp : post 7 (W, S, R, -1, mem, ops, oa, ob, len, upd st c 0, pc, reg, ke_copy res reg (c * 4) 4, fp, bv, hb, att, ca, co, upd cn (c * 3 + 1) (cn (c * 3 + 1) + 1))) : wpX_release post (W, S, R, O, mem, ops, oa, ob, len, st, pc, reg, res, fp, bv, hb, att, ca, co, cn) (nI c) := by
  unfold wpX_release
  exact ke_Xcm (k := 1) hc (by decide) hp
theorem ke_Xbg {post : Int32 → St2 → Prop} (hc : c < 4) (hO : O = -1) (hp : post 2 (W, S, R, O, mem, ops, oa, ob, len, upd st c 2, upd pc c 0, ke_fill reg (c * 4) 4, res, upd (ke_fill fp (c * 17) 17) (c * 17 + 16) 1, bv, ke_fill hb (c * 64) 64, att, ca, co, cn)) : wpX_begin post (W, S, R, O, mem, ops, oa, ob, len, st, pc, reg, res, fp, bv, hb, att, ca, co, cn) (nI c) := by
  refine br_t hO ⟨ke_i4 hc, nm_r (e' := upd st c 2) (by rw [ke_k4 hc]) ?_⟩
  refine ke_Xrs hc ?_
  refine ke_Xdr hc ?_
  exact ⟨ke_v17 (i := 16) hc (by decide), nm_r (e' := upd (ke_fill fp (c * 17) 17) (c * 17 + 16) 1) (by rw [ke_c17_16 hc]) hp⟩
end
end
section
section
variable {W S R O : Int32} {mem ops oa ob len st pc reg res fp bv yb hb att ca co cn : Nat → Int32} {c : Nat}
theorem ke_X160 {post : St2 → Prop} {j L v : Nat} (hc : c < 4) (hL : len c = nI L) (hL16 : L ≤ 16) (hj : j ≤ 64) (hv : v = if L < j then L else j) (hp : post (W, S, R, O, mem, ops, oa, ob, len, st, upd pc c (nI v), reg, res, fp, bv, hb, att, ca, co, cn)) : wX_executeOnRegisters_160 post (nI c) (nI j) W S R O mem ops oa ob len st pc reg res fp bv hb att ca co cn := by
  refine ⟨ke_i4 hc, ?_⟩
  have hl : len (nI c).toNatClampNeg = nI L := by rw [ke_k4 hc]; exact hL
  by_cases h : L < j
  · rw [hv, if_pos h] at hp
    exact br_f (by rw [hl]; exact nI_ge h (by omega)) ⟨ke_i4 hc, ke_i4 hc, nm_r (e' := upd pc c (nI L)) (by rw [hl, ke_k4 hc]) hp⟩
  · rw [hv, if_neg h] at hp
    exact br_t (by rw [hl]; exact nI_le (by omega) (by omega)) ⟨ke_i4 hc, nm_r (e' := upd pc c (nI j)) (by rw [ke_k4 hc]) hp⟩
theorem ke_Xer {post : St2 → Prop} {a p q i L : Nat} {b : Int32} (hc : c < 4) (ha : a < 64) (ho : ops a = nI p) (eq : oa a = nI q) (eb : ob a = b) (hi : pc c = nI i) (hL : len c = nI L) (hL16 : L ≤ 16) (hiL : i < L) (hok : ke_Ok (nI p) (nI q) b) (hp9 : p < 9) (hq4 : q < 4) (hp : post (W, S, R, O, mem, ops, oa, ob, len, st, upd pc c (nI (ke_xp p q b c L i reg)), ke_xr p q b c reg, res, fp, bv, hb, att, ca, co, cn)) : wpX_executeOnRegisters post (W, S, R, O, mem, ops, oa, ob, len, st, pc, reg, res, fp, bv, hb, att, ca, co, cn) (nI c) (nI a) := by
  have eA : (nI a).toNatClampNeg = a := nI_clamp (by omega)
  have hA : vp_in (nI a) 64 := vp_in_nI ha (by omega)
  refine ⟨hA, nm_r (e' := nI c * 4 + nI q) (by rw [eA, eq]) ⟨hA, nm_r (e' := b) (by rw [eA, eb]) ⟨ke_i4 hc, nm_r (e' := nI (i + 1)) (by rw [ke_k4 hc, hi, nI_1]) ⟨hA, nm_r (e' := nI p) (by rw [eA, ho]) ?_⟩⟩⟩⟩
  have hx : p ≠ 8 → ke_xp p q b c L i reg = if L < i + 1 then L else i + 1 := by
    intro h
    unfold ke_xp
    rw [if_neg (fun z => h z.1), if_neg (by omega)]
  have hpp : p = 0 ∨ p = 1 ∨ p = 2 ∨ p = 3 ∨ p = 4 ∨ p = 5 ∨ p = 6 ∨ p = 7 ∨ p = 8 := by omega
  rcases hpp with rfl | rfl | rfl | rfl | rfl | rfl | rfl | rfl | rfl
  · exact br_f (by decide) (br_f (by decide) (br_t rfl (⟨ke_v4 hc hq4, nm_r (e' := upd reg (c * 4 + q) b) (by rw [ke_c4 hc hq4]) (ke_X160 hc hL hL16 (by omega) (hx (by decide)) hp)⟩)))
  · exact br_f (by decide) (br_f (by decide) (br_f (by decide) (br_t rfl (ke_X160 hc hL hL16 (by omega) (hx (by decide)) hp))))
  · exact br_f (by decide) (br_f (by decide) (br_f (by decide) (br_f (by decide) (br_t rfl (ke_X160 hc hL hL16 (by omega) (hx (by decide)) hp)))))
  · obtain ⟨m, hm, em⟩ := ke_Ok3 hok (by omega) (by omega)
    subst em
    exact br_f (by decide) (br_f (by decide) (br_f (by decide) (br_f (by decide) (br_f (by decide) (br_t rfl (⟨ke_v4 hc hq4, ke_v4 hc hm, ke_v4 hc hq4, nm_r (e' := upd reg (c * 4 + q) (reg (c * 4 + q) + reg (c * 4 + (nI m).toNatClampNeg))) (by rw [ke_c4 hc hq4, ke_c4 hc hm, nI_clamp (show m < 2 ^ 31 by omega)]) (ke_X160 hc hL hL16 (by omega) (hx (by decide)) hp)⟩))))))
  · exact br_f (by decide) (br_f (by decide) (br_f (by decide) (br_f (by decide) (br_f (by decide) (br_f (by decide) (br_t rfl (⟨ke_v4 hc hq4, ke_v4 hc hq4, nm_r (e' := upd reg (c * 4 + q) (reg (c * 4 + q) + b)) (by rw [ke_c4 hc hq4]) (ke_X160 hc hL hL16 (by omega) (hx (by decide)) hp)⟩)))))))
  · exact br_f (by decide) (br_f (by decide) (br_f (by decide) (br_f (by decide) (br_f (by decide) (br_f (by decide) (br_f (by decide) (br_t rfl (ke_X160 hc hL hL16 (by omega) (hx (by decide)) hp))))))))
  · exact br_f (by decide) (br_f (by decide) (br_f (by decide) (br_f (by decide) (br_f (by decide) (br_f (by decide) (br_f (by decide) (br_f (by decide) (br_t rfl (ke_X160 hc hL hL16 (by omega) (hx (by decide)) hp)))))))))
  · exact br_f (by decide) (br_f (by decide) (br_f (by decide) (br_f (by decide) (br_f (by decide) (br_f (by decide) (br_f (by decide) (br_f (by decide) (br_f (by decide) (br_t rfl (ke_X160 hc hL hL16 (by omega) (hx (by decide)) hp))))))))))
  · obtain ⟨m, hm1, hm, em⟩ := ke_Ok8 hok (by omega) rfl
    subst em
    have e : pc (nI c).toNatClampNeg + nI m = nI (i + m) := by rw [ke_k4 hc, hi, nI_add]
    by_cases z : reg (c * 4 + q) = 0
    · have hv : ke_xp 8 q (nI m) c L i reg = if L < i + 1 then L else i + 1 := by
        unfold ke_xp
        rw [if_neg (fun y => y.2 z), if_neg (by omega)]
      exact br_f (by decide) (br_f (by decide) (br_f (by decide) (br_f (by decide) (br_f (by decide) (br_f (by decide) (br_f (by decide) (br_f (by decide) (br_f (by decide) (br_f (by decide) (br_t rfl (⟨ke_v4 hc hq4, br_t (by rw [ke_c4 hc hq4]; exact z) (ke_X160 hc hL hL16 (by omega) hv hp)⟩)))))))))))
    · have hv : ke_xp 8 q (nI m) c L i reg = if L < i + m then L else i + m := by
        unfold ke_xp
        rw [if_pos ⟨rfl, z⟩, nI_clamp (show m < 2 ^ 31 by omega)]
      have h1 : wX_executeOnRegisters_155 post (nI c) (pc (nI c).toNatClampNeg + nI m) W S R O mem ops oa ob len st pc reg res fp bv hb att ca co cn := by
        rw [e]
        exact ke_X160 hc hL hL16 (by omega) hv hp
      exact br_f (by decide) (br_f (by decide) (br_f (by decide) (br_f (by decide) (br_f (by decide) (br_f (by decide) (br_f (by decide) (br_f (by decide) (br_f (by decide) (br_f (by decide) (br_t rfl (⟨ke_v4 hc hq4, br_f (by rw [ke_c4 hc hq4]; exact z) ⟨ke_i4 hc, h1⟩⟩)))))))))))
theorem ke_nn (x : Int32) : nI (x &&& 63).toNatClampNeg = x &&& 63 := by
  obtain ⟨m, hm, e⟩ := ke_and63 x
  rw [e, nI_clamp (by omega)]
theorem ke_Xad {post : Int32 → Prop} {a p q : Nat} {b : Int32} (hc : c < 4) (ha : a < 64) (ho : ops a = nI p) (eb : ob a = b) (hok : ke_Ok (nI p) (nI q) b) (hp9 : p = 1 ∨ p = 2 ∨ p = 5 ∨ p = 6) (hp : post (nI (ke_ad p b c reg))) : wpX_addressOf post (W, S, R, O, mem, ops, oa, ob, len, st, pc, reg, res, fp, bv, hb, att, ca, co, cn) (nI c) (nI a) := by
  have eA : (nI a).toNatClampNeg = a := nI_clamp (by omega)
  have hA : vp_in (nI a) 64 := vp_in_nI ha (by omega)
  refine ⟨hA, nm_r (e' := b) (by rw [eA, eb]) ⟨hA, ?_⟩⟩
  rcases hp9 with rfl | rfl | rfl | rfl
  · obtain ⟨m, hm, em⟩ := ke_Ok1 hok (by omega) (by omega)
    have e : nI (ke_ad 1 b c reg) = b := by
      unfold ke_ad; rw [if_neg (by omega), em, nI_clamp (by omega)]
    rw [e] at hp
    exact br_f (by rw [eA, ho]; decide) ⟨hA, br_f (by rw [eA, ho]; decide) (br_t rfl hp)⟩
  · obtain ⟨m, hm, em⟩ := ke_Ok1 hok (by omega) (by omega)
    have e : nI (ke_ad 2 b c reg) = b := by
      unfold ke_ad; rw [if_neg (by omega), em, nI_clamp (by omega)]
    rw [e] at hp
    exact br_f (by rw [eA, ho]; decide) ⟨hA, br_f (by rw [eA, ho]; decide) (br_t rfl hp)⟩
  · obtain ⟨m, hm, em⟩ := ke_Ok3 hok (by omega) (by omega)
    subst em
    have e : nI (ke_ad 5 (nI m) c reg) = reg (nI c * 4 + nI m).toNatClampNeg &&& 63 := by
      unfold ke_ad; rw [if_pos (by omega), ke_nn, ke_c4 hc hm, nI_clamp (show m < 2 ^ 31 by omega)]
    rw [e] at hp
    exact br_t (by rw [eA, ho]; rfl) (br_f (by decide) ⟨ke_v4 hc hm, hp⟩)
  · obtain ⟨m, hm, em⟩ := ke_Ok3 hok (by omega) (by omega)
    subst em
    have e : nI (ke_ad 6 (nI m) c reg) = reg (nI c * 4 + nI m).toNatClampNeg &&& 63 := by
      unfold ke_ad; rw [if_pos (by omega), ke_nn, ke_c4 hc hm, nI_clamp (show m < 2 ^ 31 by omega)]
    rw [e] at hp
    exact br_f (by rw [eA, ho]; decide) ⟨hA, br_t (by rw [eA, ho]; rfl) (br_f (by decide) ⟨ke_v4 hc hm, hp⟩)⟩
theorem ke_Xse {post : Int32 → Prop} {d l : Nat} (hS : S = nI d) (h1 : 1 ≤ d) (h4 : d ≤ 4) (hl : l < 17) (hp : post (nI (ke_set d l))) : wpX_setOf post (W, S, R, O, mem, ops, oa, ob, len, st, pc, reg, res, fp, bv, hb, att, ca, co, cn) (nI l) := by
  by_cases e : l = 16
  · subst e
    exact br_t rfl hp
  · have e2 : ke_set d l = l % d := if_neg e
    rw [e2] at hp
    subst hS
    refine br_f (fun z => e ((nI_eq (by omega) (by decide)).mp z)) ⟨nI_ne0 (by omega) (by omega), ?_⟩
    rw [pk_rem (by omega) (by omega) (by omega)]
    exact hp
theorem ke_Xov_l {post : Int32 → Prop} {d s : Nat} (hc : c < 4) (hS : S = nI d) (h1 : 1 ≤ d) (h4 : d ≤ 4) (hs : s < 4) (h0 : nI (ke_cnt fp d s (c * 17) 17) < W → post 0) (hq : ¬ nI (ke_cnt fp d s (c * 17) 17) < W → post 1) : ∀ e i, i + e = 17 → wX_overflows_28 post (nI c) (nI s) W S R O mem ops oa ob len st pc reg res fp bv hb att ca co cn (e + 1) (nI (ke_cnt fp d s (c * 17) i)) (nI i) := by
  intro e
  induction e with
  | zero =>
    intro i hi
    have e : i = 17 := by omega
    subst e
    exact br_t (nI_le (Nat.le_refl 17) (by decide)) (br_c h0 hq)
  | succ e ih =>
    intro i hi
    have hh := ih (i + 1) (by omega)
    refine br_f (nI_ge (b := 17) (by omega) (by decide)) (ke_Xse hS h1 h4 (by omega) ?_)
    have hsl : ke_set d i < 4 := Nat.lt_of_lt_of_le (ke_set_lt h1) h4
    by_cases e1 : ke_set d i = s
    · refine br_t (by rw [e1]) ⟨ke_v17 hc (by omega), ?_⟩
      by_cases z : fp (c * 17 + i) = 0
      · have e2 : ke_cnt fp d s (c * 17) (i + 1) = ke_cnt fp d s (c * 17) i := if_neg (fun y => y.1 z)
        rw [e2] at hh
        exact br_t (by rw [ke_c17 hc (by omega)]; exact z) (nm_r (nI_1 i) hh)
      · have e2 : ke_cnt fp d s (c * 17) (i + 1) = ke_cnt fp d s (c * 17) i + 1 := if_pos ⟨z, e1⟩
        rw [e2] at hh
        exact br_f (by rw [ke_c17 hc (by omega)]; exact z) (nm_r (nI_1 _) (nm_r (nI_1 i) hh))
    · have e2 : ke_cnt fp d s (c * 17) (i + 1) = ke_cnt fp d s (c * 17) i := if_neg (fun y => e1 y.2)
      rw [e2] at hh
      exact br_f (fun z => e1 ((nI_eq (by omega) (by omega)).mp z)) (nm_r (nI_1 i) hh)
theorem ke_Xov {post : Int32 → Prop} {d l : Nat} (hc : c < 4) (hS : S = nI d) (h1 : 1 ≤ d) (h4 : d ≤ 4) (hl : l < 17) (h0 : ¬ ke_ov W d fp c l → post 0) (hq : ke_ov W d fp c l → post 1) : wpX_overflows post (W, S, R, O, mem, ops, oa, ob, len, st, pc, reg, res, fp, bv, hb, att, ca, co, cn) (nI c) (nI l) := by
  refine ⟨ke_v17 hc hl, ?_⟩
  have hsl : ke_set d l < 4 := Nat.lt_of_lt_of_le (ke_set_lt h1) h4
  by_cases z : fp (c * 17 + l) = 0
  · refine br_t (by rw [ke_c17 hc hl]; exact z) (ke_Xse hS h1 h4 hl ⟨18, ?_⟩)
    exact ke_Xov_l hc hS h1 h4 hsl (fun y => h0 (fun x => x.2 y)) (fun y => hq ⟨z, y⟩) 17 0 rfl
  · exact br_f (by rw [ke_c17 hc hl]; exact z) (h0 (fun x => z x.1))
theorem ke_Xcf_l {post : St2 → Prop} {t : ke_T} {l : Nat} {f : Int32} (hc : c < 4) (hl : l < 17) (hp : post (W, S, R, O, mem, ops, oa, ob, len, (ke_con R l f c t 4).1, (ke_con R l f c t 4).2.1, (ke_con R l f c t 4).2.2.1, res, (ke_con R l f c t 4).2.2.2.1, bv, (ke_con R l f c t 4).2.2.2.2.1, (ke_con R l f c t 4).2.2.2.2.2.1, (ke_con R l f c t 4).2.2.2.2.2.2.1, (ke_con R l f c t 4).2.2.2.2.2.2.2.1, (ke_con R l f c t 4).2.2.2.2.2.2.2.2.1)) : ∀ d i, i + d = 4 → wX_abortConflicting_14 post (nI c) (nI l) f (d + 1) (nI i) W S R O mem ops oa ob len ((ke_con R l f c t i).1) ((ke_con R l f c t i).2.1) ((ke_con R l f c t i).2.2.1) res ((ke_con R l f c t i).2.2.2.1) bv ((ke_con R l f c t i).2.2.2.2.1) ((ke_con R l f c t i).2.2.2.2.2.1) ((ke_con R l f c t i).2.2.2.2.2.2.1) ((ke_con R l f c t i).2.2.2.2.2.2.2.1) ((ke_con R l f c t i).2.2.2.2.2.2.2.2.1) := by
  intro d
  induction d with
  | zero =>
    intro i hi
    have e : i = 4 := by omega
    subst e
    exact br_t (nI_le (Nat.le_refl 4) (by decide)) hp
  | succ d ih =>
    intro i hi
    have hi4 : i < 4 := by omega
    have h1 := ih (i + 1) (by omega)
    refine br_f (nI_ge (b := 4) (by omega) (by decide)) ?_
    by_cases e1 : i = c
    · have e : ke_con R l f c t (i + 1) = ke_con R l f c t i := if_neg (fun y => y.1 e1)
      rw [e] at h1
      exact br_t (by rw [e1]) (br_t rfl (nm_r (nI_1 i) h1))
    · refine br_f (fun z => e1 ((nI_eq (by omega) (by omega)).mp z)) ⟨ke_i4 hi4, ?_⟩
      by_cases z : (ke_con R l f c t i).1 i = 2
      · refine br_t (by rw [ke_k4 hi4]; exact z) (br_f (by decide) ⟨ke_v17 hi4 hl, ?_⟩)
        by_cases y : (ke_con R l f c t i).2.2.2.1 (i * 17 + l) &&& f = 0
        · have e : ke_con R l f c t (i + 1) = ke_con R l f c t i := if_neg (fun x => x.2.2 y)
          rw [e] at h1
          exact br_t (by rw [ke_c17 hi4 hl]; exact y) (nm_r (nI_1 i) h1)
        · have e : ke_con R l f c t (i + 1) = ke_ab R i 1 0 (ke_con R l f c t i) := if_pos ⟨e1, z, y⟩
          rw [e] at h1
          refine br_f (by rw [ke_c17 hi4 hl]; exact y) (ke_Xab hi4 ?_)
          exact nm_r (nI_1 i) h1
      · have e : ke_con R l f c t (i + 1) = ke_con R l f c t i := if_neg (fun x => z x.2.1)
        rw [e] at h1
        exact br_f (by rw [ke_k4 hi4]; exact z) (br_t rfl (nm_r (nI_1 i) h1))
theorem ke_Xcf2 {post : St2 → Prop} {l : Nat} (hc : c < 4) (hl : l < 17) (hp : post (W, S, R, O, mem, ops, oa, ob, len, (ke_con R l 2 c (st, pc, reg, fp, hb, att, ca, co, cn, yb) 4).1, (ke_con R l 2 c (st, pc, reg, fp, hb, att, ca, co, cn, yb) 4).2.1, (ke_con R l 2 c (st, pc, reg, fp, hb, att, ca, co, cn, yb) 4).2.2.1, res, (ke_con R l 2 c (st, pc, reg, fp, hb, att, ca, co, cn, yb) 4).2.2.2.1, bv, (ke_con R l 2 c (st, pc, reg, fp, hb, att, ca, co, cn, yb) 4).2.2.2.2.1, (ke_con R l 2 c (st, pc, reg, fp, hb, att, ca, co, cn, yb) 4).2.2.2.2.2.1, (ke_con R l 2 c (st, pc, reg, fp, hb, att, ca, co, cn, yb) 4).2.2.2.2.2.2.1, (ke_con R l 2 c (st, pc, reg, fp, hb, att, ca, co, cn, yb) 4).2.2.2.2.2.2.2.1, (ke_con R l 2 c (st, pc, reg, fp, hb, att, ca, co, cn, yb) 4).2.2.2.2.2.2.2.2.1)) : wpX_abortConflicting post (W, S, R, O, mem, ops, oa, ob, len, st, pc, reg, res, fp, bv, hb, att, ca, co, cn) (nI c) (nI l) 0 := by
  refine br_t rfl ⟨5, ?_⟩
  exact ke_Xcf_l (t := (st, pc, reg, fp, hb, att, ca, co, cn, yb)) hc hl hp 4 0 rfl
theorem ke_Xcf3 {post : St2 → Prop} {l : Nat} (hc : c < 4) (hl : l < 17) (hp : post (W, S, R, O, mem, ops, oa, ob, len, (ke_con R l 3 c (st, pc, reg, fp, hb, att, ca, co, cn, yb) 4).1, (ke_con R l 3 c (st, pc, reg, fp, hb, att, ca, co, cn, yb) 4).2.1, (ke_con R l 3 c (st, pc, reg, fp, hb, att, ca, co, cn, yb) 4).2.2.1, res, (ke_con R l 3 c (st, pc, reg, fp, hb, att, ca, co, cn, yb) 4).2.2.2.1, bv, (ke_con R l 3 c (st, pc, reg, fp, hb, att, ca, co, cn, yb) 4).2.2.2.2.1, (ke_con R l 3 c (st, pc, reg, fp, hb, att, ca, co, cn, yb) 4).2.2.2.2.2.1, (ke_con R l 3 c (st, pc, reg, fp, hb, att, ca, co, cn, yb) 4).2.2.2.2.2.2.1, (ke_con R l 3 c (st, pc, reg, fp, hb, att, ca, co, cn, yb) 4).2.2.2.2.2.2.2.1, (ke_con R l 3 c (st, pc, reg, fp, hb, att, ca, co, cn, yb) 4).2.2.2.2.2.2.2.2.1)) : wpX_abortConflicting post (W, S, R, O, mem, ops, oa, ob, len, st, pc, reg, res, fp, bv, hb, att, ca, co, cn) (nI c) (nI l) 1 := by
  refine br_f (by decide) ⟨5, ?_⟩
  exact ke_Xcf_l (t := (st, pc, reg, fp, hb, att, ca, co, cn, yb)) hc hl hp 4 0 rfl
end
end
section
section
variable {W S R O : Int32} {mem ops oa ob len st pc reg res fp bv yb hb att ca co cn : Nat → Int32} {c : Nat}
theorem ke_d4 {m : Nat} (hm : m < 64) : nI m / 4 = nI (m / 4) := pk_div (d := 4) (by omega) (by decide) (by decide)
theorem ke_n4 : ¬ (4 : Int32) = 0 := by decide
theorem ke_X65o {post : Int32 → St2 → Prop} {d m l : Nat} {z : Int32} {p q i L : Nat} {b : Int32} (hc : c < 4) (ho : ops (c * 16 + i) = nI p) (eq : oa (c * 16 + i) = nI q) (eb : ob (c * 16 + i) = b) (hi : pc c = nI i) (hL : len c = nI L) (hL16 : L ≤ 16) (hiL : i < L) (hok : ke_Ok (nI p) (nI q) b) (hp9 : p < 9) (hq4 : q < 4) (hpp : p = 1 ∨ p = 2 ∨ p = 5 ∨ p = 6) (hS : S = nI d) (h1 : 1 ≤ d) (h4 : d ≤ 4) (hm : m = ke_ad p b c reg) (hl : l = m / 4) (hov : ke_ov W d fp c l) (hp : post 5 (W, S, R, O, mem, ops, oa, ob, len, upd st c (ke_as R 2 (att c + 1)), upd pc c 0, ke_fill reg (c * 4) 4, res, ke_fill fp (c * 17) 17, bv, ke_fill hb (c * 64) 64, upd att c (att c + 1), upd ca c 2, upd co c 0, upd cn (c * 3 + 2) (cn (c * 3 + 2) + 1))) : wX_executeSpeculatively_65 post (nI c) (nI (c * 16 + i)) z W S R O mem ops oa ob len st pc reg res fp bv hb att ca co cn := by
  have hm64 : m < 64 := by rw [hm]; exact ke_ad_lt c reg hok hpp
  unfold wX_executeSpeculatively_65
  refine ke_Xad hc (by omega) ho eb hok hpp ?_
  rw [← hm]
  refine ⟨ke_n4, nm_r (e' := nI l) (by rw [ke_d4 hm64, hl]) ?_⟩
  refine ke_Xov hc hS h1 h4 (by omega) (fun h => absurd hov h) (fun _ => ?_)
  refine br_f (by decide) ?_
  exact ke_Xab hc hp
theorem ke_X65l {post : Int32 → St2 → Prop} {d m l : Nat} {p q i L : Nat} {b : Int32} (hc : c < 4) (ho : ops (c * 16 + i) = nI p) (eq : oa (c * 16 + i) = nI q) (eb : ob (c * 16 + i) = b) (hi : pc c = nI i) (hL : len c = nI L) (hL16 : L ≤ 16) (hiL : i < L) (hok : ke_Ok (nI p) (nI q) b) (hp9 : p < 9) (hq4 : q < 4) (hpp : p = 1 ∨ p = 5) (hS : S = nI d) (h1 : 1 ≤ d) (h4 : d ≤ 4) (hm : m = ke_ad p b c reg) (hl : l = m / 4) (hov : ¬ ke_ov W d fp c l) (hp : post 4 (W, S, R, O, mem, ops, oa, ob, len, (ke_con R l 2 c (st, pc, reg, fp, hb, att, ca, co, cn, yb) 4).1, upd (ke_con R l 2 c (st, pc, reg, fp, hb, att, ca, co, cn, yb) 4).2.1 c ((ke_con R l 2 c (st, pc, reg, fp, hb, att, ca, co, cn, yb) 4).2.1 c + 1), upd (ke_con R l 2 c (st, pc, reg, fp, hb, att, ca, co, cn, yb) 4).2.2.1 (c * 4 + q) (if (ke_con R l 2 c (st, pc, reg, fp, hb, att, ca, co, cn, yb) 4).2.2.2.2.1 (c * 64 + m) = 0 then mem m else bv (c * 64 + m)), res, upd (ke_con R l 2 c (st, pc, reg, fp, hb, att, ca, co, cn, yb) 4).2.2.2.1 (c * 17 + l) ((ke_con R l 2 c (st, pc, reg, fp, hb, att, ca, co, cn, yb) 4).2.2.2.1 (c * 17 + l) ||| 1), bv, (ke_con R l 2 c (st, pc, reg, fp, hb, att, ca, co, cn, yb) 4).2.2.2.2.1, (ke_con R l 2 c (st, pc, reg, fp, hb, att, ca, co, cn, yb) 4).2.2.2.2.2.1, (ke_con R l 2 c (st, pc, reg, fp, hb, att, ca, co, cn, yb) 4).2.2.2.2.2.2.1, (ke_con R l 2 c (st, pc, reg, fp, hb, att, ca, co, cn, yb) 4).2.2.2.2.2.2.2.1, (ke_con R l 2 c (st, pc, reg, fp, hb, att, ca, co, cn, yb) 4).2.2.2.2.2.2.2.2.1)) : wX_executeSpeculatively_65 post (nI c) (nI (c * 16 + i)) 0 W S R O mem ops oa ob len st pc reg res fp bv hb att ca co cn := by
  have hm64 : m < 64 := by rw [hm]; exact ke_ad_lt c reg hok (by omega)
  have hA : vp_in (nI (c * 16 + i)) 64 := vp_in_nI (by omega) (by omega)
  have eA : (nI (c * 16 + i)).toNatClampNeg = c * 16 + i := nI_clamp (by omega)
  have hl16 : l < 17 := by omega
  have hm6 : (nI m).toNatClampNeg = m := nI_clamp (by omega)
  unfold wX_executeSpeculatively_65
  refine ke_Xad hc (by omega) ho eb hok (by omega) ?_
  rw [← hm]
  refine ⟨ke_n4, nm_r (e' := nI l) (by rw [ke_d4 hm64, hl]) ?_⟩
  refine ke_Xov hc hS h1 h4 hl16 (fun _ => ?_) (fun h => absurd h hov)
  refine br_t rfl ?_
  refine ke_Xcf2 (yb := yb) hc hl16 ?_
  generalize ke_con R l 2 c (st, pc, reg, fp, hb, att, ca, co, cn, yb) 4 = u at hp ⊢
  refine ⟨hA, nm_r (e' := nI c * 4 + nI q) (by rw [eA, eq]) (nm_r (e' := nI c * 64 + nI m) rfl ?_)⟩
  refine br_t rfl ⟨ke_v17 hc hl16, ke_v17 hc hl16, nm_r (e' := upd u.2.2.2.1 (c * 17 + l) (u.2.2.2.1 (c * 17 + l) ||| 1)) (by rw [ke_c17 hc hl16]) ⟨ke_v64 hc hm64, ?_⟩⟩
  by_cases z : u.2.2.2.2.1 (c * 64 + m) = 0
  · rw [if_pos z] at hp
    refine br_t (by rw [ke_c64 hc hm64]; exact z) ⟨vp_in_nI hm64 (by omega), ?_⟩
    rw [hm6]
    exact ⟨ke_v4 hc hq4, nm_r (e' := upd u.2.2.1 (c * 4 + q) (mem m)) (by rw [ke_c4 hc hq4]) ⟨ke_i4 hc, ke_i4 hc, nm_r (e' := upd u.2.1 c (u.2.1 c + 1)) (by rw [ke_k4 hc]) hp⟩⟩
  · rw [if_neg z] at hp
    refine br_f (by rw [ke_c64 hc hm64]; exact z) ⟨ke_v64 hc hm64, ?_⟩
    rw [ke_c64 hc hm64]
    exact ⟨ke_v4 hc hq4, nm_r (e' := upd u.2.2.1 (c * 4 + q) (bv (c * 64 + m))) (by rw [ke_c4 hc hq4]) ⟨ke_i4 hc, ke_i4 hc, nm_r (e' := upd u.2.1 c (u.2.1 c + 1)) (by rw [ke_k4 hc]) hp⟩⟩
theorem ke_X65s {post : Int32 → St2 → Prop} {d m l : Nat} {p q i L : Nat} {b : Int32} (hc : c < 4) (ho : ops (c * 16 + i) = nI p) (eq : oa (c * 16 + i) = nI q) (eb : ob (c * 16 + i) = b) (hi : pc c = nI i) (hL : len c = nI L) (hL16 : L ≤ 16) (hiL : i < L) (hok : ke_Ok (nI p) (nI q) b) (hp9 : p < 9) (hq4 : q < 4) (hpp : p = 2 ∨ p = 6) (hS : S = nI d) (h1 : 1 ≤ d) (h4 : d ≤ 4) (hm : m = ke_ad p b c reg) (hl : l = m / 4) (hov : ¬ ke_ov W d fp c l) (hp : post 4 (W, S, R, O, mem, ops, oa, ob, len, (ke_con R l 3 c (st, pc, reg, fp, hb, att, ca, co, cn, yb) 4).1, upd (ke_con R l 3 c (st, pc, reg, fp, hb, att, ca, co, cn, yb) 4).2.1 c ((ke_con R l 3 c (st, pc, reg, fp, hb, att, ca, co, cn, yb) 4).2.1 c + 1), (ke_con R l 3 c (st, pc, reg, fp, hb, att, ca, co, cn, yb) 4).2.2.1, res, upd (ke_con R l 3 c (st, pc, reg, fp, hb, att, ca, co, cn, yb) 4).2.2.2.1 (c * 17 + l) ((ke_con R l 3 c (st, pc, reg, fp, hb, att, ca, co, cn, yb) 4).2.2.2.1 (c * 17 + l) ||| 2), upd bv (c * 64 + m) ((ke_con R l 3 c (st, pc, reg, fp, hb, att, ca, co, cn, yb) 4).2.2.1 (c * 4 + q)), upd (ke_con R l 3 c (st, pc, reg, fp, hb, att, ca, co, cn, yb) 4).2.2.2.2.1 (c * 64 + m) 1, (ke_con R l 3 c (st, pc, reg, fp, hb, att, ca, co, cn, yb) 4).2.2.2.2.2.1, (ke_con R l 3 c (st, pc, reg, fp, hb, att, ca, co, cn, yb) 4).2.2.2.2.2.2.1, (ke_con R l 3 c (st, pc, reg, fp, hb, att, ca, co, cn, yb) 4).2.2.2.2.2.2.2.1, (ke_con R l 3 c (st, pc, reg, fp, hb, att, ca, co, cn, yb) 4).2.2.2.2.2.2.2.2.1)) : wX_executeSpeculatively_65 post (nI c) (nI (c * 16 + i)) 1 W S R O mem ops oa ob len st pc reg res fp bv hb att ca co cn := by
  have hm64 : m < 64 := by rw [hm]; exact ke_ad_lt c reg hok (by omega)
  have hA : vp_in (nI (c * 16 + i)) 64 := vp_in_nI (by omega) (by omega)
  have eA : (nI (c * 16 + i)).toNatClampNeg = c * 16 + i := nI_clamp (by omega)
  have hl16 : l < 17 := by omega
  unfold wX_executeSpeculatively_65
  refine ke_Xad hc (by omega) ho eb hok (by omega) ?_
  rw [← hm]
  refine ⟨ke_n4, nm_r (e' := nI l) (by rw [ke_d4 hm64, hl]) ?_⟩
  refine ke_Xov hc hS h1 h4 hl16 (fun _ => ?_) (fun h => absurd h hov)
  refine br_t rfl ?_
  refine ke_Xcf3 (yb := yb) hc hl16 ?_
  generalize ke_con R l 3 c (st, pc, reg, fp, hb, att, ca, co, cn, yb) 4 = u at hp ⊢
  refine ⟨hA, nm_r (e' := nI c * 4 + nI q) (by rw [eA, eq]) (nm_r (e' := nI c * 64 + nI m) rfl ?_)⟩
  refine br_f (by decide) ⟨ke_v17 hc hl16, ke_v17 hc hl16, nm_r (e' := upd u.2.2.2.1 (c * 17 + l) (u.2.2.2.1 (c * 17 + l) ||| 2)) (by rw [ke_c17 hc hl16]) ?_⟩
  refine ⟨ke_v4 hc hq4, ke_v64 hc hm64, nm_r (e' := upd bv (c * 64 + m) (u.2.2.1 (c * 4 + q))) (by rw [ke_c64 hc hm64, ke_c4 hc hq4]) ?_⟩
  refine ⟨ke_v64 hc hm64, nm_r (e' := upd u.2.2.2.2.1 (c * 64 + m) 1) (by rw [ke_c64 hc hm64]) ?_⟩
  exact ⟨ke_i4 hc, ke_i4 hc, nm_r (e' := upd u.2.1 c (u.2.1 c + 1)) (by rw [ke_k4 hc]) hp⟩
theorem ke_is0 {post : Int32 → Prop} {p : Nat} (hp : p < 9) (h2 : ¬ (p = 2 ∨ p = 6)) (h : post 0) : wpX_isStore post () (nI p) :=
  br_f (fun z => h2 (Or.inl ((nI_eq (by omega) (by decide)).mp z))) (br_f (fun z => h2 (Or.inr ((nI_eq (by omega) (by decide)).mp z))) h)
theorem ke_is1 {post : Int32 → Prop} {p : Nat} (h2 : p = 2 ∨ p = 6) (h : post 1) : wpX_isStore post () (nI p) := by
  rcases h2 with rfl | rfl
  · exact br_t rfl h
  · exact br_f (by decide) (br_t rfl h)
theorem ke_il0 {post : Int32 → Prop} {p : Nat} (hp : p < 9) (h2 : ¬ (p = 1 ∨ p = 5)) (h : post 0) : wpX_isLoad post () (nI p) :=
  br_f (fun z => h2 (Or.inl ((nI_eq (by omega) (by decide)).mp z))) (br_f (fun z => h2 (Or.inr ((nI_eq (by omega) (by decide)).mp z))) h)
theorem ke_il1 {post : Int32 → Prop} {p : Nat} (h2 : p = 1 ∨ p = 5) (h : post 1) : wpX_isLoad post () (nI p) := by
  rcases h2 with rfl | rfl
  · exact br_t rfl h
  · exact br_f (by decide) (br_t rfl h)
theorem ke_Xs7 {post : Int32 → St2 → Prop} {p q i L : Nat} {b : Int32} (hc : c < 4) (ho : ops (c * 16 + i) = nI p) (eq : oa (c * 16 + i) = nI q) (eb : ob (c * 16 + i) = b) (hi : pc c = nI i) (hL : len c = nI L) (hL16 : L ≤ 16) (hiL : i < L) (hok : ke_Ok (nI p) (nI q) b) (hp9 : p < 9) (hq4 : q < 4) (hpp : p = 7) (hp : post 5 (W, S, R, O, mem, ops, oa, ob, len, upd st c (ke_as R 3 (att c + 1)), upd pc c 0, ke_fill reg (c * 4) 4, res, ke_fill fp (c * 17) 17, bv, ke_fill hb (c * 64) 64, upd att c (att c + 1), upd ca c 3, upd co c b, upd cn (c * 3 + 2) (cn (c * 3 + 2) + 1))) : wpX_executeSpeculatively post (W, S, R, O, mem, ops, oa, ob, len, st, pc, reg, res, fp, bv, hb, att, ca, co, cn) (nI c) := by
  have eA : (nI (c * 16 + i)).toNatClampNeg = c * 16 + i := nI_clamp (by omega)
  have hA : vp_in (nI (c * 16 + i)) 64 := vp_in_nI (by omega) (by omega)
  refine ⟨ke_i4 hc, nm_r (e' := nI (c * 16 + i)) (by rw [ke_k4 hc, hi, ke_x16]) ⟨hA, nm_r (e' := nI p) (by rw [eA, ho]) ?_⟩⟩
  subst hpp
  refine br_t rfl ⟨hA, ?_⟩
  rw [eA, eb]
  exact ke_Xab hc hp
theorem ke_Xsx {post : Int32 → St2 → Prop} {p q i L : Nat} {b : Int32} (hc : c < 4) (ho : ops (c * 16 + i) = nI p) (eq : oa (c * 16 + i) = nI q) (eb : ob (c * 16 + i) = b) (hi : pc c = nI i) (hL : len c = nI L) (hL16 : L ≤ 16) (hiL : i < L) (hok : ke_Ok (nI p) (nI q) b) (hp9 : p < 9) (hq4 : q < 4) (hpp : ¬ (p = 1 ∨ p = 2 ∨ p = 5 ∨ p = 6 ∨ p = 7)) (hp : post 4 (W, S, R, O, mem, ops, oa, ob, len, st, upd pc c (nI (ke_xp p q b c L i reg)), ke_xr p q b c reg, res, fp, bv, hb, att, ca, co, cn)) : wpX_executeSpeculatively post (W, S, R, O, mem, ops, oa, ob, len, st, pc, reg, res, fp, bv, hb, att, ca, co, cn) (nI c) := by
  have eA : (nI (c * 16 + i)).toNatClampNeg = c * 16 + i := nI_clamp (by omega)
  have hA : vp_in (nI (c * 16 + i)) 64 := vp_in_nI (by omega) (by omega)
  refine ⟨ke_i4 hc, nm_r (e' := nI (c * 16 + i)) (by rw [ke_k4 hc, hi, ke_x16]) ⟨hA, nm_r (e' := nI p) (by rw [eA, ho]) ?_⟩⟩
  refine br_f (fun z => hpp (by have := (nI_eq (a := p) (b := 7) (by omega) (by decide)).mp z; omega)) (ke_is0 hp9 (by omega) ?_)
  refine br_t rfl (ke_il0 hp9 (by omega) ?_)
  refine br_t rfl ?_
  exact ke_Xer hc (by omega) ho eq eb hi hL hL16 hiL hok hp9 hq4 hp
theorem ke_Xsl {post : Int32 → St2 → Prop} {p q i L : Nat} {b : Int32} (hc : c < 4) (ho : ops (c * 16 + i) = nI p) (eq : oa (c * 16 + i) = nI q) (eb : ob (c * 16 + i) = b) (hi : pc c = nI i) (hL : len c = nI L) (hL16 : L ≤ 16) (hiL : i < L) (hok : ke_Ok (nI p) (nI q) b) (hp9 : p < 9) (hq4 : q < 4) (hpp : p = 1 ∨ p = 5) (h : wX_executeSpeculatively_65 post (nI c) (nI (c * 16 + i)) 0 W S R O mem ops oa ob len st pc reg res fp bv hb att ca co cn) : wpX_executeSpeculatively post (W, S, R, O, mem, ops, oa, ob, len, st, pc, reg, res, fp, bv, hb, att, ca, co, cn) (nI c) := by
  have eA : (nI (c * 16 + i)).toNatClampNeg = c * 16 + i := nI_clamp (by omega)
  have hA : vp_in (nI (c * 16 + i)) 64 := vp_in_nI (by omega) (by omega)
  refine ⟨ke_i4 hc, nm_r (e' := nI (c * 16 + i)) (by rw [ke_k4 hc, hi, ke_x16]) ⟨hA, nm_r (e' := nI p) (by rw [eA, ho]) ?_⟩⟩
  refine br_f (fun z => by have := (nI_eq (a := p) (b := 7) (by omega) (by decide)).mp z; omega) (ke_is0 hp9 (by omega) ?_)
  refine br_t rfl (ke_il1 hpp ?_)
  exact br_f (by decide) h
theorem ke_Xss {post : Int32 → St2 → Prop} {p q i L : Nat} {b : Int32} (hc : c < 4) (ho : ops (c * 16 + i) = nI p) (eq : oa (c * 16 + i) = nI q) (eb : ob (c * 16 + i) = b) (hi : pc c = nI i) (hL : len c = nI L) (hL16 : L ≤ 16) (hiL : i < L) (hok : ke_Ok (nI p) (nI q) b) (hp9 : p < 9) (hq4 : q < 4) (hpp : p = 2 ∨ p = 6) (h : wX_executeSpeculatively_65 post (nI c) (nI (c * 16 + i)) 1 W S R O mem ops oa ob len st pc reg res fp bv hb att ca co cn) : wpX_executeSpeculatively post (W, S, R, O, mem, ops, oa, ob, len, st, pc, reg, res, fp, bv, hb, att, ca, co, cn) (nI c) := by
  have eA : (nI (c * 16 + i)).toNatClampNeg = c * 16 + i := nI_clamp (by omega)
  have hA : vp_in (nI (c * 16 + i)) 64 := vp_in_nI (by omega) (by omega)
  refine ⟨ke_i4 hc, nm_r (e' := nI (c * 16 + i)) (by rw [ke_k4 hc, hi, ke_x16]) ⟨hA, nm_r (e' := nI p) (by rw [eA, ho]) ?_⟩⟩
  refine br_f (fun z => by have := (nI_eq (a := p) (b := 7) (by omega) (by decide)).mp z; omega) (ke_is1 hpp ?_)
  exact br_f (by decide) h
theorem ke_Xmx {post : Int32 → St2 → Prop} {p q i L : Nat} {b : Int32} (hc : c < 4) (ho : ops (c * 16 + i) = nI p) (eq : oa (c * 16 + i) = nI q) (eb : ob (c * 16 + i) = b) (hi : pc c = nI i) (hL : len c = nI L) (hL16 : L ≤ 16) (hiL : i < L) (hok : ke_Ok (nI p) (nI q) b) (hp9 : p < 9) (hq4 : q < 4) (hpp : ¬ (p = 1 ∨ p = 2 ∨ p = 5 ∨ p = 6)) (hp : post 4 (W, S, R, O, mem, ops, oa, ob, len, st, upd pc c (nI (ke_xp p q b c L i reg)), ke_xr p q b c reg, res, fp, bv, hb, att, ca, co, cn)) : wpX_executeOnMemory post (W, S, R, O, mem, ops, oa, ob, len, st, pc, reg, res, fp, bv, hb, att, ca, co, cn) (nI c) := by
  have eA : (nI (c * 16 + i)).toNatClampNeg = c * 16 + i := nI_clamp (by omega)
  have hA : vp_in (nI (c * 16 + i)) 64 := vp_in_nI (by omega) (by omega)
  refine ⟨ke_i4 hc, nm_r (e' := nI (c * 16 + i)) (by rw [ke_k4 hc, hi, ke_x16]) ⟨hA, ?_⟩⟩
  rw [eA, ho]
  refine ke_is0 hp9 (by omega) ?_
  refine br_t rfl ⟨hA, ke_il0 hp9 (by omega) ?_⟩
  refine br_t rfl ?_
  exact ke_Xer hc (by omega) ho eq eb hi hL hL16 hiL hok hp9 hq4 hp
theorem ke_Xml {post : Int32 → St2 → Prop} {p q i L : Nat} {b : Int32} (hc : c < 4) (ho : ops (c * 16 + i) = nI p) (eq : oa (c * 16 + i) = nI q) (eb : ob (c * 16 + i) = b) (hi : pc c = nI i) (hL : len c = nI L) (hL16 : L ≤ 16) (hiL : i < L) (hok : ke_Ok (nI p) (nI q) b) (hp9 : p < 9) (hq4 : q < 4) (hpp : p = 1 ∨ p = 5) (hp : post 4 (W, S, R, O, mem, ops, oa, ob, len, st, upd pc c (pc c + 1), upd reg (c * 4 + q) (mem (ke_ad p b c reg)), res, fp, bv, hb, att, ca, co, cn)) : wpX_executeOnMemory post (W, S, R, O, mem, ops, oa, ob, len, st, pc, reg, res, fp, bv, hb, att, ca, co, cn) (nI c) := by
  have eA : (nI (c * 16 + i)).toNatClampNeg = c * 16 + i := nI_clamp (by omega)
  have hA : vp_in (nI (c * 16 + i)) 64 := vp_in_nI (by omega) (by omega)
  have hm64 : ke_ad p b c reg < 64 := ke_ad_lt c reg hok (by omega)
  refine ⟨ke_i4 hc, nm_r (e' := nI (c * 16 + i)) (by rw [ke_k4 hc, hi, ke_x16]) ⟨hA, ?_⟩⟩
  rw [eA, ho]
  refine ke_is0 hp9 (by omega) ?_
  refine br_t rfl ⟨hA, ke_il1 hpp ?_⟩
  refine br_f (by decide) ?_
  unfold wX_executeOnMemory_46
  refine ke_Xad hc (by omega) ho eb hok (by omega) ?_
  refine ⟨hA, nm_r (e' := nI c * 4 + nI q) (by rw [eA, eq]) (br_t rfl ⟨vp_in_nI hm64 (by omega), ke_v4 hc hq4, nm_r (e' := upd reg (c * 4 + q) (mem (ke_ad p b c reg))) (by rw [ke_c4 hc hq4, nI_clamp (by omega)]) ?_⟩)⟩
  exact ⟨ke_i4 hc, ke_i4 hc, nm_r (e' := upd pc c (pc c + 1)) (by rw [ke_k4 hc]) hp⟩
theorem ke_Xms {post : Int32 → St2 → Prop} {p q i L : Nat} {b : Int32} (hc : c < 4) (ho : ops (c * 16 + i) = nI p) (eq : oa (c * 16 + i) = nI q) (eb : ob (c * 16 + i) = b) (hi : pc c = nI i) (hL : len c = nI L) (hL16 : L ≤ 16) (hiL : i < L) (hok : ke_Ok (nI p) (nI q) b) (hp9 : p < 9) (hq4 : q < 4) (hpp : p = 2 ∨ p = 6) (hp : post 4 (W, S, R, O, upd mem (ke_ad p b c reg) (reg (c * 4 + q)), ops, oa, ob, len, st, upd pc c (pc c + 1), reg, res, fp, bv, hb, att, ca, co, cn)) : wpX_executeOnMemory post (W, S, R, O, mem, ops, oa, ob, len, st, pc, reg, res, fp, bv, hb, att, ca, co, cn) (nI c) := by
  have eA : (nI (c * 16 + i)).toNatClampNeg = c * 16 + i := nI_clamp (by omega)
  have hA : vp_in (nI (c * 16 + i)) 64 := vp_in_nI (by omega) (by omega)
  have hm64 : ke_ad p b c reg < 64 := ke_ad_lt c reg hok (by omega)
  refine ⟨ke_i4 hc, nm_r (e' := nI (c * 16 + i)) (by rw [ke_k4 hc, hi, ke_x16]) ⟨hA, ?_⟩⟩
  rw [eA, ho]
  refine ke_is1 hpp ?_
  refine br_f (by decide) ?_
  unfold wX_executeOnMemory_46
  refine ke_Xad hc (by omega) ho eb hok (by omega) ?_
  refine ⟨hA, nm_r (e' := nI c * 4 + nI q) (by rw [eA, eq]) (br_f (by decide) ⟨ke_v4 hc hq4, vp_in_nI hm64 (by omega), nm_r (e' := upd mem (ke_ad p b c reg) (reg (c * 4 + q))) (by rw [ke_c4 hc hq4, nI_clamp (show ke_ad p b c reg < 2 ^ 31 by omega)]) ?_⟩)⟩
  exact ⟨ke_i4 hc, ke_i4 hc, nm_r (e' := upd pc c (pc c + 1)) (by rw [ke_k4 hc]) hp⟩
theorem ke_co1 {post : Int32 → Prop} (hc : c < 4) (h : post 1) : wpX_isCore post () (nI c) := br_f (nI_pos (by omega)) (br_f (nI_ge (b := 4) hc (by decide)) h)
theorem ke_Xst0 {post : Int32 → St2 → Prop} (hc : c < 4) (h0 : pc c < len c → wX_step_29 post (nI c) 0 W S R O mem ops oa ob len st pc reg res fp bv hb att ca co cn) (h1 : ¬ pc c < len c → wX_step_29 post (nI c) 1 W S R O mem ops oa ob len st pc reg res fp bv hb att ca co cn) : wpX_step post (W, S, R, O, mem, ops, oa, ob, len, st, pc, reg, res, fp, bv, hb, att, ca, co, cn) (nI c) := by
  unfold wpX_step
  refine ke_co1 hc ?_
  refine br_f (by decide) ⟨ke_i4 hc, ke_i4 hc, ?_⟩
  rw [ke_k4 hc]
  exact br_c h0 h1
theorem ke_T0 {post : Int32 → St2 → Prop} (hc : c < 4) (hs : st c = 0) (hp : post 0 (W, S, R, O, mem, ops, oa, ob, len, st, pc, reg, res, fp, bv, hb, att, ca, co, cn)) : wpX_step post (W, S, R, O, mem, ops, oa, ob, len, st, pc, reg, res, fp, bv, hb, att, ca, co, cn) (nI c) := by
  refine ke_Xst0 hc (fun _ => ?_) (fun _ => ?_)
  · exact ⟨ke_i4 hc, nm_r (e' := 0) (by rw [ke_k4 hc, hs]) (br_t (by decide) hp)⟩
  · exact ⟨ke_i4 hc, nm_r (e' := 0) (by rw [ke_k4 hc, hs]) (br_t (by decide) hp)⟩
theorem ke_T1 {post : Int32 → St2 → Prop} (hc : c < 4) (hs : st c = 1) (hO : O = -1) (hp : post 2 (W, S, R, O, mem, ops, oa, ob, len, upd st c 2, upd pc c 0, ke_fill reg (c * 4) 4, res, upd (ke_fill fp (c * 17) 17) (c * 17 + 16) 1, bv, ke_fill hb (c * 64) 64, att, ca, co, cn)) : wpX_step post (W, S, R, O, mem, ops, oa, ob, len, st, pc, reg, res, fp, bv, hb, att, ca, co, cn) (nI c) := by
  refine ke_Xst0 hc (fun _ => ?_) (fun _ => ?_)
  · exact ⟨ke_i4 hc, nm_r (e' := 1) (by rw [ke_k4 hc, hs]) (br_f (by decide) (br_f (by decide) (br_t rfl (ke_Xbg hc hO hp))))⟩
  · exact ⟨ke_i4 hc, nm_r (e' := 1) (by rw [ke_k4 hc, hs]) (br_f (by decide) (br_f (by decide) (br_t rfl (ke_Xbg hc hO hp))))⟩
theorem ke_T1b {post : Int32 → St2 → Prop} (hc : c < 4) (hs : st c = 1) (hO : ¬ O = -1) (hp : post 1 (W, S, R, O, mem, ops, oa, ob, len, st, pc, reg, res, fp, bv, hb, att, ca, co, cn)) : wpX_step post (W, S, R, O, mem, ops, oa, ob, len, st, pc, reg, res, fp, bv, hb, att, ca, co, cn) (nI c) := by
  refine ke_Xst0 hc (fun _ => ?_) (fun _ => ?_)
  · exact ⟨ke_i4 hc, nm_r (e' := 1) (by rw [ke_k4 hc, hs]) (br_f (by decide) (br_f (by decide) (br_t rfl (br_f hO hp))))⟩
  · exact ⟨ke_i4 hc, nm_r (e' := 1) (by rw [ke_k4 hc, hs]) (br_f (by decide) (br_f (by decide) (br_t rfl (br_f hO hp))))⟩
theorem ke_T3 {post : Int32 → St2 → Prop} (hc : c < 4) (hs : st c = 3) (hO : O = -1) (hp : post 3 (W, S, R, nI c, mem, ops, oa, ob, len, upd (ke_acq R (st, pc, reg, fp, hb, att, ca, co, cn, yb) 4).1 c 4, upd (ke_acq R (st, pc, reg, fp, hb, att, ca, co, cn, yb) 4).2.1 c 0, ke_fill (ke_acq R (st, pc, reg, fp, hb, att, ca, co, cn, yb) 4).2.2.1 (c * 4) 4, res, (ke_acq R (st, pc, reg, fp, hb, att, ca, co, cn, yb) 4).2.2.2.1, bv, (ke_acq R (st, pc, reg, fp, hb, att, ca, co, cn, yb) 4).2.2.2.2.1, (ke_acq R (st, pc, reg, fp, hb, att, ca, co, cn, yb) 4).2.2.2.2.2.1, (ke_acq R (st, pc, reg, fp, hb, att, ca, co, cn, yb) 4).2.2.2.2.2.2.1, (ke_acq R (st, pc, reg, fp, hb, att, ca, co, cn, yb) 4).2.2.2.2.2.2.2.1, (ke_acq R (st, pc, reg, fp, hb, att, ca, co, cn, yb) 4).2.2.2.2.2.2.2.2.1)) : wpX_step post (W, S, R, O, mem, ops, oa, ob, len, st, pc, reg, res, fp, bv, hb, att, ca, co, cn) (nI c) := by
  refine ke_Xst0 hc (fun _ => ?_) (fun _ => ?_)
  · exact ⟨ke_i4 hc, nm_r (e' := 3) (by rw [ke_k4 hc, hs]) (br_f (by decide) (br_f (by decide) (br_f (by decide) (br_f (by decide) (br_t rfl (ke_Xaq hc hO hp))))))⟩
  · exact ⟨ke_i4 hc, nm_r (e' := 3) (by rw [ke_k4 hc, hs]) (br_f (by decide) (br_f (by decide) (br_f (by decide) (br_f (by decide) (br_t rfl (ke_Xaq hc hO hp))))))⟩
theorem ke_T3b {post : Int32 → St2 → Prop} (hc : c < 4) (hs : st c = 3) (hO : ¬ O = -1) (hp : post 1 (W, S, R, O, mem, ops, oa, ob, len, st, pc, reg, res, fp, bv, hb, att, ca, co, cn)) : wpX_step post (W, S, R, O, mem, ops, oa, ob, len, st, pc, reg, res, fp, bv, hb, att, ca, co, cn) (nI c) := by
  refine ke_Xst0 hc (fun _ => ?_) (fun _ => ?_)
  · exact ⟨ke_i4 hc, nm_r (e' := 3) (by rw [ke_k4 hc, hs]) (br_f (by decide) (br_f (by decide) (br_f (by decide) (br_f (by decide) (br_t rfl (br_f hO hp))))))⟩
  · exact ⟨ke_i4 hc, nm_r (e' := 3) (by rw [ke_k4 hc, hs]) (br_f (by decide) (br_f (by decide) (br_f (by decide) (br_f (by decide) (br_t rfl (br_f hO hp))))))⟩
theorem ke_T2e {post : Int32 → St2 → Prop} (hc : c < 4) (hs : st c = 2) (hl : ¬ pc c < len c) (hp : post 6 (W, S, R, O, ke_mrg mem hb bv (c * 64) 64, ops, oa, ob, len, upd st c 0, pc, reg, ke_copy res reg (c * 4) 4, ke_fill fp (c * 17) 17, bv, ke_fill hb (c * 64) 64, att, ca, co, upd cn (c * 3 + 0) (cn (c * 3 + 0) + 1))) : wpX_step post (W, S, R, O, mem, ops, oa, ob, len, st, pc, reg, res, fp, bv, hb, att, ca, co, cn) (nI c) := by
  refine ke_Xst0 hc (fun h => absurd h hl) (fun _ => ?_)
  exact ⟨ke_i4 hc, nm_r (e' := 2) (by rw [ke_k4 hc, hs]) (br_f (by decide) (br_f (by decide) (br_f (by decide) (br_t rfl (br_f (by decide) (ke_Xct hc hp))))))⟩
theorem ke_T4e {post : Int32 → St2 → Prop} (hc : c < 4) (hs : st c = 4) (hl : ¬ pc c < len c) (hp : post 7 (W, S, R, -1, mem, ops, oa, ob, len, upd st c 0, pc, reg, ke_copy res reg (c * 4) 4, fp, bv, hb, att, ca, co, upd cn (c * 3 + 1) (cn (c * 3 + 1) + 1))) : wpX_step post (W, S, R, O, mem, ops, oa, ob, len, st, pc, reg, res, fp, bv, hb, att, ca, co, cn) (nI c) := by
  refine ke_Xst0 hc (fun h => absurd h hl) (fun _ => ?_)
  exact ⟨ke_i4 hc, nm_r (e' := 4) (by rw [ke_k4 hc, hs]) (br_f (by decide) (br_f (by decide) (br_f (by decide) (br_f (by decide) (br_f (by decide) (br_t rfl (br_f (by decide) (ke_Xrl hc hp))))))))⟩
theorem ke_T27 {post : Int32 → St2 → Prop} {p q i L : Nat} {b : Int32} (hc : c < 4) (ho : ops (c * 16 + i) = nI p) (eq : oa (c * 16 + i) = nI q) (eb : ob (c * 16 + i) = b) (hi : pc c = nI i) (hL : len c = nI L) (hL16 : L ≤ 16) (hiL : i < L) (hok : ke_Ok (nI p) (nI q) b) (hp9 : p < 9) (hq4 : q < 4) (hs : st c = 2) (hpp : p = 7) (hp : post 5 (W, S, R, O, mem, ops, oa, ob, len, upd st c (ke_as R 3 (att c + 1)), upd pc c 0, ke_fill reg (c * 4) 4, res, ke_fill fp (c * 17) 17, bv, ke_fill hb (c * 64) 64, upd att c (att c + 1), upd ca c 3, upd co c b, upd cn (c * 3 + 2) (cn (c * 3 + 2) + 1))) : wpX_step post (W, S, R, O, mem, ops, oa, ob, len, st, pc, reg, res, fp, bv, hb, att, ca, co, cn) (nI c) := by
  have hlt : pc c < len c := (by rw [hi, hL]; exact nI_lt hiL (by omega))
  refine ke_Xst0 hc (fun _ => ?_) (fun h => absurd hlt h)
  exact ⟨ke_i4 hc, nm_r (e' := 2) (by rw [ke_k4 hc, hs]) (br_f (by decide) (br_f (by decide) (br_f (by decide) (br_t rfl (br_t rfl (ke_Xs7 hc ho eq eb hi hL hL16 hiL hok hp9 hq4 hpp hp))))))⟩
theorem ke_T2x {post : Int32 → St2 → Prop} {p q i L : Nat} {b : Int32} (hc : c < 4) (ho : ops (c * 16 + i) = nI p) (eq : oa (c * 16 + i) = nI q) (eb : ob (c * 16 + i) = b) (hi : pc c = nI i) (hL : len c = nI L) (hL16 : L ≤ 16) (hiL : i < L) (hok : ke_Ok (nI p) (nI q) b) (hp9 : p < 9) (hq4 : q < 4) (hs : st c = 2) (hpp : ¬ (p = 1 ∨ p = 2 ∨ p = 5 ∨ p = 6 ∨ p = 7)) (hp : post 4 (W, S, R, O, mem, ops, oa, ob, len, st, upd pc c (nI (ke_xp p q b c L i reg)), ke_xr p q b c reg, res, fp, bv, hb, att, ca, co, cn)) : wpX_step post (W, S, R, O, mem, ops, oa, ob, len, st, pc, reg, res, fp, bv, hb, att, ca, co, cn) (nI c) := by
  have hlt : pc c < len c := (by rw [hi, hL]; exact nI_lt hiL (by omega))
  refine ke_Xst0 hc (fun _ => ?_) (fun h => absurd hlt h)
  exact ⟨ke_i4 hc, nm_r (e' := 2) (by rw [ke_k4 hc, hs]) (br_f (by decide) (br_f (by decide) (br_f (by decide) (br_t rfl (br_t rfl (ke_Xsx hc ho eq eb hi hL hL16 hiL hok hp9 hq4 hpp hp))))))⟩
theorem ke_T2ol {post : Int32 → St2 → Prop} {d m l : Nat} {p q i L : Nat} {b : Int32} (hc : c < 4) (ho : ops (c * 16 + i) = nI p) (eq : oa (c * 16 + i) = nI q) (eb : ob (c * 16 + i) = b) (hi : pc c = nI i) (hL : len c = nI L) (hL16 : L ≤ 16) (hiL : i < L) (hok : ke_Ok (nI p) (nI q) b) (hp9 : p < 9) (hq4 : q < 4) (hs : st c = 2) (hpp : p = 1 ∨ p = 5) (hS : S = nI d) (h1 : 1 ≤ d) (h4 : d ≤ 4) (hm : m = ke_ad p b c reg) (hl : l = m / 4) (hov : ke_ov W d fp c l) (hp : post 5 (W, S, R, O, mem, ops, oa, ob, len, upd st c (ke_as R 2 (att c + 1)), upd pc c 0, ke_fill reg (c * 4) 4, res, ke_fill fp (c * 17) 17, bv, ke_fill hb (c * 64) 64, upd att c (att c + 1), upd ca c 2, upd co c 0, upd cn (c * 3 + 2) (cn (c * 3 + 2) + 1))) : wpX_step post (W, S, R, O, mem, ops, oa, ob, len, st, pc, reg, res, fp, bv, hb, att, ca, co, cn) (nI c) := by
  have hlt : pc c < len c := (by rw [hi, hL]; exact nI_lt hiL (by omega))
  refine ke_Xst0 hc (fun _ => ?_) (fun h => absurd hlt h)
  exact ⟨ke_i4 hc, nm_r (e' := 2) (by rw [ke_k4 hc, hs]) (br_f (by decide) (br_f (by decide) (br_f (by decide) (br_t rfl (br_t rfl (ke_Xsl hc ho eq eb hi hL hL16 hiL hok hp9 hq4 hpp (ke_X65o hc ho eq eb hi hL hL16 hiL hok hp9 hq4 (by omega) hS h1 h4 hm hl hov hp)))))))⟩
theorem ke_T2os {post : Int32 → St2 → Prop} {d m l : Nat} {p q i L : Nat} {b : Int32} (hc : c < 4) (ho : ops (c * 16 + i) = nI p) (eq : oa (c * 16 + i) = nI q) (eb : ob (c * 16 + i) = b) (hi : pc c = nI i) (hL : len c = nI L) (hL16 : L ≤ 16) (hiL : i < L) (hok : ke_Ok (nI p) (nI q) b) (hp9 : p < 9) (hq4 : q < 4) (hs : st c = 2) (hpp : p = 2 ∨ p = 6) (hS : S = nI d) (h1 : 1 ≤ d) (h4 : d ≤ 4) (hm : m = ke_ad p b c reg) (hl : l = m / 4) (hov : ke_ov W d fp c l) (hp : post 5 (W, S, R, O, mem, ops, oa, ob, len, upd st c (ke_as R 2 (att c + 1)), upd pc c 0, ke_fill reg (c * 4) 4, res, ke_fill fp (c * 17) 17, bv, ke_fill hb (c * 64) 64, upd att c (att c + 1), upd ca c 2, upd co c 0, upd cn (c * 3 + 2) (cn (c * 3 + 2) + 1))) : wpX_step post (W, S, R, O, mem, ops, oa, ob, len, st, pc, reg, res, fp, bv, hb, att, ca, co, cn) (nI c) := by
  have hlt : pc c < len c := (by rw [hi, hL]; exact nI_lt hiL (by omega))
  refine ke_Xst0 hc (fun _ => ?_) (fun h => absurd hlt h)
  exact ⟨ke_i4 hc, nm_r (e' := 2) (by rw [ke_k4 hc, hs]) (br_f (by decide) (br_f (by decide) (br_f (by decide) (br_t rfl (br_t rfl (ke_Xss hc ho eq eb hi hL hL16 hiL hok hp9 hq4 hpp (ke_X65o hc ho eq eb hi hL hL16 hiL hok hp9 hq4 (by omega) hS h1 h4 hm hl hov hp)))))))⟩
theorem ke_T2l {post : Int32 → St2 → Prop} {d m l : Nat} {p q i L : Nat} {b : Int32} (hc : c < 4) (ho : ops (c * 16 + i) = nI p) (eq : oa (c * 16 + i) = nI q) (eb : ob (c * 16 + i) = b) (hi : pc c = nI i) (hL : len c = nI L) (hL16 : L ≤ 16) (hiL : i < L) (hok : ke_Ok (nI p) (nI q) b) (hp9 : p < 9) (hq4 : q < 4) (hs : st c = 2) (hpp : p = 1 ∨ p = 5) (hS : S = nI d) (h1 : 1 ≤ d) (h4 : d ≤ 4) (hm : m = ke_ad p b c reg) (hl : l = m / 4) (hov : ¬ ke_ov W d fp c l) (hp : post 4 (W, S, R, O, mem, ops, oa, ob, len, (ke_con R l 2 c (st, pc, reg, fp, hb, att, ca, co, cn, yb) 4).1, upd (ke_con R l 2 c (st, pc, reg, fp, hb, att, ca, co, cn, yb) 4).2.1 c ((ke_con R l 2 c (st, pc, reg, fp, hb, att, ca, co, cn, yb) 4).2.1 c + 1), upd (ke_con R l 2 c (st, pc, reg, fp, hb, att, ca, co, cn, yb) 4).2.2.1 (c * 4 + q) (if (ke_con R l 2 c (st, pc, reg, fp, hb, att, ca, co, cn, yb) 4).2.2.2.2.1 (c * 64 + m) = 0 then mem m else bv (c * 64 + m)), res, upd (ke_con R l 2 c (st, pc, reg, fp, hb, att, ca, co, cn, yb) 4).2.2.2.1 (c * 17 + l) ((ke_con R l 2 c (st, pc, reg, fp, hb, att, ca, co, cn, yb) 4).2.2.2.1 (c * 17 + l) ||| 1), bv, (ke_con R l 2 c (st, pc, reg, fp, hb, att, ca, co, cn, yb) 4).2.2.2.2.1, (ke_con R l 2 c (st, pc, reg, fp, hb, att, ca, co, cn, yb) 4).2.2.2.2.2.1, (ke_con R l 2 c (st, pc, reg, fp, hb, att, ca, co, cn, yb) 4).2.2.2.2.2.2.1, (ke_con R l 2 c (st, pc, reg, fp, hb, att, ca, co, cn, yb) 4).2.2.2.2.2.2.2.1, (ke_con R l 2 c (st, pc, reg, fp, hb, att, ca, co, cn, yb) 4).2.2.2.2.2.2.2.2.1)) : wpX_step post (W, S, R, O, mem, ops, oa, ob, len, st, pc, reg, res, fp, bv, hb, att, ca, co, cn) (nI c) := by
  have hlt : pc c < len c := (by rw [hi, hL]; exact nI_lt hiL (by omega))
  refine ke_Xst0 hc (fun _ => ?_) (fun h => absurd hlt h)
  exact ⟨ke_i4 hc, nm_r (e' := 2) (by rw [ke_k4 hc, hs]) (br_f (by decide) (br_f (by decide) (br_f (by decide) (br_t rfl (br_t rfl (ke_Xsl hc ho eq eb hi hL hL16 hiL hok hp9 hq4 hpp (ke_X65l hc ho eq eb hi hL hL16 hiL hok hp9 hq4 hpp hS h1 h4 hm hl hov hp)))))))⟩
theorem ke_T2s {post : Int32 → St2 → Prop} {d m l : Nat} {p q i L : Nat} {b : Int32} (hc : c < 4) (ho : ops (c * 16 + i) = nI p) (eq : oa (c * 16 + i) = nI q) (eb : ob (c * 16 + i) = b) (hi : pc c = nI i) (hL : len c = nI L) (hL16 : L ≤ 16) (hiL : i < L) (hok : ke_Ok (nI p) (nI q) b) (hp9 : p < 9) (hq4 : q < 4) (hs : st c = 2) (hpp : p = 2 ∨ p = 6) (hS : S = nI d) (h1 : 1 ≤ d) (h4 : d ≤ 4) (hm : m = ke_ad p b c reg) (hl : l = m / 4) (hov : ¬ ke_ov W d fp c l) (hp : post 4 (W, S, R, O, mem, ops, oa, ob, len, (ke_con R l 3 c (st, pc, reg, fp, hb, att, ca, co, cn, yb) 4).1, upd (ke_con R l 3 c (st, pc, reg, fp, hb, att, ca, co, cn, yb) 4).2.1 c ((ke_con R l 3 c (st, pc, reg, fp, hb, att, ca, co, cn, yb) 4).2.1 c + 1), (ke_con R l 3 c (st, pc, reg, fp, hb, att, ca, co, cn, yb) 4).2.2.1, res, upd (ke_con R l 3 c (st, pc, reg, fp, hb, att, ca, co, cn, yb) 4).2.2.2.1 (c * 17 + l) ((ke_con R l 3 c (st, pc, reg, fp, hb, att, ca, co, cn, yb) 4).2.2.2.1 (c * 17 + l) ||| 2), upd bv (c * 64 + m) ((ke_con R l 3 c (st, pc, reg, fp, hb, att, ca, co, cn, yb) 4).2.2.1 (c * 4 + q)), upd (ke_con R l 3 c (st, pc, reg, fp, hb, att, ca, co, cn, yb) 4).2.2.2.2.1 (c * 64 + m) 1, (ke_con R l 3 c (st, pc, reg, fp, hb, att, ca, co, cn, yb) 4).2.2.2.2.2.1, (ke_con R l 3 c (st, pc, reg, fp, hb, att, ca, co, cn, yb) 4).2.2.2.2.2.2.1, (ke_con R l 3 c (st, pc, reg, fp, hb, att, ca, co, cn, yb) 4).2.2.2.2.2.2.2.1, (ke_con R l 3 c (st, pc, reg, fp, hb, att, ca, co, cn, yb) 4).2.2.2.2.2.2.2.2.1)) : wpX_step post (W, S, R, O, mem, ops, oa, ob, len, st, pc, reg, res, fp, bv, hb, att, ca, co, cn) (nI c) := by
  have hlt : pc c < len c := (by rw [hi, hL]; exact nI_lt hiL (by omega))
  refine ke_Xst0 hc (fun _ => ?_) (fun h => absurd hlt h)
  exact ⟨ke_i4 hc, nm_r (e' := 2) (by rw [ke_k4 hc, hs]) (br_f (by decide) (br_f (by decide) (br_f (by decide) (br_t rfl (br_t rfl (ke_Xss hc ho eq eb hi hL hL16 hiL hok hp9 hq4 hpp (ke_X65s hc ho eq eb hi hL hL16 hiL hok hp9 hq4 hpp hS h1 h4 hm hl hov hp)))))))⟩
theorem ke_T4x {post : Int32 → St2 → Prop} {p q i L : Nat} {b : Int32} (hc : c < 4) (ho : ops (c * 16 + i) = nI p) (eq : oa (c * 16 + i) = nI q) (eb : ob (c * 16 + i) = b) (hi : pc c = nI i) (hL : len c = nI L) (hL16 : L ≤ 16) (hiL : i < L) (hok : ke_Ok (nI p) (nI q) b) (hp9 : p < 9) (hq4 : q < 4) (hs : st c = 4) (hpp : ¬ (p = 1 ∨ p = 2 ∨ p = 5 ∨ p = 6)) (hp : post 4 (W, S, R, O, mem, ops, oa, ob, len, st, upd pc c (nI (ke_xp p q b c L i reg)), ke_xr p q b c reg, res, fp, bv, hb, att, ca, co, cn)) : wpX_step post (W, S, R, O, mem, ops, oa, ob, len, st, pc, reg, res, fp, bv, hb, att, ca, co, cn) (nI c) := by
  have hlt : pc c < len c := (by rw [hi, hL]; exact nI_lt hiL (by omega))
  refine ke_Xst0 hc (fun _ => ?_) (fun h => absurd hlt h)
  exact ⟨ke_i4 hc, nm_r (e' := 4) (by rw [ke_k4 hc, hs]) (br_f (by decide) (br_f (by decide) (br_f (by decide) (br_f (by decide) (br_f (by decide) (br_t rfl (br_t rfl (ke_Xmx hc ho eq eb hi hL hL16 hiL hok hp9 hq4 hpp hp))))))))⟩
theorem ke_T4l {post : Int32 → St2 → Prop} {p q i L : Nat} {b : Int32} (hc : c < 4) (ho : ops (c * 16 + i) = nI p) (eq : oa (c * 16 + i) = nI q) (eb : ob (c * 16 + i) = b) (hi : pc c = nI i) (hL : len c = nI L) (hL16 : L ≤ 16) (hiL : i < L) (hok : ke_Ok (nI p) (nI q) b) (hp9 : p < 9) (hq4 : q < 4) (hs : st c = 4) (hpp : p = 1 ∨ p = 5) (hp : post 4 (W, S, R, O, mem, ops, oa, ob, len, st, upd pc c (pc c + 1), upd reg (c * 4 + q) (mem (ke_ad p b c reg)), res, fp, bv, hb, att, ca, co, cn)) : wpX_step post (W, S, R, O, mem, ops, oa, ob, len, st, pc, reg, res, fp, bv, hb, att, ca, co, cn) (nI c) := by
  have hlt : pc c < len c := (by rw [hi, hL]; exact nI_lt hiL (by omega))
  refine ke_Xst0 hc (fun _ => ?_) (fun h => absurd hlt h)
  exact ⟨ke_i4 hc, nm_r (e' := 4) (by rw [ke_k4 hc, hs]) (br_f (by decide) (br_f (by decide) (br_f (by decide) (br_f (by decide) (br_f (by decide) (br_t rfl (br_t rfl (ke_Xml hc ho eq eb hi hL hL16 hiL hok hp9 hq4 hpp hp))))))))⟩
theorem ke_T4s {post : Int32 → St2 → Prop} {p q i L : Nat} {b : Int32} (hc : c < 4) (ho : ops (c * 16 + i) = nI p) (eq : oa (c * 16 + i) = nI q) (eb : ob (c * 16 + i) = b) (hi : pc c = nI i) (hL : len c = nI L) (hL16 : L ≤ 16) (hiL : i < L) (hok : ke_Ok (nI p) (nI q) b) (hp9 : p < 9) (hq4 : q < 4) (hs : st c = 4) (hpp : p = 2 ∨ p = 6) (hp : post 4 (W, S, R, O, upd mem (ke_ad p b c reg) (reg (c * 4 + q)), ops, oa, ob, len, st, upd pc c (pc c + 1), reg, res, fp, bv, hb, att, ca, co, cn)) : wpX_step post (W, S, R, O, mem, ops, oa, ob, len, st, pc, reg, res, fp, bv, hb, att, ca, co, cn) (nI c) := by
  have hlt : pc c < len c := (by rw [hi, hL]; exact nI_lt hiL (by omega))
  refine ke_Xst0 hc (fun _ => ?_) (fun h => absurd hlt h)
  exact ⟨ke_i4 hc, nm_r (e' := 4) (by rw [ke_k4 hc, hs]) (br_f (by decide) (br_f (by decide) (br_f (by decide) (br_f (by decide) (br_f (by decide) (br_t rfl (br_t rfl (ke_Xms hc ho eq eb hi hL hL16 hiL hok hp9 hq4 hpp hp))))))))⟩
end
end
section
section
variable {W S R O : Int32} {mem ops oa ob len st pc reg res fp bv yb hb att ca co cn : Nat → Int32} {c : Nat}
theorem ke_ne {x : Int32} {n m : Nat} (h : x < 0 ∨ nI n ≤ x) (hm : m < n) (hn : n < 2 ^ 31) : ¬ x = nI m := by
  intro e
  subst e
  rcases h with h | h
  · exact nI_pos (by omega) h
  · exact nI_ge hm hn h
theorem ke_hi {x : Int32} {n : Nat} (h : nI (n + 1) ≤ x) (hn : n + 1 < 2 ^ 31) : ¬ x < 0 ∧ ¬ x ≤ nI n ∧ nI n < x := by
  have h1 : (nI (n + 1)).toInt = ((n + 1 : Nat) : Int) := nI_toInt hn
  have h2 : (nI n).toInt = (n : Int) := nI_toInt (by omega)
  have h3 : (nI (n + 1)).toInt ≤ x.toInt := Int32.le_iff_toInt_le.mp h
  have h0 : (0 : Int32).toInt = 0 := by decide
  refine ⟨fun z => ?_, fun z => ?_, ?_⟩
  · have := Int32.lt_iff_toInt_lt.mp z
    omega
  · have := Int32.le_iff_toInt_le.mp z
    omega
  · apply Int32.lt_iff_toInt_lt.mpr
    omega
theorem ke_o1 {P A : Prop} {x y : Int32} (k : Nat) (hx : x < 0 ∨ nI (k + 1) ≤ x) (h : P) (hk : k + 1 < 2 ^ 31 := by omega) (hy : y = nI k := by rfl) : (x < 0 → P) ∧ (¬ x < 0 → ((x ≤ y → A) ∧ (¬ x ≤ y → P))) := by
  subst hy
  rcases hx with hx | hx
  · exact br_t hx h
  · exact br_f (ke_hi hx hk).1 (br_f (ke_hi hx hk).2.1 h)
theorem ke_o2 {P A : Prop} {x y : Int32} (k : Nat) (hx : x < 0 ∨ nI (k + 1) ≤ x) (h : P) (hk : k + 1 < 2 ^ 31 := by omega) (hy : y = nI k := by rfl) : (x < 0 → P) ∧ (¬ x < 0 → ((y < x → P) ∧ (¬ y < x → A))) := by
  subst hy
  rcases hx with hx | hx
  · exact br_t hx h
  · exact br_f (ke_hi hx hk).1 (br_t (ke_hi hx hk).2.2 h)
theorem ke_o3 {P A : Prop} {x y : Int32} (k : Nat) (hx : x < 0 ∨ nI (k + 1) ≤ x) (h : P) (hk : k + 1 < 2 ^ 31 := by omega) (hy : y = nI (k + 1) := by rfl) : (x < 0 → P) ∧ (¬ x < 0 → ((y ≤ x → P) ∧ (¬ y ≤ x → A))) := by
  subst hy
  rcases hx with hx | hx
  · exact br_t hx h
  · exact br_f (ke_hi hx hk).1 (br_t hx h)
theorem ke_g1 {P Q A : Prop} {y : Int32} (k : Nat) {c : Nat} (hc : c < k + 1) (h : A) (hk : k + 1 < 2 ^ 31 := by omega) (hy : y = nI k := by rfl) : (nI c < 0 → P) ∧ (¬ nI c < 0 → ((nI c ≤ y → A) ∧ (¬ nI c ≤ y → Q))) := by
  subst hy
  exact br_f (nI_pos (by omega)) (br_t (nI_le (by omega) (by omega)) h)
theorem ke_g2 {P Q A : Prop} {y : Int32} (k : Nat) {c : Nat} (hc : c < k + 1) (h : A) (hk : k + 1 < 2 ^ 31 := by omega) (hy : y = nI k := by rfl) : (nI c < 0 → P) ∧ (¬ nI c < 0 → ((y < nI c → Q) ∧ (¬ y < nI c → A))) := by
  subst hy
  exact br_f (nI_pos (by omega)) (br_f (nI_nlt (by omega) (by omega)) h)
theorem ke_g3 {P Q A : Prop} {y : Int32} (k : Nat) {c : Nat} (hc : c < k + 1) (h : A) (hk : k + 1 < 2 ^ 31 := by omega) (hy : y = nI (k + 1) := by rfl) : (nI c < 0 → P) ∧ (¬ nI c < 0 → ((y ≤ nI c → Q) ∧ (¬ y ≤ nI c → A))) := by
  subst hy
  exact br_f (nI_pos (by omega)) (br_f (nI_ge hc hk) h)
theorem ke_ix (x : Int32) (n : Nat) (hn : n < 2 ^ 31) : (x < 0 ∨ nI n ≤ x) ∨ ∃ j : Nat, j < n ∧ x = nI j := by
  rcases pk_ix x hn with h | h | h
  · exact Or.inl (Or.inl h)
  · exact Or.inl (Or.inr h)
  · exact Or.inr h
def ke_cv (x lo hi : Int32) : Int32 := if lo ≤ x then (if x ≤ hi then x else hi) else lo
theorem ke_cs {A : Int32 → Prop} {x lo hi : Int32} (h : A (ke_cv x lo hi)) : (lo ≤ x → ((x ≤ hi → A x) ∧ (¬ x ≤ hi → A hi))) ∧ (¬ lo ≤ x → A lo) := by
  unfold ke_cv at h
  by_cases h1 : lo ≤ x
  · rw [if_pos h1] at h
    by_cases h2 : x ≤ hi
    · rw [if_pos h2] at h
      exact br_t h1 (br_t h2 h)
    · rw [if_neg h2] at h
      exact br_t h1 (br_f h2 h)
  · rw [if_neg h1] at h
    exact br_f h1 h
theorem ke_cv14 (x : Int32) : ∃ d, 1 ≤ d ∧ d ≤ 4 ∧ ke_cv x 1 4 = nI d := by
  unfold ke_cv
  by_cases h1 : (1 : Int32) ≤ x
  · rw [if_pos h1]
    by_cases h2 : x ≤ 4
    · rw [if_pos h2]
      rcases ke_ix x 5 (by decide) with h | ⟨j, hj, rfl⟩
      · exfalso
        rcases h with h | h
        · have a := Int32.lt_iff_toInt_lt.mp h
          have b := Int32.le_iff_toInt_le.mp h1
          have c0 : (0 : Int32).toInt = 0 := by decide
          have c1 : (1 : Int32).toInt = 1 := by decide
          omega
        · exact (ke_hi (n := 4) h (by decide)).2.1 h2
      · refine ⟨j, ?_, by omega, rfl⟩
        by_cases hz : j = 0
        · subst hz; exact absurd h1 (by decide)
        · omega
    · rw [if_neg h2]; exact ⟨4, by omega, by omega, rfl⟩
  · rw [if_neg h1]; exact ⟨1, by omega, by omega, rfl⟩
theorem ke_Xcl {post : Int32 → Prop} {x lo hi : Int32} (h : post (ke_cv x lo hi)) : wpX_clamp post () x lo hi := ke_cs (A := post) h
theorem ke_nOa {o a b : Int32} (h : a < 0 ∨ nI 4 ≤ a) : ¬ ke_Ok o a b := by
  intro z
  obtain ⟨p, q, h1, h2, e1, e2, _⟩ := z
  exact ke_ne h h2 (by decide) e2
theorem ke_nOo {o a b : Int32} (h : o < 0 ∨ nI 9 ≤ o) : ¬ ke_Ok o a b := by
  intro z
  obtain ⟨p, q, h1, h2, e1, e2, _⟩ := z
  exact ke_ne h h1 (by decide) e1
theorem ke_nO1 {p q : Nat} {b : Int32} (hp : p = 1 ∨ p = 2) (h : b < 0 ∨ nI 64 ≤ b) : ¬ ke_Ok (nI p) (nI q) b := by
  intro z
  obtain ⟨m, hm, e⟩ := ke_Ok1 z (by omega) hp
  exact ke_ne h hm (by decide) e
theorem ke_nO3 {p q : Nat} {b : Int32} (hp : p = 3 ∨ p = 5 ∨ p = 6) (h : b < 0 ∨ nI 4 ≤ b) : ¬ ke_Ok (nI p) (nI q) b := by
  intro z
  obtain ⟨m, hm, e⟩ := ke_Ok3 z (by omega) hp
  exact ke_ne h hm (by decide) e
theorem ke_nO8 {q : Nat} {b : Int32} (h : b < 0 ∨ nI 17 ≤ b ∨ b = nI 0) : ¬ ke_Ok (nI 8) (nI q) b := by
  intro z
  obtain ⟨m, hm1, hm, e⟩ := ke_Ok8 z (by omega) rfl
  rcases h with h | h | h
  · exact ke_ne (n := 17) (Or.inl h) (by omega) (by decide) e
  · exact ke_ne (n := 17) (Or.inr h) (by omega) (by decide) e
  · have := (nI_eq (by omega) (by omega)).mp (h.symm.trans e)
    omega
theorem ke_lt1 {b : Int32} (h : b < 0) : b < 1 := by
  apply Int32.lt_iff_toInt_lt.mpr
  have a := Int32.lt_iff_toInt_lt.mp h
  have c0 : (0 : Int32).toInt = 0 := by decide
  have c1 : (1 : Int32).toInt = 1 := by decide
  omega
theorem ke_nlt1 {b : Int32} (h : ¬ b < 0) (h0 : ¬ b = 0) : ¬ b < 1 := by
  intro z
  obtain ⟨j, hj, rfl⟩ := nI_of h
  have := (nI_ltI hj (by decide)).mp (show nI j < nI 1 from z)
  have e : j = 0 := by omega
  subst e
  exact h0 rfl
theorem ke_Xii {post : Int32 → Prop} {o a b : Int32} (h1 : ke_Ok o a b → post 1) (h0 : ¬ ke_Ok o a b → post 0) : wpX_isInstruction post () o a b := by
  unfold wpX_isInstruction
  rcases ke_ix a 4 (by decide) with h | ⟨q, hq, rfl⟩
  · refine ke_o3 3 h ?_
    exact br_t rfl (h0 (ke_nOa h))
  refine ke_g3 3 hq ?_
  refine br_f (by decide) ?_
  rcases ke_ix o 9 (by decide) with h | ⟨p, hp, rfl⟩
  · exact ke_o2 8 h (h0 (ke_nOo h))
  have hpp : p = 0 ∨ p = 1 ∨ p = 2 ∨ p = 3 ∨ p = 4 ∨ p = 5 ∨ p = 6 ∨ p = 7 ∨ p = 8 := by omega
  rcases hpp with rfl | rfl | rfl | rfl | rfl | rfl | rfl | rfl | rfl
  · exact br_f (by decide) (br_f (by decide) (br_t rfl (h1 ⟨0, q, by decide, hq, rfl, rfl, (fun z => absurd z (by decide)), (fun z => absurd z (by decide)), (fun z => absurd z (by decide))⟩)))
  · refine br_f (by decide) (br_f (by decide) (br_f (by decide) (br_t rfl (?_))))
    rcases ke_ix b 64 (by decide) with h | ⟨m, hm, rfl⟩
    · exact ke_o3 63 h ⟨rfl, h0 (ke_nO1 (by omega) h)⟩
    · exact ke_g3 63 hm ⟨rfl, h1 ⟨1, q, by decide, hq, rfl, rfl, (fun _ => ⟨m, hm, rfl⟩), (fun z => absurd z (by decide)), (fun z => absurd z (by decide))⟩⟩
  · refine br_f (by decide) (br_f (by decide) (br_f (by decide) (br_f (by decide) (br_t rfl (?_)))))
    rcases ke_ix b 64 (by decide) with h | ⟨m, hm, rfl⟩
    · exact ke_o3 63 h ⟨rfl, h0 (ke_nO1 (by omega) h)⟩
    · exact ke_g3 63 hm ⟨rfl, h1 ⟨2, q, by decide, hq, rfl, rfl, (fun _ => ⟨m, hm, rfl⟩), (fun z => absurd z (by decide)), (fun z => absurd z (by decide))⟩⟩
  · refine br_f (by decide) (br_f (by decide) (br_f (by decide) (br_f (by decide) (br_f (by decide) (br_t rfl (?_))))))
    rcases ke_ix b 4 (by decide) with h | ⟨m, hm, rfl⟩
    · exact ke_o3 3 h ⟨rfl, h0 (ke_nO3 (by omega) h)⟩
    · exact ke_g3 3 hm ⟨rfl, h1 ⟨3, q, by decide, hq, rfl, rfl, (fun z => absurd z (by decide)), (fun _ => ⟨m, hm, rfl⟩), (fun z => absurd z (by decide))⟩⟩
  · exact br_f (by decide) (br_f (by decide) (br_f (by decide) (br_f (by decide) (br_f (by decide) (br_f (by decide) (br_t rfl (h1 ⟨4, q, by decide, hq, rfl, rfl, (fun z => absurd z (by decide)), (fun z => absurd z (by decide)), (fun z => absurd z (by decide))⟩)))))))
  · refine br_f (by decide) (br_f (by decide) (br_f (by decide) (br_f (by decide) (br_f (by decide) (br_f (by decide) (br_f (by decide) (br_t rfl (?_))))))))
    rcases ke_ix b 4 (by decide) with h | ⟨m, hm, rfl⟩
    · exact ke_o3 3 h ⟨rfl, h0 (ke_nO3 (by omega) h)⟩
    · exact ke_g3 3 hm ⟨rfl, h1 ⟨5, q, by decide, hq, rfl, rfl, (fun z => absurd z (by decide)), (fun _ => ⟨m, hm, rfl⟩), (fun z => absurd z (by decide))⟩⟩
  · refine br_f (by decide) (br_f (by decide) (br_f (by decide) (br_f (by decide) (br_f (by decide) (br_f (by decide) (br_f (by decide) (br_f (by decide) (br_t rfl (?_)))))))))
    rcases ke_ix b 4 (by decide) with h | ⟨m, hm, rfl⟩
    · exact ke_o3 3 h ⟨rfl, h0 (ke_nO3 (by omega) h)⟩
    · exact ke_g3 3 hm ⟨rfl, h1 ⟨6, q, by decide, hq, rfl, rfl, (fun z => absurd z (by decide)), (fun _ => ⟨m, hm, rfl⟩), (fun z => absurd z (by decide))⟩⟩
  · exact br_f (by decide) (br_f (by decide) (br_f (by decide) (br_f (by decide) (br_f (by decide) (br_f (by decide) (br_f (by decide) (br_f (by decide) (br_f (by decide) (br_t rfl (h1 ⟨7, q, by decide, hq, rfl, rfl, (fun z => absurd z (by decide)), (fun z => absurd z (by decide)), (fun z => absurd z (by decide))⟩))))))))))
  · refine br_f (by decide) (br_f (by decide) (br_f (by decide) (br_f (by decide) (br_f (by decide) (br_f (by decide) (br_f (by decide) (br_f (by decide) (br_f (by decide) (br_f (by decide) (br_t rfl (?_)))))))))))
    rcases ke_ix b 17 (by decide) with h | ⟨m, hm, rfl⟩
    · rcases h with h | h
      · exact br_t (ke_lt1 h) (h0 (ke_nO8 (Or.inl h)))
      · have hh := ke_hi (n := 16) h (by decide)
        refine br_f (ke_nlt1 hh.1 (fun z => ke_ne (n := 17) (m := 0) (Or.inr h) (by decide) (by decide) z)) ?_
        exact br_t hh.2.2 (h0 (ke_nO8 (Or.inr (Or.inl h))))
    · by_cases z : m = 0
      · subst z
        exact br_t (by decide) (h0 (ke_nO8 (Or.inr (Or.inr rfl))))
      · exact br_f (nI_nlt (b := 1) (by omega) (by omega)) (br_f (nI_nlt (a := 16) (by omega) (by decide)) (h1 ⟨8, q, by decide, hq, rfl, rfl, (fun z => absurd z (by decide)), (fun z => absurd z (by decide)), (fun _ => ⟨m, by omega, by omega, rfl⟩)⟩))
theorem ke_Xru {post : Int32 → Prop} : ∀ e i, i + e = 4 → ((∃ d, i ≤ d ∧ d < 4 ∧ (st d = 2 ∨ st d = 4)) → post 1) → ((∀ d, i ≤ d → d < 4 → ¬ st d = 2 ∧ ¬ st d = 4) → post 0) → wX_isAnyRunning_2 post W S R O mem ops oa ob len st pc reg res fp bv hb att ca co cn (e + 1) (nI i) := by
  intro e
  induction e with
  | zero =>
    intro i hi h1 h0
    have e : i = 4 := by omega
    subst e
    exact br_t (nI_le (Nat.le_refl 4) (by decide)) (h0 (fun d a b => absurd b (by omega)))
  | succ e ih =>
    intro i hi h1 h0
    have hi4 : i < 4 := by omega
    refine br_f (nI_ge (b := 4) (by omega) (by decide)) ⟨ke_i4 hi4, ?_⟩
    by_cases z2 : st i = 2
    · exact br_t (by rw [ke_k4 hi4]; exact z2) (h1 ⟨i, Nat.le_refl _, hi4, Or.inl z2⟩)
    · refine br_f (by rw [ke_k4 hi4]; exact z2) ⟨ke_i4 hi4, ?_⟩
      by_cases z4 : st i = 4
      · exact br_t (by rw [ke_k4 hi4]; exact z4) (h1 ⟨i, Nat.le_refl _, hi4, Or.inr z4⟩)
      · refine br_f (by rw [ke_k4 hi4]; exact z4) (nm_r (nI_1 i) (ih (i + 1) (by omega) (fun h => ?_) (fun h => ?_)))
        · obtain ⟨d, a, b, x⟩ := h
          exact h1 ⟨d, by omega, b, x⟩
        · apply h0
          intro d a b
          by_cases e : d = i
          · subst e; exact ⟨z2, z4⟩
          · exact h d (by omega) b
theorem ke_xp_le {p q : Nat} {b : Int32} {c L i : Nat} {reg : ke_F} (hok : ke_Ok (nI p) (nI q) b) (hp9 : p < 9) (hiL : i < L) : ke_xp p q b c L i reg ≤ L := by
  unfold ke_xp
  split
  · rename_i z
    split <;> omega
  · omega
theorem ke_or1 {x : Int32} {n : Nat} (hn : n ≤ 3) (hx : x = nI n) : ∃ p, p ≤ 3 ∧ x ||| 1 = nI p := by
  have : n = 0 ∨ n = 1 ∨ n = 2 ∨ n = 3 := by omega
  rcases this with e | e | e | e <;> subst e <;> subst hx
  · exact ⟨1, by decide, by decide⟩
  · exact ⟨1, by decide, by decide⟩
  · exact ⟨3, by decide, by decide⟩
  · exact ⟨3, by decide, by decide⟩
theorem ke_or2 {x : Int32} {n : Nat} (hn : n ≤ 3) (hx : x = nI n) : ∃ p, p ≤ 3 ∧ x ||| 2 = nI p := by
  have : n = 0 ∨ n = 1 ∨ n = 2 ∨ n = 3 := by omega
  rcases this with e | e | e | e <;> subst e <;> subst hx
  · exact ⟨2, by decide, by decide⟩
  · exact ⟨3, by decide, by decide⟩
  · exact ⟨2, by decide, by decide⟩
  · exact ⟨3, by decide, by decide⟩
theorem ke_I_ld {bv : ke_F} {u : ke_T} {c l i k : Nat} {v : Int32} (h : ke_I bv u) (hi : u.2.1 c = nI i) (hi16 : i < 16) : ke_I bv (u.1, upd u.2.1 c (u.2.1 c + 1), upd u.2.2.1 k v, upd u.2.2.2.1 l (u.2.2.2.1 l ||| 1), u.2.2.2.2) := by
  obtain ⟨h1, h2, h3, h4⟩ := h
  obtain ⟨n, hn, en⟩ := h3 l
  obtain ⟨p, hp, ep⟩ := ke_or1 hn en
  exact ⟨h1, ke_N_upd (p := i + 1) h2 (by omega) (by rw [hi, nI_1]), ke_N_upd h3 hp ep, h4⟩
end
end
section
/-! the replay of one program: registers, pc, memory -/
abbrev sq_N : Type := Nat × Nat × Int32
abbrev sq_S : Type := ke_F × Nat × ke_F
def sq_row (a : ke_F) (c : Nat) : ke_F := fun j => if j < 4 then a (c * 4 + j) else 0
def sq_ov (M has buf : ke_F) (c : Nat) : ke_F := fun j => if j < 64 ∧ ¬ has (c * 64 + j) = 0 then buf (c * 64 + j) else M j
def sq_a (i : sq_N) (r : ke_F) : Nat := if i.1 = 5 ∨ i.1 = 6 then (r i.2.2.toNatClampNeg &&& 63).toNatClampNeg else i.2.2.toNatClampNeg
def sq_r (i : sq_N) (r M : ke_F) : ke_F :=
  if i.1 = 0 then upd r i.2.1 i.2.2
  else if i.1 = 1 ∨ i.1 = 5 then upd r i.2.1 (M (sq_a i r))
  else if i.1 = 3 then upd r i.2.1 (r i.2.1 + r i.2.2.toNatClampNeg)
  else if i.1 = 4 then upd r i.2.1 (r i.2.1 + i.2.2)
  else r
def sq_m (i : sq_N) (r M : ke_F) : ke_F := if i.1 = 2 ∨ i.1 = 6 then upd M (sq_a i r) (r i.2.1) else M
def sq_p (L : Nat) (i : sq_N) (r : ke_F) (p : Nat) : Nat :=
  if i.1 = 8 ∧ ¬ r i.2.1 = 0 then (if L < p + i.2.2.toNatClampNeg then L else p + i.2.2.toNatClampNeg) else p + 1
def sq_Ok (i : sq_N) : Prop := i.1 < 9 ∧ i.2.1 < 4 ∧ ((i.1 = 1 ∨ i.1 = 2) → ∃ m, m < 64 ∧ i.2.2 = nI m) ∧ ((i.1 = 3 ∨ i.1 = 5 ∨ i.1 = 6) → ∃ m, m < 4 ∧ i.2.2 = nI m) ∧ (i.1 = 8 → ∃ m, 1 ≤ m ∧ m ≤ 16 ∧ i.2.2 = nI m)
def sq_st (P : Nat → sq_N) (L : Nat) (s : sq_S) : sq_S :=
  if s.2.1 < L then (sq_r (P s.2.1) s.1 s.2.2, sq_p L (P s.2.1) s.1 s.2.1, sq_m (P s.2.1) s.1 s.2.2) else s
def sq_it (P : Nat → sq_N) (L : Nat) (s : sq_S) : Nat → sq_S
  | 0 => s
  | n + 1 => sq_st P L (sq_it P L s n)
def sq_z (M : ke_F) : sq_S := (fun _ => 0, 0, M)
theorem sq_it_fix {P : Nat → sq_N} {L : Nat} {s : sq_S} {n : Nat} (h : L ≤ (sq_it P L s n).2.1) : ∀ k, sq_it P L s (n + k) = sq_it P L s n := by
  intro k
  induction k with
  | zero => rfl
  | succ k ih =>
    show sq_st P L (sq_it P L s (n + k)) = _
    rw [ih]
    unfold sq_st
    rw [if_neg (by omega)]
theorem sq_p_ge {L : Nat} {i : sq_N} (h : sq_Ok i) (r : ke_F) {p : Nat} (hp : p < L) : p + 1 ≤ sq_p L i r p ∧ sq_p L i r p ≤ L := by
  unfold sq_p
  split
  · rename_i z
    obtain ⟨m, h1, h2, e⟩ := h.2.2.2.2 z.1
    have e2 : i.2.2.toNatClampNeg = m := by rw [e, nI_clamp (by omega)]
    rw [e2]
    split <;> omega
  · omega
theorem sq_it_pc {P : Nat → sq_N} {L : Nat} (hP : ∀ i, i < L → sq_Ok (P i)) (M : ke_F) : ∀ n, (sq_it P L (sq_z M) n).2.1 ≤ L ∧ (n ≤ (sq_it P L (sq_z M) n).2.1 ∨ (sq_it P L (sq_z M) n).2.1 = L) := by
  intro n
  induction n with
  | zero => exact ⟨Nat.zero_le _, Or.inl (Nat.le_refl 0)⟩
  | succ n ih =>
    show (sq_st P L (sq_it P L (sq_z M) n)).2.1 ≤ L ∧ (n + 1 ≤ (sq_st P L (sq_it P L (sq_z M) n)).2.1 ∨ (sq_st P L (sq_it P L (sq_z M) n)).2.1 = L)
    generalize sq_it P L (sq_z M) n = s at ih ⊢
    unfold sq_st
    by_cases hp : s.2.1 < L
    · rw [if_pos hp]
      have := sq_p_ge (hP _ hp) s.1 hp
      dsimp only
      omega
    · rw [if_neg hp]; omega
theorem sq_it_end {P : Nat → sq_N} {L : Nat} (hP : ∀ i, i < L → sq_Ok (P i)) {M : ke_F} {g n : Nat} (hg : L ≤ (sq_it P L (sq_z M) g).2.1) (hn : L ≤ n) : sq_it P L (sq_z M) n = sq_it P L (sq_z M) g := by
  have h1 := sq_it_pc hP M n
  have h2 : L ≤ (sq_it P L (sq_z M) n).2.1 := by omega
  by_cases h : n ≤ g
  · obtain ⟨k, rfl⟩ : ∃ k, g = n + k := ⟨g - n, by omega⟩
    exact (sq_it_fix h2 k).symm
  · obtain ⟨k, rfl⟩ : ∃ k, n = g + k := ⟨n - g, by omega⟩
    exact sq_it_fix hg k
theorem sq_row_at {reg : ke_F} {c q : Nat} (hq : q < 4) : sq_row reg c q = reg (c * 4 + q) := if_pos hq
theorem sq_row_upd {reg : ke_F} {c q : Nat} {v : Int32} (hq : q < 4) : sq_row (upd reg (c * 4 + q) v) c = upd (sq_row reg c) q v := by
  funext j
  by_cases e : j = q
  · subst e; rw [pk_us, sq_row_at hq, pk_us]
  · rw [pk_un e]
    unfold sq_row
    rw [pk_un (by omega)]
theorem sq_row_eq {r r' : ke_F} {c : Nat} (h : ∀ j, j < 4 → r' (c * 4 + j) = r (c * 4 + j)) : sq_row r' c = sq_row r c := by
  funext j
  unfold sq_row
  by_cases e : j < 4
  · rw [if_pos e, if_pos e, h j e]
  · rw [if_neg e, if_neg e]
theorem sq_ov_eq {M h b h' b' : ke_F} {c : Nat} (e : ∀ j, j < 64 → h' (c * 64 + j) = h (c * 64 + j) ∧ b' (c * 64 + j) = b (c * 64 + j)) : sq_ov M h' b' c = sq_ov M h b c := by
  funext j
  unfold sq_ov
  by_cases z : j < 64
  · rw [(e j z).1, (e j z).2]
  · rw [if_neg (fun x => z x.1), if_neg (fun x => z x.1)]
theorem sq_ad_eq {i : sq_N} {c : Nat} {reg : ke_F} (h : sq_Ok i) : sq_a i (sq_row reg c) = ke_ad i.1 i.2.2 c reg := by
  unfold sq_a ke_ad
  split
  · rename_i z
    obtain ⟨m, hm, e⟩ := h.2.2.2.1 (by omega)
    have e2 : i.2.2.toNatClampNeg = m := by rw [e, nI_clamp (by omega)]
    rw [e2, sq_row_at hm]
  · rfl
theorem sq_ad_lt {i : sq_N} {c : Nat} {reg : ke_F} (h : sq_Ok i) (hp : i.1 = 1 ∨ i.1 = 2 ∨ i.1 = 5 ∨ i.1 = 6) : ke_ad i.1 i.2.2 c reg < 64 := by
  unfold ke_ad
  split
  · obtain ⟨m, hm, e⟩ := ke_and63 (reg (c * 4 + i.2.2.toNatClampNeg))
    rw [e, nI_clamp (by omega)]; exact hm
  · rename_i z
    obtain ⟨m, hm, e⟩ := h.2.2.1 (by omega)
    rw [e, nI_clamp (by omega)]; exact hm
theorem sq_xr_eq {i : sq_N} {c : Nat} {reg M : ke_F} (h : sq_Ok i) (hn : ¬ (i.1 = 1 ∨ i.1 = 5)) : sq_r i (sq_row reg c) M = sq_row (ke_xr i.1 i.2.1 i.2.2 c reg) c := by
  unfold sq_r ke_xr
  have hq := h.2.1
  by_cases h0 : i.1 = 0
  · rw [if_pos h0, if_pos h0, sq_row_upd hq]
  · rw [if_neg h0, if_neg h0, if_neg hn]
    by_cases h3 : i.1 = 3
    · obtain ⟨m, hm, e⟩ := h.2.2.2.1 (by omega)
      have e2 : i.2.2.toNatClampNeg = m := by rw [e, nI_clamp (by omega)]
      rw [if_pos h3, if_pos h3, sq_row_upd hq, sq_row_at hq, e2, sq_row_at hm]
    · rw [if_neg h3, if_neg h3]
      by_cases h4 : i.1 = 4
      · rw [if_pos h4, if_pos h4, sq_row_upd hq, sq_row_at hq]
      · rw [if_neg h4, if_neg h4]
theorem sq_xp_eq {i : sq_N} {c L p : Nat} {reg : ke_F} (h : sq_Ok i) : sq_p L i (sq_row reg c) p = ke_xp i.1 i.2.1 i.2.2 c L p reg := by
  unfold sq_p ke_xp
  rw [sq_row_at h.2.1]
theorem sq_p_1 {L : Nat} {i : sq_N} {r : ke_F} {p : Nat} (h : ¬ i.1 = 8) : sq_p L i r p = p + 1 := by
  unfold sq_p
  rw [if_neg (fun z => h z.1)]
/-! a speculating core: its run so far, from every memory that agrees with the present one on its lines -/
def sq_J (P : Nat → sq_N) (L : Nat) (mem reg fp has buf : ke_F) (c p : Nat) : Prop := ∃ g, ∀ M : ke_F, (∀ j, j < 64 → ¬ fp (c * 17 + j / 4) = 0 → M j = mem j) → sq_it P L (sq_z M) g = (sq_row reg c, p, sq_ov M has buf c)
theorem sq_J_0 {P : Nat → sq_N} {L : Nat} {mem reg fp has buf : ke_F} {c : Nat} (hr : ∀ j, j < 4 → reg (c * 4 + j) = 0) (hh : ∀ j, j < 64 → has (c * 64 + j) = 0) : sq_J P L mem reg fp has buf c 0 := by
  refine ⟨0, fun M _ => ?_⟩
  have e1 : sq_row reg c = fun _ => 0 := by
    funext j
    unfold sq_row
    split
    · rename_i z; exact hr j z
    · rfl
  have e2 : sq_ov M has buf c = M := by
    funext j
    unfold sq_ov
    rw [if_neg (fun z => z.2 (hh j z.1))]
  rw [e1, e2]; rfl
theorem sq_J_frame {P : Nat → sq_N} {L : Nat} {mem reg fp has buf mem' reg' fp' has' buf' : ke_F} {c p : Nat} (hr : ∀ j, j < 4 → reg' (c * 4 + j) = reg (c * 4 + j)) (hf : ∀ l, l < 16 → ¬ fp (c * 17 + l) = 0 → ¬ fp' (c * 17 + l) = 0) (hb : ∀ j, j < 64 → has' (c * 64 + j) = has (c * 64 + j) ∧ buf' (c * 64 + j) = buf (c * 64 + j)) (hm : ∀ j, j < 64 → ¬ fp (c * 17 + j / 4) = 0 → mem' j = mem j) (h : sq_J P L mem reg fp has buf c p) : sq_J P L mem' reg' fp' has' buf' c p := by
  obtain ⟨g, hg⟩ := h
  refine ⟨g, fun M hM => ?_⟩
  rw [sq_row_eq hr, sq_ov_eq hb]
  exact hg M (fun j hj z => (hM j hj (hf _ (by omega) z)).trans (hm j hj z))
theorem sq_J_x {P : Nat → sq_N} {L : Nat} {mem reg fp has buf : ke_F} {c p : Nat} (h : sq_J P L mem reg fp has buf c p) (hp : p < L) (hi : sq_Ok (P p)) (hn : ¬ ((P p).1 = 1 ∨ (P p).1 = 2 ∨ (P p).1 = 5 ∨ (P p).1 = 6)) : sq_J P L mem (ke_xr (P p).1 (P p).2.1 (P p).2.2 c reg) fp has buf c (ke_xp (P p).1 (P p).2.1 (P p).2.2 c L p reg) := by
  obtain ⟨g, hg⟩ := h
  refine ⟨g + 1, fun M hM => ?_⟩
  show sq_st P L (sq_it P L (sq_z M) g) = _
  rw [hg M hM]
  unfold sq_st
  dsimp only
  rw [if_pos hp, sq_xr_eq hi (by omega), sq_xp_eq hi]
  unfold sq_m
  rw [if_neg (by omega)]
theorem sq_J_ld {P : Nat → sq_N} {L : Nat} {mem reg fp fp' has buf : ke_F} {c p m : Nat} (h : sq_J P L mem reg fp has buf c p) (hp : p < L) (hi : sq_Ok (P p)) (hn : (P p).1 = 1 ∨ (P p).1 = 5) (hm : m = ke_ad (P p).1 (P p).2.2 c reg) (hf : ∀ l, l < 16 → ¬ fp (c * 17 + l) = 0 → ¬ fp' (c * 17 + l) = 0) (hl : ¬ fp' (c * 17 + m / 4) = 0) : sq_J P L mem (upd reg (c * 4 + (P p).2.1) (if has (c * 64 + m) = 0 then mem m else buf (c * 64 + m))) fp' has buf c (p + 1) := by
  have hm64 : m < 64 := by rw [hm]; exact sq_ad_lt hi (by omega)
  obtain ⟨g, hg⟩ := h
  refine ⟨g + 1, fun M hM => ?_⟩
  show sq_st P L (sq_it P L (sq_z M) g) = _
  rw [hg M (fun j hj z => hM j hj (hf _ (by omega) z))]
  unfold sq_st
  dsimp only
  rw [if_pos hp, sq_p_1 (by omega)]
  have e1 : sq_m (P p) (sq_row reg c) (sq_ov M has buf c) = sq_ov M has buf c := by
    unfold sq_m; rw [if_neg (by omega)]
  have e2 : sq_r (P p) (sq_row reg c) (sq_ov M has buf c) = sq_row (upd reg (c * 4 + (P p).2.1) (if has (c * 64 + m) = 0 then mem m else buf (c * 64 + m))) c := by
    unfold sq_r
    rw [if_neg (by omega), if_pos hn, sq_row_upd hi.2.1, sq_ad_eq hi, ← hm]
    congr 1
    unfold sq_ov
    by_cases z : has (c * 64 + m) = 0
    · rw [if_pos z, if_neg (fun x => x.2 z)]; exact hM m hm64 hl
    · rw [if_neg z, if_pos ⟨hm64, z⟩]
  rw [e1, e2]
theorem sq_ov_upd {M has buf : ke_F} {c m : Nat} {v w : Int32} (hm : m < 64) (hw : ¬ w = 0) : sq_ov M (upd has (c * 64 + m) w) (upd buf (c * 64 + m) v) c = upd (sq_ov M has buf c) m v := by
  funext j
  unfold sq_ov
  by_cases e : j = m
  · subst e; rw [pk_us, pk_us, pk_us, if_pos ⟨hm, hw⟩]
  · rw [pk_un e, pk_un (by omega), pk_un (by omega)]
theorem sq_J_sr {P : Nat → sq_N} {L : Nat} {mem reg fp fp' has buf : ke_F} {c p m : Nat} (h : sq_J P L mem reg fp has buf c p) (hp : p < L) (hi : sq_Ok (P p)) (hn : (P p).1 = 2 ∨ (P p).1 = 6) (hm : m = ke_ad (P p).1 (P p).2.2 c reg) (hf : ∀ l, l < 16 → ¬ fp (c * 17 + l) = 0 → ¬ fp' (c * 17 + l) = 0) : sq_J P L mem reg fp' (upd has (c * 64 + m) 1) (upd buf (c * 64 + m) (reg (c * 4 + (P p).2.1))) c (p + 1) := by
  have hm64 : m < 64 := by rw [hm]; exact sq_ad_lt hi (by omega)
  obtain ⟨g, hg⟩ := h
  refine ⟨g + 1, fun M hM => ?_⟩
  show sq_st P L (sq_it P L (sq_z M) g) = _
  rw [hg M (fun j hj z => hM j hj (hf _ (by omega) z))]
  unfold sq_st
  dsimp only
  rw [if_pos hp, sq_p_1 (by omega), sq_ov_upd hm64 (by decide)]
  have e1 : sq_m (P p) (sq_row reg c) (sq_ov M has buf c) = upd (sq_ov M has buf c) m (reg (c * 4 + (P p).2.1)) := by
    unfold sq_m; rw [if_pos hn, sq_ad_eq hi, ← hm, sq_row_at hi.2.1]
  have e2 : sq_r (P p) (sq_row reg c) (sq_ov M has buf c) = sq_row reg c := by
    unfold sq_r
    rw [if_neg (by omega), if_neg (by omega), if_neg (by omega), if_neg (by omega)]
  rw [e1, e2]
/-! the core that holds the lock: its run so far, from the reference's memory -/
def sq_K (P : Nat → sq_N) (L : Nat) (R mem reg : ke_F) (c p : Nat) : Prop := ∃ g, sq_it P L (sq_z R) g = (sq_row reg c, p, mem)
theorem sq_K_0 {P : Nat → sq_N} {L : Nat} {R reg : ke_F} {c : Nat} (hr : ∀ j, j < 4 → reg (c * 4 + j) = 0) : sq_K P L R R reg c 0 := by
  refine ⟨0, ?_⟩
  have e1 : sq_row reg c = fun _ => 0 := by
    funext j
    unfold sq_row
    split
    · rename_i z; exact hr j z
    · rfl
  rw [e1]; rfl
theorem sq_K_x {P : Nat → sq_N} {L : Nat} {R mem reg : ke_F} {c p : Nat} (h : sq_K P L R mem reg c p) (hp : p < L) (hi : sq_Ok (P p)) (hn : ¬ ((P p).1 = 1 ∨ (P p).1 = 2 ∨ (P p).1 = 5 ∨ (P p).1 = 6)) : sq_K P L R mem (ke_xr (P p).1 (P p).2.1 (P p).2.2 c reg) c (ke_xp (P p).1 (P p).2.1 (P p).2.2 c L p reg) := by
  obtain ⟨g, hg⟩ := h
  refine ⟨g + 1, ?_⟩
  show sq_st P L (sq_it P L (sq_z R) g) = _
  rw [hg]
  unfold sq_st
  dsimp only
  rw [if_pos hp, sq_xr_eq hi (by omega), sq_xp_eq hi]
  unfold sq_m
  rw [if_neg (by omega)]
theorem sq_K_ld {P : Nat → sq_N} {L : Nat} {R mem reg : ke_F} {c p : Nat} (h : sq_K P L R mem reg c p) (hp : p < L) (hi : sq_Ok (P p)) (hn : (P p).1 = 1 ∨ (P p).1 = 5) : sq_K P L R mem (upd reg (c * 4 + (P p).2.1) (mem (ke_ad (P p).1 (P p).2.2 c reg))) c (p + 1) := by
  obtain ⟨g, hg⟩ := h
  refine ⟨g + 1, ?_⟩
  show sq_st P L (sq_it P L (sq_z R) g) = _
  rw [hg]
  unfold sq_st
  dsimp only
  rw [if_pos hp, sq_p_1 (by omega)]
  have e1 : sq_m (P p) (sq_row reg c) mem = mem := by
    unfold sq_m; rw [if_neg (by omega)]
  have e2 : sq_r (P p) (sq_row reg c) mem = sq_row (upd reg (c * 4 + (P p).2.1) (mem (ke_ad (P p).1 (P p).2.2 c reg))) c := by
    unfold sq_r
    rw [if_neg (by omega), if_pos hn, sq_row_upd hi.2.1, sq_ad_eq hi]
  rw [e1, e2]
theorem sq_K_sr {P : Nat → sq_N} {L : Nat} {R mem reg : ke_F} {c p : Nat} (h : sq_K P L R mem reg c p) (hp : p < L) (hi : sq_Ok (P p)) (hn : (P p).1 = 2 ∨ (P p).1 = 6) : sq_K P L R (upd mem (ke_ad (P p).1 (P p).2.2 c reg) (reg (c * 4 + (P p).2.1))) reg c (p + 1) := by
  obtain ⟨g, hg⟩ := h
  refine ⟨g + 1, ?_⟩
  show sq_st P L (sq_it P L (sq_z R) g) = _
  rw [hg]
  unfold sq_st
  dsimp only
  rw [if_pos hp, sq_p_1 (by omega)]
  have e1 : sq_m (P p) (sq_row reg c) mem = upd mem (ke_ad (P p).1 (P p).2.2 c reg) (reg (c * 4 + (P p).2.1)) := by
    unfold sq_m; rw [if_pos hn, sq_ad_eq hi, sq_row_at hi.2.1]
  have e2 : sq_r (P p) (sq_row reg c) mem = sq_row reg c := by
    unfold sq_r
    rw [if_neg (by omega), if_neg (by omega), if_neg (by omega), if_neg (by omega)]
  rw [e1, e2]
/-! what a commit writes is the overlay -/
theorem sq_mrg_at (m has buf : ke_F) (b : Nat) : ∀ n j, ke_mrg m has buf b n j = if j < n ∧ ¬ has (b + j) = 0 then buf (b + j) else m j := by
  intro n
  induction n with
  | zero => intro j; rw [if_neg (fun z => absurd z.1 (Nat.not_lt_zero _))]; rfl
  | succ n ih =>
    intro j
    unfold ke_mrg
    by_cases z : has (b + n) = 0
    · rw [if_pos z, ih j]
      by_cases e : j = n
      · subst e; rw [if_neg (fun x => x.2 z), if_neg (fun x => x.2 z)]
      · have : (j < n + 1 ∧ ¬ has (b + j) = 0) ↔ (j < n ∧ ¬ has (b + j) = 0) := by
          constructor
          · intro h; exact ⟨by omega, h.2⟩
          · intro h; exact ⟨by omega, h.2⟩
        simp only [this]
    · rw [if_neg z]
      by_cases e : j = n
      · subst e; rw [pk_us, if_pos ⟨Nat.lt_succ_self _, z⟩]
      · rw [pk_un e, ih j]
        have : (j < n + 1 ∧ ¬ has (b + j) = 0) ↔ (j < n ∧ ¬ has (b + j) = 0) := by
          constructor
          · intro h; exact ⟨by omega, h.2⟩
          · intro h; exact ⟨by omega, h.2⟩
        simp only [this]
theorem sq_mrg_ov (m has buf : ke_F) (c : Nat) : ke_mrg m has buf (c * 64) 64 = sq_ov m has buf c := by
  funext j
  exact sq_mrg_at m has buf (c * 64) 64 j
end
section
/-! rows of one core -/
theorem sq_fill_in (a : ke_F) (b : Nat) : ∀ n j, b ≤ j → j < b + n → ke_fill a b n j = 0 := by
  intro n
  induction n with
  | zero => intro j h1 h2; omega
  | succ n ih =>
    intro j h1 h2
    by_cases e : j = b + n
    · subst e; exact pk_us
    · have e1 : ke_fill a b (n + 1) j = ke_fill a b n j := pk_un e
      rw [e1]; exact ih j h1 (by omega)
theorem sq_fill_out (a : ke_F) (b : Nat) : ∀ n j, (j < b ∨ b + n ≤ j) → ke_fill a b n j = a j := by
  intro n
  induction n with
  | zero => intro j _; rfl
  | succ n ih =>
    intro j h
    have e1 : ke_fill a b (n + 1) j = ke_fill a b n j := pk_un (by omega)
    rw [e1]; exact ih j (by omega)
def sq_Row (t t' : ke_T) (d : Nat) : Prop := t'.1 d = t.1 d ∧ t'.2.1 d = t.2.1 d ∧ (∀ j, j < 4 → t'.2.2.1 (d * 4 + j) = t.2.2.1 (d * 4 + j)) ∧ (∀ l, l < 17 → t'.2.2.2.1 (d * 17 + l) = t.2.2.2.1 (d * 17 + l)) ∧ (∀ j, j < 64 → t'.2.2.2.2.1 (d * 64 + j) = t.2.2.2.2.1 (d * 64 + j))
def sq_Off (t' : ke_T) (d : Nat) : Prop := (t'.1 d = nI 1 ∨ t'.1 d = nI 3) ∧ t'.2.1 d = 0
theorem sq_Row_rf (t : ke_T) (d : Nat) : sq_Row t t d := ⟨rfl, rfl, fun _ _ => rfl, fun _ _ => rfl, fun _ _ => rfl⟩
theorem sq_Row_tr {t t' t'' : ke_T} {d : Nat} (h : sq_Row t t' d) (h' : sq_Row t' t'' d) : sq_Row t t'' d :=
  ⟨h'.1.trans h.1, h'.2.1.trans h.2.1, fun j hj => (h'.2.2.1 j hj).trans (h.2.2.1 j hj), fun j hj => (h'.2.2.2.1 j hj).trans (h.2.2.2.1 j hj), fun j hj => (h'.2.2.2.2 j hj).trans (h.2.2.2.2 j hj)⟩
theorem sq_ab_row (R : Int32) (c : Nat) (ca co : Int32) (t : ke_T) {d : Nat} (h : d ≠ c) : sq_Row t (ke_ab R c ca co t) d := by
  refine ⟨pk_un h, pk_un h, fun j hj => sq_fill_out _ _ _ _ (by omega), fun j hj => sq_fill_out _ _ _ _ (by omega), fun j hj => sq_fill_out _ _ _ _ (by omega)⟩
theorem sq_ab_off (R : Int32) (c : Nat) (ca co : Int32) (t : ke_T) : sq_Off (ke_ab R c ca co t) c := by
  refine ⟨?_, pk_us⟩
  show upd t.1 c _ c = nI 1 ∨ upd t.1 c _ c = nI 3
  rw [pk_us]
  unfold ke_as
  split
  · exact Or.inr rfl
  · exact Or.inl rfl
theorem sq_Off_row {t t' : ke_T} {d : Nat} (h : sq_Off t d) (h' : sq_Row t t' d) : sq_Off t' d := by
  refine ⟨?_, h'.2.1.trans h.2⟩
  rw [h'.1]; exact h.1
def sq_Hit (l : Nat) (f : Int32) (c : Nat) (t : ke_T) (d : Nat) : Prop := ¬ d = c ∧ t.1 d = 2 ∧ ¬ t.2.2.2.1 (d * 17 + l) &&& f = 0
theorem sq_con (R : Int32) {l : Nat} (hl : l < 17) (f : Int32) (c : Nat) (t : ke_T) : ∀ n d, (¬ (d < n ∧ sq_Hit l f c t d) → sq_Row t (ke_con R l f c t n) d) ∧ ((d < n ∧ sq_Hit l f c t d) → sq_Off (ke_con R l f c t n) d) := by
  intro n
  induction n with
  | zero => intro d; exact ⟨fun _ => sq_Row_rf t d, fun h => absurd h.1 (Nat.not_lt_zero _)⟩
  | succ n ih =>
    intro d
    have hr := (ih n).1 (fun h => absurd h.1 (Nat.lt_irrefl n))
    have hc : (¬ n = c ∧ (ke_con R l f c t n).1 n = 2 ∧ ¬ (ke_con R l f c t n).2.2.2.1 (n * 17 + l) &&& f = 0) ↔ sq_Hit l f c t n := by
      unfold sq_Hit
      rw [hr.1, hr.2.2.2.1 l hl]
    unfold ke_con
    by_cases z : sq_Hit l f c t n
    · rw [if_pos (hc.mpr z)]
      by_cases e : d = n
      · subst e
        exact ⟨fun h => absurd ⟨Nat.lt_succ_self _, z⟩ h, fun _ => sq_ab_off _ _ _ _ _⟩
      · have hrow := sq_ab_row R n 1 0 (ke_con R l f c t n) e
        refine ⟨fun h => sq_Row_tr ((ih d).1 (fun x => h ⟨by omega, x.2⟩)) hrow, fun h => sq_Off_row ((ih d).2 ⟨by omega, h.2⟩) hrow⟩
    · rw [if_neg (fun x => z (hc.mp x))]
      by_cases e : d = n
      · subst e
        exact ⟨fun _ => hr, fun h => absurd h.2 z⟩
      · exact ⟨fun h => (ih d).1 (fun x => h ⟨by omega, x.2⟩), fun h => (ih d).2 ⟨by omega, h.2⟩⟩
theorem sq_acq (R : Int32) (t : ke_T) : ∀ n d, (¬ (d < n ∧ t.1 d = 2) → sq_Row t (ke_acq R t n) d) ∧ ((d < n ∧ t.1 d = 2) → sq_Off (ke_acq R t n) d) := by
  intro n
  induction n with
  | zero => intro d; exact ⟨fun _ => sq_Row_rf t d, fun h => absurd h.1 (Nat.not_lt_zero _)⟩
  | succ n ih =>
    intro d
    have hr := (ih n).1 (fun h => absurd h.1 (Nat.lt_irrefl n))
    have hc : (ke_acq R t n).1 n = 2 ↔ t.1 n = 2 := by rw [hr.1]
    unfold ke_acq
    by_cases z : t.1 n = 2
    · rw [if_pos (hc.mpr z)]
      by_cases e : d = n
      · subst e
        exact ⟨fun h => absurd ⟨Nat.lt_succ_self _, z⟩ h, fun _ => sq_ab_off _ _ _ _ _⟩
      · have hrow := sq_ab_row R n 4 0 (ke_acq R t n) e
        refine ⟨fun h => sq_Row_tr ((ih d).1 (fun x => h ⟨by omega, x.2⟩)) hrow, fun h => sq_Off_row ((ih d).2 ⟨by omega, h.2⟩) hrow⟩
    · rw [if_neg (fun x => z (hc.mp x))]
      by_cases e : d = n
      · subst e
        exact ⟨fun _ => hr, fun h => absurd h.2 z⟩
      · exact ⟨fun h => (ih d).1 (fun x => h ⟨by omega, x.2⟩), fun h => (ih d).2 ⟨by omega, h.2⟩⟩
/-! the invariant: of one core, of all -/
def sq_W (x : Int32) : Prop := x = 2 ∨ x = 3
def sq_C (P : Nat → Nat → sq_N) (Ls : Nat → Nat) (Q : ke_F) (O : Int32) (mem st pc reg fp hb bv : ke_F) (c : Nat) : Prop := ∃ q p, q ≤ 4 ∧ p ≤ 16 ∧ st c = nI q ∧ pc c = nI p ∧ (q = 2 → p ≤ Ls c ∧ O = -1 ∧ sq_J (P c) (Ls c) mem reg fp hb bv c p ∧ ∀ j, j < 64 → ¬ hb (c * 64 + j) = 0 → sq_W (fp (c * 17 + j / 4))) ∧ (q = 4 → p ≤ Ls c ∧ O = nI c ∧ sq_K (P c) (Ls c) Q mem reg c p)
def sq_G (P : Nat → Nat → sq_N) (Ls : Nat → Nat) (Q : ke_F) (O : Int32) (mem st pc reg fp hb bv : ke_F) : Prop := (∀ c, c < 4 → sq_C P Ls Q O mem st pc reg fp hb bv c) ∧ (∀ c d, c < 4 → d < 4 → c ≠ d → st c = 2 → st d = 2 → ∀ l, l < 16 → sq_W (fp (c * 17 + l)) → fp (d * 17 + l) = 0) ∧ ((O = -1 ∧ Q = mem) ∨ ∃ c, c < 4 ∧ O = nI c ∧ st c = 4)
theorem sq_C_off {P : Nat → Nat → sq_N} {Ls : Nat → Nat} {Q : ke_F} {O : Int32} {mem st pc reg fp hb bv : ke_F} {c q p : Nat} (hs : st c = nI q) (hq : q = 0 ∨ q = 1 ∨ q = 3) (hp : pc c = nI p) (hp6 : p ≤ 16) : sq_C P Ls Q O mem st pc reg fp hb bv c :=
  ⟨q, p, by omega, hp6, hs, hp, fun h => by omega, fun h => by omega⟩
theorem sq_C_frame {P : Nat → Nat → sq_N} {Ls : Nat → Nat} {Q Q' : ke_F} {O O' : Int32} {mem st pc reg fp hb bv mem' st' pc' reg' fp' hb' bv' : ke_F} {d : Nat} (h : sq_C P Ls Q O mem st pc reg fp hb bv d) (hst : st' d = st d) (hpc : pc' d = pc d) (hr : ∀ j, j < 4 → reg' (d * 4 + j) = reg (d * 4 + j)) (hf : ∀ l, l < 16 → fp' (d * 17 + l) = fp (d * 17 + l)) (hb : ∀ j, j < 64 → hb' (d * 64 + j) = hb (d * 64 + j) ∧ bv' (d * 64 + j) = bv (d * 64 + j)) (h2 : st d = 2 → O' = O ∧ ∀ j, j < 64 → ¬ fp (d * 17 + j / 4) = 0 → mem' j = mem j) (h4 : st d = 4 → O' = O ∧ mem' = mem ∧ Q' = Q) : sq_C P Ls Q' O' mem' st' pc' reg' fp' hb' bv' d := by
  obtain ⟨q, p, hq, hp, es, ep, a2, a4⟩ := h
  refine ⟨q, p, hq, hp, hst.trans es, hpc.trans ep, fun e => ?_, fun e => ?_⟩
  · subst e
    obtain ⟨b1, b2, b3, b4⟩ := a2 rfl
    obtain ⟨c1, c2⟩ := h2 es
    refine ⟨b1, c1.trans b2, sq_J_frame hr (fun l hl z => by rw [hf l hl]; exact z) hb c2 b3, fun j hj z => ?_⟩
    rw [hf _ (by omega)]
    exact b4 j hj (by rw [← (hb j hj).1]; exact z)
  · subst e
    obtain ⟨b1, b2, b3⟩ := a4 rfl
    obtain ⟨c1, c2, c3⟩ := h4 es
    subst c2 c3
    refine ⟨b1, c1.trans b2, ?_⟩
    obtain ⟨g, hg⟩ := b3
    exact ⟨g, by rw [sq_row_eq hr]; exact hg⟩
theorem sq_m1 {c : Nat} (h : c < 4) : ¬ (-1 : Int32) = nI c := by
  have : c = 0 ∨ c = 1 ∨ c = 2 ∨ c = 3 := by omega
  rcases this with e | e | e | e <;> subst e <;> decide
/-- no core holds the lock where its owner is -1 -/
theorem sq_no4 {P : Nat → Nat → sq_N} {Ls : Nat → Nat} {Q : ke_F} {mem st pc reg fp hb bv : ke_F} {d : Nat} (hd : d < 4) (h : sq_C P Ls Q (-1) mem st pc reg fp hb bv d) : ¬ st d = 4 := by
  intro e
  obtain ⟨q, p, hq, hp, es, ep, a2, a4⟩ := h
  have : q = 4 := (nI_eq (by omega) (by omega)).mp (es.symm.trans e)
  exact sq_m1 hd (a4 this).2.1
/-- no other core speculates or holds the lock beside one that holds it -/
theorem sq_own {P : Nat → Nat → sq_N} {Ls : Nat → Nat} {Q : ke_F} {O : Int32} {mem st pc reg fp hb bv : ke_F} {c d : Nat} (hc : c < 4) (hd : d < 4) (hO : O = nI c) (h : sq_C P Ls Q O mem st pc reg fp hb bv d) : ¬ st d = 2 ∧ (st d = 4 → d = c) := by
  obtain ⟨q, p, hq, hp, es, ep, a2, a4⟩ := h
  constructor
  · intro e
    have : q = 2 := (nI_eq (by omega) (by omega)).mp (es.symm.trans e)
    exact sq_m1 hc ((a2 this).2.1.symm.trans hO)
  · intro e
    have : q = 4 := (nI_eq (by omega) (by omega)).mp (es.symm.trans e)
    exact (nI_eq (by omega) (by omega)).mp ((a4 this).2.1.symm.trans hO)
end
section
theorem sq_G_one {P : Nat → Nat → sq_N} {Ls : Nat → Nat} {Q Q' : ke_F} {O O' : Int32} {mem st pc reg fp hb bv mem' st' pc' reg' fp' hb' bv' : ke_F} {c : Nat} (h : sq_G P Ls Q O mem st pc reg fp hb bv) (hc : c < 4)
    (hrow : ∀ d, d < 4 → d ≠ c → st' d = st d ∧ pc' d = pc d ∧ (∀ j, j < 4 → reg' (d * 4 + j) = reg (d * 4 + j)) ∧ (∀ l, l < 16 → fp' (d * 17 + l) = fp (d * 17 + l)) ∧ (∀ j, j < 64 → hb' (d * 64 + j) = hb (d * 64 + j) ∧ bv' (d * 64 + j) = bv (d * 64 + j)))
    (h2 : ∀ d, d < 4 → d ≠ c → st d = 2 → O' = O ∧ ∀ j, j < 64 → ¬ fp (d * 17 + j / 4) = 0 → mem' j = mem j)
    (h4 : ∀ d, d < 4 → d ≠ c → st d = 4 → O' = O ∧ mem' = mem ∧ Q' = Q)
    (hC : sq_C P Ls Q' O' mem' st' pc' reg' fp' hb' bv' c)
    (hX : st' c = 2 → ∀ d, d < 4 → d ≠ c → st d = 2 → ∀ l, l < 16 → (sq_W (fp' (c * 17 + l)) → fp (d * 17 + l) = 0) ∧ (sq_W (fp (d * 17 + l)) → fp' (c * 17 + l) = 0))
    (hO : (O' = -1 ∧ Q' = mem') ∨ ∃ d, d < 4 ∧ O' = nI d ∧ st' d = 4) : sq_G P Ls Q' O' mem' st' pc' reg' fp' hb' bv' := by
  obtain ⟨g1, g2, g3⟩ := h
  refine ⟨fun d hd => ?_, fun a d ha hd hne ea ed l hl hw => ?_, hO⟩
  · by_cases e : d = c
    · subst e; exact hC
    · obtain ⟨r1, r2, r3, r4, r5⟩ := hrow d hd e
      exact sq_C_frame (g1 d hd) r1 r2 r3 r4 r5 (h2 d hd e) (h4 d hd e)
  · by_cases e : a = c
    · subst e
      obtain ⟨r1, r2, r3, r4, r5⟩ := hrow d hd (fun z => hne z.symm)
      rw [r4 l hl]
      exact (hX ea d hd (fun z => hne z.symm) (r1.symm.trans ed) l hl).1 hw
    · obtain ⟨r1, r2, r3, r4, r5⟩ := hrow a ha e
      rw [r4 l hl] at hw
      by_cases e' : d = c
      · subst e'
        exact (hX ed a ha e (r1.symm.trans ea) l hl).2 hw
      · obtain ⟨s1, s2, s3, s4, s5⟩ := hrow d hd e'
        rw [s4 l hl]
        exact g2 a d ha hd hne (r1.symm.trans ea) (s1.symm.trans ed) l hl hw
theorem sq_st2 {P : Nat → Nat → sq_N} {Ls : Nat → Nat} {Q : ke_F} {O : Int32} {mem st pc reg fp hb bv : ke_F} {c p : Nat} (h : sq_G P Ls Q O mem st pc reg fp hb bv) (hc : c < 4) (hs : st c = 2) (hp : pc c = nI p) (hp16 : p ≤ 16) : O = -1 ∧ Q = mem ∧ p ≤ Ls c ∧ sq_J (P c) (Ls c) mem reg fp hb bv c p ∧ (∀ j, j < 64 → ¬ hb (c * 64 + j) = 0 → sq_W (fp (c * 17 + j / 4))) ∧ (∀ d, d < 4 → ¬ st d = 4) := by
  obtain ⟨g1, g2, g3⟩ := h
  have hC := g1 c hc
  obtain ⟨q, p', hq, hp', es, ep, a2, a4⟩ := hC
  have e2 : q = 2 := (nI_eq (by omega) (by omega)).mp (es.symm.trans hs)
  have e3 : p' = p := (nI_eq (by omega) (by omega)).mp (ep.symm.trans hp)
  subst e3
  obtain ⟨b1, b2, b3, b4⟩ := a2 e2
  subst b2
  refine ⟨rfl, ?_, b1, b3, b4, fun d hd => sq_no4 hd (g1 d hd)⟩
  rcases g3 with h | ⟨d, hd, e, _⟩
  · exact h.2
  · exact absurd e (sq_m1 hd)
theorem sq_st4 {P : Nat → Nat → sq_N} {Ls : Nat → Nat} {Q : ke_F} {O : Int32} {mem st pc reg fp hb bv : ke_F} {c p : Nat} (h : sq_G P Ls Q O mem st pc reg fp hb bv) (hc : c < 4) (hs : st c = 4) (hp : pc c = nI p) (hp16 : p ≤ 16) : O = nI c ∧ p ≤ Ls c ∧ sq_K (P c) (Ls c) Q mem reg c p ∧ (∀ d, d < 4 → ¬ st d = 2 ∧ (st d = 4 → d = c)) := by
  obtain ⟨g1, g2, g3⟩ := h
  have hC := g1 c hc
  obtain ⟨q, p', hq, hp', es, ep, a2, a4⟩ := hC
  have e2 : q = 4 := (nI_eq (by omega) (by omega)).mp (es.symm.trans hs)
  have e3 : p' = p := (nI_eq (by omega) (by omega)).mp (ep.symm.trans hp)
  subst e3
  obtain ⟨b1, b2, b3⟩ := a4 e2
  exact ⟨b2, b1, b3, fun d hd => sq_own hc hd b2 (g1 d hd)⟩
theorem sq_row_fill {a : ke_F} {c d k n j : Nat} (hd : d ≠ c) (hj : j < k) (hn : n ≤ k) : ke_fill a (c * k) n (d * k + j) = a (d * k + j) := by
  apply sq_fill_out
  rcases Nat.lt_or_gt_of_ne hd with h | h
  · left
    have : d * k + k ≤ c * k := by rw [← Nat.succ_mul]; exact Nat.mul_le_mul_right k h
    omega
  · right
    have : c * k + k ≤ d * k := by rw [← Nat.succ_mul]; exact Nat.mul_le_mul_right k h
    omega
theorem sq_enter {P : Nat → Nat → sq_N} {Ls : Nat → Nat} {Q : ke_F} {O : Int32} {mem st pc reg fp hb bv : ke_F} {c : Nat} (h : sq_G P Ls Q O mem st pc reg fp hb bv) (hc : c < 4) (hs : st c = 0) : sq_G P Ls Q O mem (upd st c 1) (upd pc c 0) (ke_fill reg (c * 4) 4) fp hb bv := by
  have h0 := h
  obtain ⟨g1, g2, g3⟩ := h0
  refine sq_G_one h hc (fun d hd e => ⟨pk_un e, pk_un e, fun j hj => sq_row_fill e hj (Nat.le_refl 4), fun _ _ => rfl, fun _ _ => ⟨rfl, rfl⟩⟩) (fun _ _ _ _ => ⟨rfl, fun _ _ _ => rfl⟩) (fun _ _ _ _ => ⟨rfl, rfl, rfl⟩) (sq_C_off (q := 1) (p := 0) pk_us (by omega) pk_us (by omega)) ?_ ?_
  · intro e; rw [pk_us] at e; exact absurd e (by decide)
  · rcases g3 with z | ⟨d, hd, e, e4⟩
    · exact Or.inl z
    · refine Or.inr ⟨d, hd, e, ?_⟩
      have : d ≠ c := by intro x; subst x; rw [hs] at e4; exact absurd e4 (by decide)
      rw [pk_un this]; exact e4
theorem sq_begin {P : Nat → Nat → sq_N} {Ls : Nat → Nat} {Q : ke_F} {mem st pc reg fp hb bv : ke_F} {c : Nat} {O : Int32} (h : sq_G P Ls Q O mem st pc reg fp hb bv) (hO : O = -1) (hc : c < 4) : sq_G P Ls Q O mem (upd st c 2) (upd pc c 0) (ke_fill reg (c * 4) 4) (upd (ke_fill fp (c * 17) 17) (c * 17 + 16) 1) (ke_fill hb (c * 64) 64) bv := by
  subst hO
  have h0 := h
  obtain ⟨g1, g2, g3⟩ := h0
  have hz : ∀ l, l < 16 → upd (ke_fill fp (c * 17) 17) (c * 17 + 16) 1 (c * 17 + l) = 0 := by
    intro l hl
    rw [pk_un (by omega)]
    exact sq_fill_in _ _ _ _ (by omega) (by omega)
  have hh : ∀ j, j < 64 → ke_fill hb (c * 64) 64 (c * 64 + j) = 0 := fun j hj => sq_fill_in _ _ _ _ (by omega) (by omega)
  refine sq_G_one h hc (fun d hd e => ⟨pk_un e, pk_un e, fun j hj => sq_row_fill e hj (Nat.le_refl 4), fun l hl => ?_, fun j hj => ⟨sq_row_fill e hj (Nat.le_refl 64), rfl⟩⟩) (fun _ _ _ _ => ⟨rfl, fun _ _ _ => rfl⟩) (fun _ _ _ _ => ⟨rfl, rfl, rfl⟩) ?_ ?_ ?_
  · rw [pk_un (by omega)]; exact sq_row_fill e (by omega) (Nat.le_refl 17)
  · refine ⟨2, 0, by omega, by omega, pk_us, pk_us, fun _ => ⟨Nat.zero_le _, rfl, sq_J_0 (fun j hj => sq_fill_in _ _ _ _ (by omega) (by omega)) hh, fun j hj z => absurd (hh j hj) z⟩, fun e => by omega⟩
  · intro _ d hd e _ l hl
    refine ⟨fun w => ?_, fun _ => hz l hl⟩
    rw [hz l hl] at w
    rcases w with w | w <;> exact absurd w (by decide)
  · rcases g3 with z | ⟨d, hd, e, e4⟩
    · exact Or.inl z
    · exact absurd e (sq_m1 hd)
theorem sq_acquire {P : Nat → Nat → sq_N} {Ls : Nat → Nat} {Q : ke_F} {O R : Int32} {mem bv : ke_F} {t : ke_T} {c : Nat} (h : sq_G P Ls Q O mem t.1 t.2.1 t.2.2.1 t.2.2.2.1 t.2.2.2.2.1 bv) (hO : O = -1) (hc : c < 4) : sq_G P Ls Q (nI c) mem (upd (ke_acq R t 4).1 c 4) (upd (ke_acq R t 4).2.1 c 0) (ke_fill (ke_acq R t 4).2.2.1 (c * 4) 4) (ke_acq R t 4).2.2.2.1 (ke_acq R t 4).2.2.2.2.1 bv := by
  subst hO
  obtain ⟨g1, g2, g3⟩ := h
  have hQ : Q = mem := by
    rcases g3 with z | ⟨d, hd, e, e4⟩
    · exact z.2
    · exact absurd e (sq_m1 hd)
  have hoff : ∀ d, d < 4 → ∃ q p, (q = 0 ∨ q = 1 ∨ q = 3) ∧ p ≤ 16 ∧ (ke_acq R t 4).1 d = nI q ∧ (ke_acq R t 4).2.1 d = nI p := by
    intro d hd
    by_cases e : t.1 d = 2
    · obtain ⟨o1, o2⟩ := (sq_acq R t 4 d).2 ⟨hd, e⟩
      rcases o1 with o | o
      · exact ⟨1, 0, by omega, by omega, o, o2⟩
      · exact ⟨3, 0, by omega, by omega, o, o2⟩
    · obtain ⟨r1, r2, _⟩ := (sq_acq R t 4 d).1 (fun z => e z.2)
      have hC := g1 d hd
      have n4 := sq_no4 hd hC
      obtain ⟨q, p, hq, hp, es, ep, a2, a4⟩ := hC
      refine ⟨q, p, ?_, hp, r1.trans es, r2.trans ep⟩
      have : q ≠ 2 := by intro x; subst x; exact e es
      have : q ≠ 4 := by intro x; subst x; exact n4 es
      omega
  refine ⟨fun d hd => ?_, fun a d ha hd hne ea ed l hl hw => ?_, Or.inr ⟨c, hc, rfl, pk_us⟩⟩
  · by_cases e : d = c
    · subst e
      refine ⟨4, 0, by omega, by omega, pk_us, pk_us, fun e => by omega, fun _ => ⟨Nat.zero_le _, rfl, ?_⟩⟩
      subst hQ
      exact sq_K_0 (fun j hj => sq_fill_in _ _ _ _ (by omega) (by omega))
    · obtain ⟨q, p, hq, hp, es, ep⟩ := hoff d hd
      exact sq_C_off (by rw [pk_un e]; exact es) hq (by rw [pk_un e]; exact ep) hp
  · exfalso
    by_cases e : a = c
    · subst e; rw [pk_us] at ea; exact absurd ea (by decide)
    · obtain ⟨q, p, hq, hp, es, ep⟩ := hoff a ha
      rw [pk_un e, es] at ea
      have : q = 2 := (nI_eq (by omega) (by omega)).mp ea
      omega
theorem sq_conG {P : Nat → Nat → sq_N} {Ls : Nat → Nat} {Q : ke_F} {O R : Int32} {mem bv : ke_F} {t : ke_T} {c l : Nat} {f : Int32} (h : sq_G P Ls Q O mem t.1 t.2.1 t.2.2.1 t.2.2.2.1 t.2.2.2.2.1 bv) (hl : l < 17) : sq_G P Ls Q O mem (ke_con R l f c t 4).1 (ke_con R l f c t 4).2.1 (ke_con R l f c t 4).2.2.1 (ke_con R l f c t 4).2.2.2.1 (ke_con R l f c t 4).2.2.2.2.1 bv := by
  obtain ⟨g1, g2, g3⟩ := h
  refine ⟨fun d hd => ?_, fun a d ha hd hne ea ed l' hl' hw => ?_, ?_⟩
  · by_cases e : sq_Hit l f c t d
    · obtain ⟨o1, o2⟩ := (sq_con R hl f c t 4 d).2 ⟨hd, e⟩
      rcases o1 with o | o
      · exact sq_C_off (p := 0) o (by omega) o2 (by omega)
      · exact sq_C_off (p := 0) o (by omega) o2 (by omega)
    · obtain ⟨r1, r2, r3, r4, r5⟩ := (sq_con R hl f c t 4 d).1 (fun z => e z.2)
      exact sq_C_frame (g1 d hd) r1 r2 r3 (fun l hl => r4 l (by omega)) (fun j hj => ⟨r5 j hj, rfl⟩) (fun _ => ⟨rfl, fun _ _ _ => rfl⟩) (fun _ => ⟨rfl, rfl, rfl⟩)
  · have key : ∀ x, x < 4 → (ke_con R l f c t 4).1 x = 2 → sq_Row t (ke_con R l f c t 4) x := by
      intro x hx ex
      apply (sq_con R hl f c t 4 x).1
      intro z
      obtain ⟨o1, o2⟩ := (sq_con R hl f c t 4 x).2 z
      rw [ex] at o1
      rcases o1 with o | o <;> exact absurd o (by decide)
    obtain ⟨r1, r2, r3, r4, r5⟩ := key a ha ea
    obtain ⟨s1, s2, s3, s4, s5⟩ := key d hd ed
    rw [s4 l' (by omega)]
    rw [r4 l' (by omega)] at hw
    exact g2 a d ha hd hne (r1.symm.trans ea) (s1.symm.trans ed) l' hl' hw
  · rcases g3 with z | ⟨d, hd, e, e4⟩
    · exact Or.inl z
    · refine Or.inr ⟨d, hd, e, ?_⟩
      have hn : ¬ sq_Hit l f c t d := by
        intro z; have := z.2.1; rw [e4] at this; exact absurd this (by decide)
      rw [((sq_con R hl f c t 4 d).1 (fun z => hn z.2)).1]; exact e4
/-- a core's own abort -/
theorem sq_abort {P : Nat → Nat → sq_N} {Ls : Nat → Nat} {Q : ke_F} {O R : Int32} {mem bv : ke_F} {t : ke_T} {c : Nat} {ca co : Int32} (h : sq_G P Ls Q O mem t.1 t.2.1 t.2.2.1 t.2.2.2.1 t.2.2.2.2.1 bv) (hc : c < 4) (hs : t.1 c = 2) : sq_G P Ls Q O mem (ke_ab R c ca co t).1 (ke_ab R c ca co t).2.1 (ke_ab R c ca co t).2.2.1 (ke_ab R c ca co t).2.2.2.1 (ke_ab R c ca co t).2.2.2.2.1 bv := by
  have h0 := h
  obtain ⟨g1, g2, g3⟩ := h0
  have ho := sq_ab_off R c ca co t
  refine sq_G_one h hc (fun d hd e => ?_) (fun _ _ _ _ => ⟨rfl, fun _ _ _ => rfl⟩) (fun _ _ _ _ => ⟨rfl, rfl, rfl⟩) ?_ ?_ ?_
  · obtain ⟨r1, r2, r3, r4, r5⟩ := sq_ab_row R c ca co t e
    exact ⟨r1, r2, r3, fun l hl => r4 l (by omega), fun j hj => ⟨r5 j hj, rfl⟩⟩
  · obtain ⟨o1, o2⟩ := ho
    rcases o1 with o | o
    · exact sq_C_off (p := 0) o (by omega) o2 (by omega)
    · exact sq_C_off (p := 0) o (by omega) o2 (by omega)
  · intro e
    obtain ⟨o1, o2⟩ := ho
    rw [e] at o1
    rcases o1 with o | o <;> exact absurd o (by decide)
  · rcases g3 with z | ⟨d, hd, e, e4⟩
    · exact Or.inl z
    · refine Or.inr ⟨d, hd, e, ?_⟩
      have : d ≠ c := by intro x; subst x; rw [hs] at e4; exact absurd e4 (by decide)
      rw [(sq_ab_row R c ca co t this).1]; exact e4
end
section
theorem sq_row_un {a : ke_F} {c d k q j : Nat} {v : Int32} (hd : d ≠ c) (hj : j < k) (hq : q < k) : upd a (c * k + q) v (d * k + j) = a (d * k + j) := by
  apply pk_un
  rcases Nat.lt_or_gt_of_ne hd with h | h
  · have : d * k + k ≤ c * k := by rw [← Nat.succ_mul]; exact Nat.mul_le_mul_right k h
    omega
  · have : c * k + k ≤ d * k := by rw [← Nat.succ_mul]; exact Nat.mul_le_mul_right k h
    omega
theorem sq_xr_row {p q : Nat} {b : Int32} {c d j : Nat} {reg : ke_F} (hd : d ≠ c) (hj : j < 4) (hq : q < 4) : ke_xr p q b c reg (d * 4 + j) = reg (d * 4 + j) := by
  unfold ke_xr
  split
  · exact sq_row_un hd hj hq
  · split
    · exact sq_row_un hd hj hq
    · split
      · exact sq_row_un hd hj hq
      · rfl
theorem sq_xp_le {i : sq_N} {c L p : Nat} {reg : ke_F} (h : sq_Ok i) (hp : p < L) : ke_xp i.1 i.2.1 i.2.2 c L p reg ≤ L := by
  rw [← sq_xp_eq h]
  exact (sq_p_ge h _ hp).2
/-- a speculating core on its registers -/
theorem sq_spec_x {P : Nat → Nat → sq_N} {Ls : Nat → Nat} {Q : ke_F} {O : Int32} {mem st pc reg fp hb bv : ke_F} {c p : Nat} (h : sq_G P Ls Q O mem st pc reg fp hb bv) (hc : c < 4) (hs : st c = 2) (hp : pc c = nI p) (hpL : p < Ls c) (hL : Ls c ≤ 16) (hi : sq_Ok (P c p)) (hn : ¬ ((P c p).1 = 1 ∨ (P c p).1 = 2 ∨ (P c p).1 = 5 ∨ (P c p).1 = 6)) : sq_G P Ls Q O mem st (upd pc c (nI (ke_xp (P c p).1 (P c p).2.1 (P c p).2.2 c (Ls c) p reg))) (ke_xr (P c p).1 (P c p).2.1 (P c p).2.2 c reg) fp hb bv := by
  obtain ⟨a1, a2, a3, a4, a5, a6⟩ := sq_st2 h hc hs hp (by omega)
  have hle := sq_xp_le (c := c) (reg := reg) hi hpL
  refine sq_G_one h hc (fun d hd e => ⟨rfl, pk_un e, fun j hj => sq_xr_row e hj hi.2.1, fun _ _ => rfl, fun _ _ => ⟨rfl, rfl⟩⟩) (fun _ _ _ _ => ⟨rfl, fun _ _ _ => rfl⟩) (fun _ _ _ _ => ⟨rfl, rfl, rfl⟩) ?_ ?_ (Or.inl ⟨a1, a2⟩)
  · exact ⟨2, _, by omega, by omega, hs, pk_us, fun _ => ⟨hle, a1, sq_J_x a4 hpL hi hn, a5⟩, fun e => by omega⟩
  · intro _ d hd e ed l hl
    exact ⟨fun w => h.2.1 c d hc hd (fun z => e z.symm) hs ed l hl w, fun w => h.2.1 d c hd hc e ed hs l hl w⟩
theorem sq_or1 {x : Int32} {n : Nat} (hn : n ≤ 3) (hx : x = nI n) : (¬ x ||| 1 = 0) ∧ (sq_W (x ||| 1) ↔ sq_W x) := by
  have : n = 0 ∨ n = 1 ∨ n = 2 ∨ n = 3 := by omega
  rcases this with e | e | e | e <;> subst e <;> subst hx <;> unfold sq_W <;> decide
theorem sq_or2 {x : Int32} {n : Nat} (hn : n ≤ 3) (hx : x = nI n) : (¬ x ||| 2 = 0) ∧ sq_W (x ||| 2) := by
  have : n = 0 ∨ n = 1 ∨ n = 2 ∨ n = 3 := by omega
  rcases this with e | e | e | e <;> subst e <;> subst hx <;> unfold sq_W <;> decide
theorem sq_and2 {x : Int32} {n : Nat} (hn : n ≤ 3) (hx : x = nI n) : x &&& 2 = 0 ↔ ¬ sq_W x := by
  have : n = 0 ∨ n = 1 ∨ n = 2 ∨ n = 3 := by omega
  rcases this with e | e | e | e <;> subst e <;> subst hx <;> unfold sq_W <;> decide
theorem sq_and3 {x : Int32} {n : Nat} (hn : n ≤ 3) (hx : x = nI n) : x &&& 3 = 0 ↔ x = 0 := by
  have : n = 0 ∨ n = 1 ∨ n = 2 ∨ n = 3 := by omega
  rcases this with e | e | e | e <;> subst e <;> subst hx <;> decide
/-- a speculating core loads: the others that wrote the line are off already -/
theorem sq_spec_ld {P : Nat → Nat → sq_N} {Ls : Nat → Nat} {Q : ke_F} {O : Int32} {mem st pc reg fp hb bv : ke_F} {c p m : Nat} (h : sq_G P Ls Q O mem st pc reg fp hb bv) (hN : ke_N 3 fp) (hc : c < 4) (hs : st c = 2) (hp : pc c = nI p) (hpL : p < Ls c) (hL : Ls c ≤ 16) (hi : sq_Ok (P c p)) (hn : (P c p).1 = 1 ∨ (P c p).1 = 5) (hm : m = ke_ad (P c p).1 (P c p).2.2 c reg) (hit : ∀ d, d < 4 → d ≠ c → st d = 2 → fp (d * 17 + m / 4) &&& 2 = 0) : sq_G P Ls Q O mem st (upd pc c (nI (p + 1))) (upd reg (c * 4 + (P c p).2.1) (if hb (c * 64 + m) = 0 then mem m else bv (c * 64 + m))) (upd fp (c * 17 + m / 4) (fp (c * 17 + m / 4) ||| 1)) hb bv := by
  obtain ⟨a1, a2, a3, a4, a5, a6⟩ := sq_st2 h hc hs hp (by omega)
  have hm64 : m < 64 := by rw [hm]; exact sq_ad_lt hi (by omega)
  obtain ⟨n, hn3, en⟩ := hN (c * 17 + m / 4)
  have ho := sq_or1 hn3 en
  have hfp : ∀ l, l < 16 → ¬ fp (c * 17 + l) = 0 → ¬ upd fp (c * 17 + m / 4) (fp (c * 17 + m / 4) ||| 1) (c * 17 + l) = 0 := by
    intro l hl z
    by_cases e : l = m / 4
    · subst e; rw [pk_us]; exact ho.1
    · rw [pk_un (by omega)]; exact z
  have hw : ∀ l, l < 16 → (sq_W (upd fp (c * 17 + m / 4) (fp (c * 17 + m / 4) ||| 1) (c * 17 + l)) ↔ sq_W (fp (c * 17 + l))) := by
    intro l hl
    by_cases e : l = m / 4
    · subst e; rw [pk_us]; exact ho.2
    · rw [pk_un (by omega)]
  refine sq_G_one h hc (fun d hd e => ⟨rfl, pk_un e, fun j hj => sq_row_un e hj hi.2.1, fun l hl => sq_row_un e (by omega) (by omega), fun _ _ => ⟨rfl, rfl⟩⟩) (fun _ _ _ _ => ⟨rfl, fun _ _ _ => rfl⟩) (fun _ _ _ _ => ⟨rfl, rfl, rfl⟩) ?_ ?_ (Or.inl ⟨a1, a2⟩)
  · refine ⟨2, p + 1, by omega, by omega, hs, pk_us, fun _ => ⟨by omega, a1, sq_J_ld a4 hpL hi hn hm hfp (by rw [pk_us]; exact ho.1), fun j hj z => ?_⟩, fun e => by omega⟩
    exact (hw _ (by omega)).mpr (a5 j hj z)
  · intro _ d hd e ed l hl
    refine ⟨fun w => h.2.1 c d hc hd (fun z => e z.symm) hs ed l hl ((hw l hl).mp w), fun w => ?_⟩
    by_cases el : l = m / 4
    · subst el
      obtain ⟨n', hn', en'⟩ := hN (d * 17 + m / 4)
      exact absurd w ((sq_and2 hn' en').mp (hit d hd e ed))
    · rw [pk_un (by omega)]
      exact h.2.1 d c hd hc e ed hs l hl w
/-- a speculating core stores: the others that touched the line are off already -/
theorem sq_spec_sr {P : Nat → Nat → sq_N} {Ls : Nat → Nat} {Q : ke_F} {O : Int32} {mem st pc reg fp hb bv : ke_F} {c p m : Nat} (h : sq_G P Ls Q O mem st pc reg fp hb bv) (hN : ke_N 3 fp) (hc : c < 4) (hs : st c = 2) (hp : pc c = nI p) (hpL : p < Ls c) (hL : Ls c ≤ 16) (hi : sq_Ok (P c p)) (hn : (P c p).1 = 2 ∨ (P c p).1 = 6) (hm : m = ke_ad (P c p).1 (P c p).2.2 c reg) (hit : ∀ d, d < 4 → d ≠ c → st d = 2 → fp (d * 17 + m / 4) &&& 3 = 0) : sq_G P Ls Q O mem st (upd pc c (nI (p + 1))) reg (upd fp (c * 17 + m / 4) (fp (c * 17 + m / 4) ||| 2)) (upd hb (c * 64 + m) 1) (upd bv (c * 64 + m) (reg (c * 4 + (P c p).2.1))) := by
  obtain ⟨a1, a2, a3, a4, a5, a6⟩ := sq_st2 h hc hs hp (by omega)
  have hm64 : m < 64 := by rw [hm]; exact sq_ad_lt hi (by omega)
  obtain ⟨n, hn3, en⟩ := hN (c * 17 + m / 4)
  have ho := sq_or2 hn3 en
  have hfp : ∀ l, l < 16 → ¬ fp (c * 17 + l) = 0 → ¬ upd fp (c * 17 + m / 4) (fp (c * 17 + m / 4) ||| 2) (c * 17 + l) = 0 := by
    intro l hl z
    by_cases e : l = m / 4
    · subst e; rw [pk_us]; exact ho.1
    · rw [pk_un (by omega)]; exact z
  refine sq_G_one h hc (fun d hd e => ⟨rfl, pk_un e, fun j hj => rfl, fun l hl => sq_row_un e (by omega) (by omega), fun j hj => ⟨sq_row_un e hj hm64, sq_row_un e hj hm64⟩⟩) (fun _ _ _ _ => ⟨rfl, fun _ _ _ => rfl⟩) (fun _ _ _ _ => ⟨rfl, rfl, rfl⟩) ?_ ?_ (Or.inl ⟨a1, a2⟩)
  · refine ⟨2, p + 1, by omega, by omega, hs, pk_us, fun _ => ⟨by omega, a1, sq_J_sr a4 hpL hi hn hm hfp, fun j hj z => ?_⟩, fun e => by omega⟩
    by_cases el : j / 4 = m / 4
    · rw [el, pk_us]; exact ho.2
    · rw [pk_un (by omega)]
      rw [pk_un (by omega)] at z
      exact a5 j hj z
  · intro _ d hd e ed l hl
    by_cases el : l = m / 4
    · subst el
      obtain ⟨n', hn', en'⟩ := hN (d * 17 + m / 4)
      have h0 := (sq_and3 hn' en').mp (hit d hd e ed)
      refine ⟨fun _ => h0, fun w => ?_⟩
      rw [h0] at w
      rcases w with w | w <;> exact absurd w (by decide)
    · rw [pk_un (by omega)]
      exact ⟨fun w => h.2.1 c d hc hd (fun z => e z.symm) hs ed l hl w, fun w => h.2.1 d c hd hc e ed hs l hl w⟩
/-- a commit: the replay from the reference's memory ends with the core's registers and the new memory -/
theorem sq_commit {P : Nat → Nat → sq_N} {Ls : Nat → Nat} {Q : ke_F} {O : Int32} {mem st pc reg fp hb bv : ke_F} {c p : Nat} (h : sq_G P Ls Q O mem st pc reg fp hb bv) (hc : c < 4) (hs : st c = 2) (hp : pc c = nI p) (hp16 : p ≤ 16) (hpL : Ls c ≤ p) (hL : Ls c ≤ 16) (hP : ∀ i, i < Ls c → sq_Ok (P c i)) :
    sq_it (P c) (Ls c) (sq_z Q) 17 = (sq_row reg c, Ls c, ke_mrg mem hb bv (c * 64) 64) ∧ sq_G P Ls (ke_mrg mem hb bv (c * 64) 64) O (ke_mrg mem hb bv (c * 64) 64) (upd st c 0) pc reg (ke_fill fp (c * 17) 17) (ke_fill hb (c * 64) 64) bv := by
  obtain ⟨a1, a2, a3, a4, a5, a6⟩ := sq_st2 h hc hs hp hp16
  have ep : p = Ls c := by omega
  subst ep
  constructor
  · obtain ⟨g, hg⟩ := a4
    have e := hg Q (fun j _ _ => by rw [a2])
    rw [sq_it_end (g := g) hP (by rw [e]; exact Nat.le_refl _) (by omega), e, a2, sq_mrg_ov]
  · refine sq_G_one h hc (fun d hd e => ⟨pk_un e, rfl, fun j hj => rfl, fun l hl => sq_row_fill e (by omega) (Nat.le_refl 17), fun j hj => ⟨sq_row_fill e hj (Nat.le_refl 64), rfl⟩⟩) (fun d hd e ed => ⟨rfl, fun j hj z => ?_⟩) (fun d hd e ed => absurd ed (a6 d hd)) ?_ ?_ (Or.inl ⟨a1, rfl⟩)
    · rw [sq_mrg_ov]
      unfold sq_ov
      rw [if_neg]
      intro x
      exact z (h.2.1 c d hc hd (fun z => e z.symm) hs ed _ (by omega) (a5 j hj x.2))
    · exact sq_C_off (q := 0) pk_us (by omega) hp hp16
    · intro e; rw [pk_us] at e; exact absurd e (by decide)
/-- the lock's holder -/
theorem sq_lock_x {P : Nat → Nat → sq_N} {Ls : Nat → Nat} {Q : ke_F} {O : Int32} {mem st pc reg fp hb bv : ke_F} {c p : Nat} (h : sq_G P Ls Q O mem st pc reg fp hb bv) (hc : c < 4) (hs : st c = 4) (hp : pc c = nI p) (hpL : p < Ls c) (hL : Ls c ≤ 16) (hi : sq_Ok (P c p)) (hn : ¬ ((P c p).1 = 1 ∨ (P c p).1 = 2 ∨ (P c p).1 = 5 ∨ (P c p).1 = 6)) : sq_G P Ls Q O mem st (upd pc c (nI (ke_xp (P c p).1 (P c p).2.1 (P c p).2.2 c (Ls c) p reg))) (ke_xr (P c p).1 (P c p).2.1 (P c p).2.2 c reg) fp hb bv := by
  obtain ⟨a1, a2, a3, a4⟩ := sq_st4 h hc hs hp (by omega)
  have hle := sq_xp_le (c := c) (reg := reg) hi hpL
  refine sq_G_one h hc (fun d hd e => ⟨rfl, pk_un e, fun j hj => sq_xr_row e hj hi.2.1, fun _ _ => rfl, fun _ _ => ⟨rfl, rfl⟩⟩) (fun _ _ _ _ => ⟨rfl, fun _ _ _ => rfl⟩) (fun _ _ _ _ => ⟨rfl, rfl, rfl⟩) ?_ ?_ (Or.inr ⟨c, hc, a1, hs⟩)
  · exact ⟨4, _, by omega, by omega, hs, pk_us, fun e => by omega, fun _ => ⟨hle, a1, sq_K_x a3 hpL hi hn⟩⟩
  · intro e; rw [hs] at e; exact absurd e (by decide)
theorem sq_lock_ld {P : Nat → Nat → sq_N} {Ls : Nat → Nat} {Q : ke_F} {O : Int32} {mem st pc reg fp hb bv : ke_F} {c p : Nat} (h : sq_G P Ls Q O mem st pc reg fp hb bv) (hc : c < 4) (hs : st c = 4) (hp : pc c = nI p) (hpL : p < Ls c) (hL : Ls c ≤ 16) (hi : sq_Ok (P c p)) (hn : (P c p).1 = 1 ∨ (P c p).1 = 5) : sq_G P Ls Q O mem st (upd pc c (nI (p + 1))) (upd reg (c * 4 + (P c p).2.1) (mem (ke_ad (P c p).1 (P c p).2.2 c reg))) fp hb bv := by
  obtain ⟨a1, a2, a3, a4⟩ := sq_st4 h hc hs hp (by omega)
  refine sq_G_one h hc (fun d hd e => ⟨rfl, pk_un e, fun j hj => sq_row_un e hj hi.2.1, fun _ _ => rfl, fun _ _ => ⟨rfl, rfl⟩⟩) (fun _ _ _ _ => ⟨rfl, fun _ _ _ => rfl⟩) (fun _ _ _ _ => ⟨rfl, rfl, rfl⟩) ?_ ?_ (Or.inr ⟨c, hc, a1, hs⟩)
  · exact ⟨4, p + 1, by omega, by omega, hs, pk_us, fun e => by omega, fun _ => ⟨by omega, a1, sq_K_ld a3 hpL hi hn⟩⟩
  · intro e; rw [hs] at e; exact absurd e (by decide)
theorem sq_lock_sr {P : Nat → Nat → sq_N} {Ls : Nat → Nat} {Q : ke_F} {O : Int32} {mem st pc reg fp hb bv : ke_F} {c p : Nat} (h : sq_G P Ls Q O mem st pc reg fp hb bv) (hc : c < 4) (hs : st c = 4) (hp : pc c = nI p) (hpL : p < Ls c) (hL : Ls c ≤ 16) (hi : sq_Ok (P c p)) (hn : (P c p).1 = 2 ∨ (P c p).1 = 6) : sq_G P Ls Q O (upd mem (ke_ad (P c p).1 (P c p).2.2 c reg) (reg (c * 4 + (P c p).2.1))) st (upd pc c (nI (p + 1))) reg fp hb bv := by
  obtain ⟨a1, a2, a3, a4⟩ := sq_st4 h hc hs hp (by omega)
  refine sq_G_one h hc (fun d hd e => ⟨rfl, pk_un e, fun j hj => rfl, fun _ _ => rfl, fun _ _ => ⟨rfl, rfl⟩⟩) (fun d hd e ed => absurd ed (a4 d hd).1) (fun d hd e ed => absurd ((a4 d hd).2 ed) e) ?_ ?_ (Or.inr ⟨c, hc, a1, hs⟩)
  · exact ⟨4, p + 1, by omega, by omega, hs, pk_us, fun e => by omega, fun _ => ⟨by omega, a1, sq_K_sr a3 hpL hi hn⟩⟩
  · intro e; rw [hs] at e; exact absurd e (by decide)
theorem sq_release {P : Nat → Nat → sq_N} {Ls : Nat → Nat} {Q : ke_F} {O : Int32} {mem st pc reg fp hb bv : ke_F} {c p : Nat} (h : sq_G P Ls Q O mem st pc reg fp hb bv) (hc : c < 4) (hs : st c = 4) (hp : pc c = nI p) (hp16 : p ≤ 16) (hpL : Ls c ≤ p) (hL : Ls c ≤ 16) (hP : ∀ i, i < Ls c → sq_Ok (P c i)) :
    sq_it (P c) (Ls c) (sq_z Q) 17 = (sq_row reg c, Ls c, mem) ∧ sq_G P Ls mem (-1) mem (upd st c 0) pc reg fp hb bv := by
  obtain ⟨a1, a2, a3, a4⟩ := sq_st4 h hc hs hp hp16
  have ep : p = Ls c := by omega
  subst ep
  constructor
  · obtain ⟨g, e⟩ := a3
    rw [sq_it_end (g := g) hP (by rw [e]; exact Nat.le_refl _) (by omega), e]
  · refine sq_G_one h hc (fun d hd e => ⟨pk_un e, rfl, fun j hj => rfl, fun l hl => rfl, fun j hj => ⟨rfl, rfl⟩⟩) (fun d hd e ed => absurd ed (a4 d hd).1) (fun d hd e ed => absurd ((a4 d hd).2 ed) e) ?_ ?_ (Or.inl ⟨rfl, rfl⟩)
    · exact sq_C_off (q := 0) pk_us (by omega) hp hp16
    · intro e; rw [pk_us] at e; exact absurd e (by decide)
theorem sq_poke {P : Nat → Nat → sq_N} {Ls : Nat → Nat} {Q : ke_F} {O : Int32} {mem st pc reg fp hb bv : ke_F} (h : sq_G P Ls Q O mem st pc reg fp hb bv) (hs : ∀ d, d < 4 → ¬ st d = 2 ∧ ¬ st d = 4) (a : Nat) (v : Int32) : sq_G P Ls (upd Q a v) O (upd mem a v) st pc reg fp hb bv := by
  obtain ⟨g1, g2, g3⟩ := h
  refine ⟨fun d hd => sq_C_frame (g1 d hd) rfl rfl (fun _ _ => rfl) (fun _ _ => rfl) (fun _ _ => ⟨rfl, rfl⟩) (fun e => absurd e (hs d hd).1) (fun e => absurd e (hs d hd).2), g2, ?_⟩
  rcases g3 with z | ⟨d, hd, e, e4⟩
  · exact Or.inl ⟨z.1, by rw [z.2]⟩
  · exact absurd e4 (hs d hd).2
end
section
/-! what the law reads of the script -/
def sq_cl (L : Nat) (xs : ke_F) (k : Nat) : Int32 := if k < L then xs k else 0
theorem sq_cel {post : Int32 → Prop} {L : Nat} {xs : ke_F} {k : Nat} (hL : L ≤ 260) (hk : k < 2 ^ 31) (h : post (sq_cl L xs k)) : wpL_cell post L xs () (nI k) := by
  unfold sq_cl at h
  by_cases z : k < L
  · rw [if_pos z] at h
    refine br_f (nI_ge (b := L) z (by omega)) ⟨vp_in_nI z (by omega), ?_⟩
    rw [nI_clamp hk]
    exact h
  · rw [if_neg z] at h
    exact br_t (nI_le (a := L) (by omega) hk) h
def sq_ps (x : Int32) : Nat := x.toBitVec.toNat % 2 ^ 31
theorem sq_pos (x : Int32) : x &&& 2147483647 = nI (sq_ps x) := pk_and x 31 (by decide)
theorem sq_ps_lt (x : Int32) : sq_ps x < 2 ^ 31 := Nat.mod_lt _ (by decide)
def sq_len (L : Nat) (xs : ke_F) (c : Nat) : Nat := 1 + sq_ps (sq_cl L xs (3 + c)) % 6
def sq_op (L : Nat) (xs : ke_F) (c i : Nat) : Nat := sq_ps (sq_cl L xs (8 + c * 18 + i * 3)) % 9
def sq_ra (L : Nat) (xs : ke_F) (c i : Nat) : Nat := (sq_cl L xs (8 + c * 18 + i * 3 + 1)).toBitVec.toNat % 2 ^ 2
def sq_bo (o : Nat) (x : Int32) : Int32 := if o = 0 then x &&& 63 else if o = 1 then x &&& 15 else if o = 2 then x &&& 15 else if o = 3 then x &&& 3 else if o = 5 then x &&& 3 else if o = 6 then x &&& 3 else if o = 4 then (x &&& 7) - 3 else if o = 7 then x &&& 255 else 1 + (x &&& 3)
def sq_rb (L : Nat) (xs : ke_F) (c i : Nat) : Int32 := sq_bo (sq_op L xs c i) (sq_cl L xs (8 + c * 18 + i * 3 + 2))
def sq_P (L : Nat) (xs : ke_F) (c i : Nat) : sq_N := (sq_op L xs c i, sq_ra L xs c i, sq_rb L xs c i)
theorem sq_len_le (L : Nat) (xs : ke_F) (c : Nat) : 1 ≤ sq_len L xs c ∧ sq_len L xs c ≤ 6 := by
  unfold sq_len
  have := Nat.mod_lt (sq_ps (sq_cl L xs (3 + c))) (show 0 < 6 by decide)
  omega
theorem sq_op_lt (L : Nat) (xs : ke_F) (c i : Nat) : sq_op L xs c i < 9 := Nat.mod_lt _ (by decide)
theorem sq_ra_lt (L : Nat) (xs : ke_F) (c i : Nat) : sq_ra L xs c i < 4 := Nat.mod_lt _ (by decide)
theorem sq_Len {post : Int32 → Prop} {L : Nat} {xs : ke_F} {c : Nat} (hL : L ≤ 260) (hc : c < 4) (h : post (nI (sq_len L xs c))) : wpL_len post L xs () (nI c) := by
  unfold wpL_len
  have e : (3 : Int32) + nI c = nI (3 + c) := nI_add 3 c
  rw [e]
  refine sq_cel hL (by omega) ⟨by decide, ?_⟩
  rw [sq_pos]
  have e2 : nI (sq_ps (sq_cl L xs (3 + c))) - nI (sq_ps (sq_cl L xs (3 + c))) / 6 * 6 = nI (sq_ps (sq_cl L xs (3 + c)) % 6) := pk_rem (d := 6) (sq_ps_lt _) (by decide) (by decide)
  rw [e2]
  have e3 : (1 : Int32) + nI (sq_ps (sq_cl L xs (3 + c)) % 6) = nI (sq_len L xs c) := nI_add 1 _
  rw [e3]
  exact h
theorem sq_bas (c i : Nat) : ((8 : Int32) + (nI c * 18)) + (nI i * 3) = nI (8 + c * 18 + i * 3) := by
  have e1 : nI c * 18 = nI (c * 18) := pk_mul c 18
  have e2 : nI i * 3 = nI (i * 3) := pk_mul i 3
  have e3 : (8 : Int32) + nI (c * 18) = nI (8 + c * 18) := nI_add 8 _
  rw [e1, e2, e3, nI_add]
theorem sq_Op {post : Int32 → Prop} {L : Nat} {xs : ke_F} {c i : Nat} (hL : L ≤ 260) (hc : c < 4) (hi : i < 16) (h : post (nI (sq_op L xs c i))) : wpL_op post L xs () (nI c) (nI i) := by
  unfold wpL_op wpL_base
  rw [sq_bas]
  refine sq_cel hL (by omega) ⟨by decide, ?_⟩
  rw [sq_pos]
  have e2 : nI (sq_ps (sq_cl L xs (8 + c * 18 + i * 3))) - nI (sq_ps (sq_cl L xs (8 + c * 18 + i * 3))) / 9 * 9 = nI (sq_ps (sq_cl L xs (8 + c * 18 + i * 3)) % 9) := pk_rem (d := 9) (sq_ps_lt _) (by decide) (by decide)
  rw [e2]
  exact h
theorem sq_Ra {post : Int32 → Prop} {L : Nat} {xs : ke_F} {c i : Nat} (hL : L ≤ 260) (hc : c < 4) (hi : i < 16) (h : post (nI (sq_ra L xs c i))) : wpL_ra post L xs () (nI c) (nI i) := by
  unfold wpL_ra wpL_base
  rw [sq_bas]
  dsimp only
  have e : nI (8 + c * 18 + i * 3) + 1 = nI (8 + c * 18 + i * 3 + 1) := nI_1 _
  rw [e]
  refine sq_cel hL (by omega) ?_
  rw [pk_and _ 2 (by decide)]
  exact h
theorem sq_Rb {post : Int32 → Prop} {L : Nat} {xs : ke_F} {c i : Nat} (hL : L ≤ 260) (hc : c < 4) (hi : i < 16) (h : post (sq_rb L xs c i)) : wpL_rb post L xs () (nI c) (nI i) := by
  unfold wpL_rb wpL_base
  rw [sq_bas]
  dsimp only
  have e : nI (8 + c * 18 + i * 3) + 2 = nI (8 + c * 18 + i * 3 + 2) := nI_add _ 2
  rw [e]
  refine sq_cel hL (by omega) ?_
  refine sq_Op hL hc hi ?_
  unfold sq_rb at h
  have ho := sq_op_lt L xs c i
  generalize sq_op L xs c i = o at h ho ⊢
  have hpp : o = 0 ∨ o = 1 ∨ o = 2 ∨ o = 3 ∨ o = 4 ∨ o = 5 ∨ o = 6 ∨ o = 7 ∨ o = 8 := by omega
  rcases hpp with rfl | rfl | rfl | rfl | rfl | rfl | rfl | rfl | rfl
  · exact br_t rfl h
  · exact br_f (by decide) (br_t rfl h)
  · exact br_f (by decide) (br_f (by decide) (br_t rfl h))
  · exact br_f (by decide) (br_f (by decide) (br_f (by decide) (br_t rfl h)))
  · exact br_f (by decide) (br_f (by decide) (br_f (by decide) (br_f (by decide) (br_f (by decide) (br_f (by decide) (br_t rfl h))))))
  · exact br_f (by decide) (br_f (by decide) (br_f (by decide) (br_f (by decide) (br_t rfl h))))
  · exact br_f (by decide) (br_f (by decide) (br_f (by decide) (br_f (by decide) (br_f (by decide) (br_t rfl h)))))
  · exact br_f (by decide) (br_f (by decide) (br_f (by decide) (br_f (by decide) (br_f (by decide) (br_f (by decide) (br_f (by decide) (br_t rfl h)))))))
  · exact br_f (by decide) (br_f (by decide) (br_f (by decide) (br_f (by decide) (br_f (by decide) (br_f (by decide) (br_f (by decide) (br_f (by decide) (h))))))))
theorem sq_POk (L : Nat) (xs : ke_F) (c i : Nat) : sq_Ok (sq_P L xs c i) := by
  refine ⟨sq_op_lt L xs c i, sq_ra_lt L xs c i, fun h => ?_, fun h => ?_, fun h => ?_⟩
  · show ∃ m, m < 64 ∧ sq_rb L xs c i = nI m
    unfold sq_rb
    have h : sq_op L xs c i = 1 ∨ sq_op L xs c i = 2 := h
    obtain ⟨m, hm, e⟩ := pk_andE (sq_cl L xs (8 + c * 18 + i * 3 + 2)) (m := 15) 4 (by decide)
    refine ⟨m, Nat.lt_trans hm (by decide), ?_⟩
    rcases h with h | h <;> rw [h] <;> exact e
  · show ∃ m, m < 4 ∧ sq_rb L xs c i = nI m
    unfold sq_rb
    have h : sq_op L xs c i = 3 ∨ sq_op L xs c i = 5 ∨ sq_op L xs c i = 6 := h
    obtain ⟨m, hm, e⟩ := pk_andE (sq_cl L xs (8 + c * 18 + i * 3 + 2)) (m := 3) 2 (by decide)
    refine ⟨m, hm, ?_⟩
    rcases h with h | h | h <;> rw [h] <;> exact e
  · show ∃ m, 1 ≤ m ∧ m ≤ 16 ∧ sq_rb L xs c i = nI m
    unfold sq_rb
    have h : sq_op L xs c i = 8 := h
    obtain ⟨m, hm, e⟩ := pk_andE (sq_cl L xs (8 + c * 18 + i * 3 + 2)) (m := 3) 2 (by decide)
    refine ⟨1 + m, by omega, by omega, ?_⟩
    rw [h]
    show (1 : Int32) + (sq_cl L xs (8 + c * 18 + i * 3 + 2) &&& 3) = nI (1 + m)
    rw [e]
    exact nI_add 1 m
theorem sq_Ok_ke {i : sq_N} (h : sq_Ok i) : ke_Ok (nI i.1) (nI i.2.1) i.2.2 := ⟨i.1, i.2.1, h.1, h.2.1, rfl, rfl, h.2.2.1, h.2.2.2.1, h.2.2.2.2⟩
section
variable {W S R O : Int32} {mem ops oa ob len st pc reg res fp bv yb hb att ca co cn : Nat → Int32} {c : Nat}
theorem ke_Xap {post : Int32 → St2 → Prop} {i : Nat} {o a b : Int32} (hc : c < 4) (hs : st c = 0) (hl : len c = nI i) (hi : i < 16) (hok : ke_Ok o a b) (hp : post (nI (i + 1)) (W, S, R, O, mem, upd ops (c * 16 + i) o, upd oa (c * 16 + i) a, upd ob (c * 16 + i) b, upd len c (nI (i + 1)), st, pc, reg, res, fp, bv, hb, att, ca, co, cn)) : wpX_append post (W, S, R, O, mem, ops, oa, ob, len, st, pc, reg, res, fp, bv, hb, att, ca, co, cn) (nI c) o a b := by
  unfold wpX_append
  refine ke_co1 hc ?_
  refine br_f (by decide) ⟨ke_i4 hc, ?_⟩
  refine br_t (by rw [ke_k4 hc]; exact hs) ⟨ke_i4 hc, ?_⟩
  refine nm_r (e' := nI i) (by rw [ke_k4 hc]; exact hl) ?_
  refine br_f (nI_ge (b := 16) hi (by decide)) ?_
  refine ke_Xii (fun _ => ?_) (fun h => absurd hok h)
  have hA : vp_in (nI (c * 16 + i)) 64 := vp_in_nI (by omega) (by omega)
  have eA : (nI (c * 16 + i)).toNatClampNeg = c * 16 + i := nI_clamp (by omega)
  refine br_f (by decide) (nm_r (e' := nI (c * 16 + i)) (ke_x16 c i) ?_)
  refine ⟨hA, nm_r (e' := upd ops (c * 16 + i) o) (by rw [eA]) ⟨hA, nm_r (e' := upd oa (c * 16 + i) a) (by rw [eA]) ⟨hA, nm_r (e' := upd ob (c * 16 + i) b) (by rw [eA]) ⟨ke_i4 hc, nm_r (e' := upd len c (nI (i + 1))) (by rw [ke_k4 hc, nI_1]) ?_⟩⟩⟩⟩
  rw [nI_1]
  exact hp
theorem ke_Xen {post : Int32 → St2 → Prop} (hc : c < 4) (hs : st c = 0) (h0 : post 0 (W, S, R, O, mem, ops, oa, ob, len, st, pc, reg, res, fp, bv, hb, att, ca, co, cn)) (h1 : post 1 (W, S, R, O, mem, ops, oa, ob, len, upd st c 1, upd pc c 0, ke_fill reg (c * 4) 4, res, fp, bv, hb, upd att c 0, upd ca c 0, upd co c 0, cn)) : wpX_enter post (W, S, R, O, mem, ops, oa, ob, len, st, pc, reg, res, fp, bv, hb, att, ca, co, cn) (nI c) := by
  unfold wpX_enter
  refine ke_co1 hc ?_
  refine br_f (by decide) ⟨ke_i4 hc, ?_⟩
  refine br_t (by rw [ke_k4 hc]; exact hs) ⟨ke_i4 hc, ?_⟩
  by_cases hl : len c = 0
  · exact br_t (by rw [ke_k4 hc]; exact hl) h0
  · refine br_f (by rw [ke_k4 hc]; exact hl) ⟨ke_i4 hc, nm_r (e' := upd st c 1) (by rw [ke_k4 hc]) ?_⟩
    refine ke_Xrs hc ?_
    exact ⟨ke_i4 hc, nm_r (e' := upd att c 0) (by rw [ke_k4 hc]) ⟨ke_i4 hc, nm_r (e' := upd ca c 0) (by rw [ke_k4 hc]) ⟨ke_i4 hc, nm_r (e' := upd co c 0) (by rw [ke_k4 hc]) h1⟩⟩⟩
theorem ke_Xpk {post : Int32 → St2 → Prop} {a : Nat} {v : Int32} (ha : a < 64) (h0 : (∃ d, 0 ≤ d ∧ d < 4 ∧ (st d = 2 ∨ st d = 4)) → post 0 (W, S, R, O, mem, ops, oa, ob, len, st, pc, reg, res, fp, bv, hb, att, ca, co, cn)) (h1 : (∀ d, 0 ≤ d → d < 4 → ¬ st d = 2 ∧ ¬ st d = 4) → post 1 (W, S, R, O, upd mem a v, ops, oa, ob, len, st, pc, reg, res, fp, bv, hb, att, ca, co, cn)) : wpX_poke post (W, S, R, O, mem, ops, oa, ob, len, st, pc, reg, res, fp, bv, hb, att, ca, co, cn) (nI a) v := by
  unfold wpX_poke
  refine ke_g3 63 ha ?_
  refine br_f (by decide) ⟨5, ?_⟩
  refine ke_Xru 4 0 rfl (fun h => ?_) (fun h => ?_)
  · exact br_f (by decide) (h0 h)
  · exact br_t rfl ⟨vp_in_nI ha (by decide), nm_r (e' := upd mem a v) (by rw [nI_clamp (by omega)]) (h1 h)⟩
theorem ke_Xpe {post : Int32 → Prop} {a : Nat} (ha : a < 64) (hp : post (mem a)) : wpX_peek post (W, S, R, O, mem, ops, oa, ob, len, st, pc, reg, res, fp, bv, hb, att, ca, co, cn) (nI a) := by
  unfold wpX_peek
  refine ke_g3 63 ha ?_
  refine br_f (by decide) ⟨vp_in_nI ha (by decide), ?_⟩
  rw [nI_clamp (by omega)]
  exact hp
theorem ke_Xsa {post : Int32 → Prop} (hc : c < 4) (hp : post (st c)) : wpX_state post (W, S, R, O, mem, ops, oa, ob, len, st, pc, reg, res, fp, bv, hb, att, ca, co, cn) (nI c) := by
  unfold wpX_state
  refine ke_co1 hc ?_
  refine br_f (by decide) ⟨ke_i4 hc, ?_⟩
  rw [ke_k4 hc]
  exact hp
theorem ke_Xre {post : Int32 → Prop} {k : Nat} (hc : c < 4) (hk : k < 4) (hp : post (res (c * 4 + k))) : wpX_result post (W, S, R, O, mem, ops, oa, ob, len, st, pc, reg, res, fp, bv, hb, att, ca, co, cn) (nI c) (nI k) := by
  unfold wpX_result
  refine ke_co1 hc ?_
  refine br_f (by decide) ?_
  refine ke_g3 3 hk ?_
  refine br_f (by decide) ⟨ke_v4 hc hk, ?_⟩
  rw [ke_c4 hc hk]
  exact hp
end
end
section
section
variable {W S R O : Int32} {mem ops oa ob len st pc reg res fp bv yb hb att ca co cn : Nat → Int32} {c : Nat}
variable {L : Nat} {xs : Nat → Int32} {post : Int32 → Prop} {kc ks : Nat} {w2 s2 r2 : Int32}
variable {J : Int32 → Int32 → Int32 → Int32 → Int32 → (Nat → Int32) → (Nat → Int32) → (Nat → Int32) → (Nat → Int32) → (Nat → Int32) → (Nat → Int32) → (Nat → Int32) → (Nat → Int32) → (Nat → Int32) → (Nat → Int32) → (Nat → Int32) → (Nat → Int32) → (Nat → Int32) → (Nat → Int32) → (Nat → Int32) → (Nat → Int32) → Int32 → Int32 → Int32 → Int32 → (Nat → Int32) → (Nat → Int32) → (Nat → Int32) → (Nat → Int32) → (Nat → Int32) → (Nat → Int32) → (Nat → Int32) → (Nat → Int32) → (Nat → Int32) → (Nat → Int32) → (Nat → Int32) → (Nat → Int32) → (Nat → Int32) → (Nat → Int32) → (Nat → Int32) → (Nat → Int32) → Prop} {y3 y4 y5 : Int32}
theorem sq_sel {post : Int32 → Prop} {r : ke_F} {a : Nat} (ha : a < 4) (h : post (r a)) : wpL_sel post () (nI a) (r 0) (r 1) (r 2) (r 3) := by
  have : a = 0 ∨ a = 1 ∨ a = 2 ∨ a = 3 := by omega
  rcases this with rfl | rfl | rfl | rfl
  · exact br_t rfl h
  · exact br_f (by decide) (br_t rfl h)
  · exact br_f (by decide) (br_f (by decide) (br_t rfl h))
  · exact br_f (by decide) (br_f (by decide) (br_f (by decide) h))
theorem sq_6010 {J6 : Int32 → Int32 → Int32 → Int32 → Int32 → Int32 → Int32 → Int32 → Int32 → Int32 → (Nat → Int32) → (Nat → Int32) → (Nat → Int32) → (Nat → Int32) → (Nat → Int32) → (Nat → Int32) → (Nat → Int32) → (Nat → Int32) → (Nat → Int32) → (Nat → Int32) → (Nat → Int32) → (Nat → Int32) → (Nat → Int32) → (Nat → Int32) → (Nat → Int32) → (Nat → Int32) → Int32 → Int32 → Int32 → Int32 → (Nat → Int32) → (Nat → Int32) → (Nat → Int32) → (Nat → Int32) → (Nat → Int32) → (Nat → Int32) → (Nat → Int32) → (Nat → Int32) → (Nat → Int32) → (Nat → Int32) → (Nat → Int32) → (Nat → Int32) → (Nat → Int32) → (Nat → Int32) → (Nat → Int32) → (Nat → Int32) → Prop} {r M : ke_F} {g : Nat} {y15 y18 y23 : Int32} (h : J6 (r 0) (r 1) (r 2) (r 3) y23 (nI (g + 1)) W S R O mem ops oa ob len st pc reg res fp bv hb att ca co cn w2 s2 r2 (-1) M (fun _ => 0) (fun _ => 0) (fun _ => 0) (fun _ => 0) (fun _ => 0) (fun _ => 0) (fun _ => 0) (fun _ => 0) (fun _ => 0) (fun _ => 0) (fun _ => 0) (fun _ => 0) (fun _ => 0) (fun _ => 0) (fun _ => 0)) : wL_law_601 post L xs J J6 y3 y4 y5 (nI c) (r 0) (r 1) (r 2) (r 3) y15 (nI g) y18 0 0 y23 kc ks W S R O mem ops oa ob len st pc reg res fp bv hb att ca co cn w2 s2 r2 (-1) M (fun _ => 0) (fun _ => 0) (fun _ => 0) (fun _ => 0) (fun _ => 0) (fun _ => 0) (fun _ => 0) (fun _ => 0) (fun _ => 0) (fun _ => 0) (fun _ => 0) (fun _ => 0) (fun _ => 0) (fun _ => 0) (fun _ => 0) := br_t rfl (nm_r (nI_1 g) h)
theorem sq_6011 {J6 : Int32 → Int32 → Int32 → Int32 → Int32 → Int32 → Int32 → Int32 → Int32 → Int32 → (Nat → Int32) → (Nat → Int32) → (Nat → Int32) → (Nat → Int32) → (Nat → Int32) → (Nat → Int32) → (Nat → Int32) → (Nat → Int32) → (Nat → Int32) → (Nat → Int32) → (Nat → Int32) → (Nat → Int32) → (Nat → Int32) → (Nat → Int32) → (Nat → Int32) → (Nat → Int32) → Int32 → Int32 → Int32 → Int32 → (Nat → Int32) → (Nat → Int32) → (Nat → Int32) → (Nat → Int32) → (Nat → Int32) → (Nat → Int32) → (Nat → Int32) → (Nat → Int32) → (Nat → Int32) → (Nat → Int32) → (Nat → Int32) → (Nat → Int32) → (Nat → Int32) → (Nat → Int32) → (Nat → Int32) → (Nat → Int32) → Prop} {r M : ke_F} {g a : Nat} {y15 y23 v : Int32} (ha : a < 4) (h : J6 (upd r a v 0) (upd r a v 1) (upd r a v 2) (upd r a v 3) y23 (nI (g + 1)) W S R O mem ops oa ob len st pc reg res fp bv hb att ca co cn w2 s2 r2 (-1) M (fun _ => 0) (fun _ => 0) (fun _ => 0) (fun _ => 0) (fun _ => 0) (fun _ => 0) (fun _ => 0) (fun _ => 0) (fun _ => 0) (fun _ => 0) (fun _ => 0) (fun _ => 0) (fun _ => 0) (fun _ => 0) (fun _ => 0)) : wL_law_601 post L xs J J6 y3 y4 y5 (nI c) (r 0) (r 1) (r 2) (r 3) y15 (nI g) (nI a) 1 v y23 kc ks W S R O mem ops oa ob len st pc reg res fp bv hb att ca co cn w2 s2 r2 (-1) M (fun _ => 0) (fun _ => 0) (fun _ => 0) (fun _ => 0) (fun _ => 0) (fun _ => 0) (fun _ => 0) (fun _ => 0) (fun _ => 0) (fun _ => 0) (fun _ => 0) (fun _ => 0) (fun _ => 0) (fun _ => 0) (fun _ => 0) := by
  have : a = 0 ∨ a = 1 ∨ a = 2 ∨ a = 3 := by omega
  rcases this with rfl | rfl | rfl | rfl
  · exact br_f (by decide) (br_t rfl (nm_r (nI_1 g) h))
  · exact br_f (by decide) (br_f (by decide) (br_t rfl (nm_r (nI_1 g) h)))
  · exact br_f (by decide) (br_f (by decide) (br_f (by decide) (br_t rfl (nm_r (nI_1 g) h))))
  · exact br_f (by decide) (br_f (by decide) (br_f (by decide) (br_f (by decide) (nm_r (nI_1 g) h))))
theorem sq_st0 : ¬ ∃ d, 0 ≤ d ∧ d < 4 ∧ ((fun _ => 0 : ke_F) d = 2 ∨ (fun _ => 0 : ke_F) d = 4) := by
  intro h
  obtain ⟨d, _, _, h⟩ := h
  rcases h with h | h
  · exact absurd (show (0 : Int32) = 2 from h) (by decide)
  · exact absurd (show (0 : Int32) = 4 from h) (by decide)
theorem sq_rep {Q : ke_F} (hL : L ≤ 260) (hc : c < 4) (hfin : wL_law_658 post L xs J y3 y4 y5 (nI c) ((sq_it (sq_P L xs c) (sq_len L xs c) (sq_z Q) 17).1 0) ((sq_it (sq_P L xs c) (sq_len L xs c) (sq_z Q) 17).1 1) ((sq_it (sq_P L xs c) (sq_len L xs c) (sq_z Q) 17).1 2) ((sq_it (sq_P L xs c) (sq_len L xs c) (sq_z Q) 17).1 3) kc ks W S R O mem ops oa ob len st pc reg res fp bv hb att ca co cn w2 s2 r2 (-1) ((sq_it (sq_P L xs c) (sq_len L xs c) (sq_z Q) 17).2.2) (fun _ => 0) (fun _ => 0) (fun _ => 0) (fun _ => 0) (fun _ => 0) (fun _ => 0) (fun _ => 0) (fun _ => 0) (fun _ => 0) (fun _ => 0) (fun _ => 0) (fun _ => 0) (fun _ => 0) (fun _ => 0) (fun _ => 0)) : ∀ e g, g + e = 17 → wL_law_327 post L xs J y3 y4 y5 (nI c) (nI (sq_len L xs c)) kc ks (e + 1) ((sq_it (sq_P L xs c) (sq_len L xs c) (sq_z Q) g).1 0) ((sq_it (sq_P L xs c) (sq_len L xs c) (sq_z Q) g).1 1) ((sq_it (sq_P L xs c) (sq_len L xs c) (sq_z Q) g).1 2) ((sq_it (sq_P L xs c) (sq_len L xs c) (sq_z Q) g).1 3) (nI (sq_it (sq_P L xs c) (sq_len L xs c) (sq_z Q) g).2.1) (nI g) W S R O mem ops oa ob len st pc reg res fp bv hb att ca co cn w2 s2 r2 (-1) ((sq_it (sq_P L xs c) (sq_len L xs c) (sq_z Q) g).2.2) (fun _ => 0) (fun _ => 0) (fun _ => 0) (fun _ => 0) (fun _ => 0) (fun _ => 0) (fun _ => 0) (fun _ => 0) (fun _ => 0) (fun _ => 0) (fun _ => 0) (fun _ => 0) (fun _ => 0) (fun _ => 0) (fun _ => 0) := by
  have hlen := sq_len_le L xs c
  intro e
  induction e with
  | zero =>
    intro g hg
    have e : g = 17 := by omega
    subst e
    exact br_t (nI_lt (a := 16) (by decide) (by decide)) hfin
  | succ e ih =>
    intro g hg
    refine br_f (nI_nlt (b := g) (a := 16) (by omega) (by decide)) ?_
    by_cases hp : (sq_it (sq_P L xs c) (sq_len L xs c) (sq_z Q) g).2.1 < sq_len L xs c
    · have h1 := ih (g + 1) (by omega)
      have hst : sq_it (sq_P L xs c) (sq_len L xs c) (sq_z Q) (g + 1) = sq_st (sq_P L xs c) (sq_len L xs c) (sq_it (sq_P L xs c) (sq_len L xs c) (sq_z Q) g) := rfl
      rw [hst] at h1
      generalize (sq_it (sq_P L xs c) (sq_len L xs c) (sq_z Q) g) = s at h1 hp ⊢
      obtain ⟨r, p, M⟩ := s
      have hp : p < sq_len L xs c := hp
      refine br_f (nI_ge hp (by omega)) ?_
      have hok := sq_POk L xs c p
      have hs : sq_st (sq_P L xs c) (sq_len L xs c) (r, p, M) = (sq_r (sq_P L xs c p) r M, sq_p (sq_len L xs c) (sq_P L xs c p) r p, sq_m (sq_P L xs c p) r M) := if_pos hp
      rw [hs] at h1
      refine sq_Op hL hc (by omega) ?_
      refine sq_Ra hL hc (by omega) ?_
      refine sq_Rb hL hc (by omega) ?_
      refine sq_sel (r := r) (sq_ra_lt L xs c p) ?_
      refine nm_r (e' := nI (p + 1)) (nI_1 p) ?_
      have hN : sq_len L xs c ≤ 16 := by omega
      unfold sq_P at h1 hok
      generalize sq_op L xs c p = o at h1 hok ⊢
      generalize sq_ra L xs c p = a at h1 hok ⊢
      generalize sq_rb L xs c p = b at h1 hok ⊢
      generalize sq_len L xs c = N at h1 hN hp ⊢
      have ho : o < 9 := hok.1
      have ha : a < 4 := hok.2.1
      have hpp : o = 0 ∨ o = 1 ∨ o = 2 ∨ o = 3 ∨ o = 4 ∨ o = 5 ∨ o = 6 ∨ o = 7 ∨ o = 8 := by omega
      rcases hpp with rfl | rfl | rfl | rfl | rfl | rfl | rfl | rfl | rfl
      · rw [sq_p_1 (i := (0, a, b)) (show ¬ (0 : Nat) = 8 by decide)] at h1
        exact br_t rfl (sq_6011 ha h1)
      · rw [sq_p_1 (i := (1, a, b)) (show ¬ (1 : Nat) = 8 by decide)] at h1
        obtain ⟨m, hm, em⟩ := hok.2.2.1 (Or.inl rfl)
        have em : b = nI m := em
        subst em
        have e : sq_r (1, a, nI m) r M = upd r a (M m) := by
          show upd r a (M (sq_a (1, a, nI m) r)) = _
          have : sq_a (1, a, nI m) r = m := nI_clamp (by omega)
          rw [this]
        rw [e] at h1
        exact br_f (by decide) (br_t rfl (ke_Xpe hm (sq_6011 ha h1)))
      · rw [sq_p_1 (i := (2, a, b)) (show ¬ (2 : Nat) = 8 by decide)] at h1
        obtain ⟨m, hm, em⟩ := hok.2.2.1 (Or.inr rfl)
        have em : b = nI m := em
        subst em
        have e : sq_m (2, a, nI m) r M = upd M m (r a) := by
          show upd M (sq_a (2, a, nI m) r) (r a) = _
          have : sq_a (2, a, nI m) r = m := nI_clamp (by omega)
          rw [this]
        rw [e] at h1
        refine br_f (by decide) (br_f (by decide) (br_t rfl (ke_Xpk hm (fun h => ?_) (fun _ => ?_))))
        · exact absurd h sq_st0
        · exact sq_6010 h1
      · rw [sq_p_1 (i := (3, a, b)) (show ¬ (3 : Nat) = 8 by decide)] at h1
        obtain ⟨m, hm, em⟩ := hok.2.2.2.1 (Or.inl rfl)
        have em : b = nI m := em
        subst em
        have e : sq_r (3, a, nI m) r M = upd r a (r a + r m) := by
          show upd r a (r a + r (nI m).toNatClampNeg) = _
          rw [nI_clamp (by omega)]
        rw [e] at h1
        exact br_f (by decide) (br_f (by decide) (br_f (by decide) (br_t rfl (sq_sel hm (nm_e (sq_6011 ha h1))))))
      · rw [sq_p_1 (i := (4, a, b)) (show ¬ (4 : Nat) = 8 by decide)] at h1
        exact br_f (by decide) (br_f (by decide) (br_f (by decide) (br_f (by decide) (br_t rfl (nm_e (sq_6011 ha h1))))))
      · rw [sq_p_1 (i := (5, a, b)) (show ¬ (5 : Nat) = 8 by decide)] at h1
        obtain ⟨m, hm, em⟩ := hok.2.2.2.1 (Or.inr (Or.inl rfl))
        have em : b = nI m := em
        subst em
        obtain ⟨k, hk, ek⟩ := ke_and63 (r m)
        have e : sq_r (5, a, nI m) r M = upd r a (M k) := by
          show upd r a (M (r (nI m).toNatClampNeg &&& 63).toNatClampNeg) = _
          rw [nI_clamp (show m < 2 ^ 31 by omega), ek, nI_clamp (by omega)]
        rw [e] at h1
        refine br_f (by decide) (br_f (by decide) (br_f (by decide) (br_f (by decide) (br_f (by decide) (br_t rfl (sq_sel hm ?_))))))
        rw [ek]
        exact ke_Xpe hk (sq_6011 ha h1)
      · rw [sq_p_1 (i := (6, a, b)) (show ¬ (6 : Nat) = 8 by decide)] at h1
        obtain ⟨m, hm, em⟩ := hok.2.2.2.1 (Or.inr (Or.inr rfl))
        have em : b = nI m := em
        subst em
        obtain ⟨k, hk, ek⟩ := ke_and63 (r m)
        have e : sq_m (6, a, nI m) r M = upd M k (r a) := by
          show upd M (r (nI m).toNatClampNeg &&& 63).toNatClampNeg (r a) = _
          rw [nI_clamp (show m < 2 ^ 31 by omega), ek, nI_clamp (by omega)]
        rw [e] at h1
        refine br_f (by decide) (br_f (by decide) (br_f (by decide) (br_f (by decide) (br_f (by decide) (br_f (by decide) (br_t rfl (sq_sel hm ?_)))))))
        rw [ek]
        refine ke_Xpk hk (fun h => ?_) (fun _ => ?_)
        · exact absurd h sq_st0
        · exact sq_6010 h1
      · rw [sq_p_1 (i := (7, a, b)) (show ¬ (7 : Nat) = 8 by decide)] at h1
        exact br_f (by decide) (br_f (by decide) (br_f (by decide) (br_f (by decide) (br_f (by decide) (br_f (by decide) (br_f (by decide) (br_f (by decide) (sq_6010 h1))))))))
      · obtain ⟨m, hm1, hm, em⟩ := hok.2.2.2.2 rfl
        have em : b = nI m := em
        subst em
        have eb : nI p + nI m = nI (p + m) := nI_add p m
        refine br_f (by decide) (br_f (by decide) (br_f (by decide) (br_f (by decide) (br_f (by decide) (br_f (by decide) (br_f (by decide) (br_t rfl ?_)))))))
        by_cases z : r a = 0
        · have e : sq_p N (8, a, nI m) r p = p + 1 := if_neg (fun y => y.2 z)
          rw [e] at h1
          exact br_t z (sq_6010 h1)
        · have e : sq_p N (8, a, nI m) r p = if N < p + m then N else p + m := by
            show (if 8 = 8 ∧ ¬ r a = 0 then (if N < p + (nI m).toNatClampNeg then N else p + (nI m).toNatClampNeg) else p + 1) = _
            rw [if_pos ⟨rfl, z⟩, nI_clamp (by omega)]
          rw [e] at h1
          refine br_f z ?_
          by_cases y : N ≤ p + m
          · have e2 : (if N < p + m then N else p + m) = N := by split <;> omega
            rw [e2] at h1
            exact br_t (by rw [eb]; exact nI_le y (by omega)) (sq_6010 h1)
          · have e2 : (if N < p + m then N else p + m) = p + m := by split <;> omega
            rw [e2] at h1
            refine br_f (by rw [eb]; exact nI_ge (by omega) (by omega)) ?_
            rw [eb]
            exact sq_6010 h1
    · have e17 := sq_it_fix (n := g) (Nat.le_of_not_lt hp) (17 - g)
      have eg : g + (17 - g) = 17 := by omega
      rw [eg] at e17
      rw [e17] at hfin
      exact br_t (nI_le (by omega) (by have := sq_it_pc (L := sq_len L xs c) (fun i _ => sq_POk L xs c i) Q g; omega)) hfin
end
end
section
section
variable {W S R O : Int32} {mem ops oa ob len st pc reg res fp bv yb hb att ca co cn : Nat → Int32} {c : Nat}
variable {L : Nat} {xs : Nat → Int32} {post : Int32 → Prop} {kc ks : Nat} {w2 s2 r2 : Int32}
def sq_n (L : Nat) (xs : ke_F) (c i d : Nat) : Nat := if d < c then sq_len L xs d else if d = c then i else 0
def sq_Bd (L : Nat) (xs ops oa ob len : ke_F) (c i : Nat) : Prop := ∀ d, d < 4 → len d = nI (sq_n L xs c i d) ∧ ∀ j, j < sq_n L xs c i d → ops (d * 16 + j) = nI (sq_op L xs d j) ∧ oa (d * 16 + j) = nI (sq_ra L xs d j) ∧ ob (d * 16 + j) = sq_rb L xs d j
theorem sq_Bd_0 (o a b : ke_F) : sq_Bd L xs o a b (fun _ => 0) 0 0 := by
  intro d _
  have e : sq_n L xs 0 0 d = 0 := by
    unfold sq_n
    rw [if_neg (by omega)]
    split <;> rfl
  rw [e]
  exact ⟨nI_0.symm, fun j hj => absurd hj (Nat.not_lt_zero _)⟩
theorem sq_Bd_next (h : sq_Bd L xs ops oa ob len c (sq_len L xs c)) : sq_Bd L xs ops oa ob len (c + 1) 0 := by
  intro d hd
  have e : sq_n L xs (c + 1) 0 d = sq_n L xs c (sq_len L xs c) d := by
    unfold sq_n
    by_cases h1 : d < c
    · rw [if_pos h1, if_pos (by omega)]
    · rw [if_neg h1]
      by_cases h2 : d = c
      · subst h2; rw [if_pos rfl, if_pos (by omega)]
      · rw [if_neg h2, if_neg (by omega)]
        split <;> rfl
  rw [e]
  exact h d hd
theorem sq_Bd_app {i : Nat} (h : sq_Bd L xs ops oa ob len c i) (hc : c < 4) (hi : i < 16) : sq_Bd L xs (upd ops (c * 16 + i) (nI (sq_op L xs c i))) (upd oa (c * 16 + i) (nI (sq_ra L xs c i))) (upd ob (c * 16 + i) (sq_rb L xs c i)) (upd len c (nI (i + 1))) c (i + 1) := by
  intro d hd
  obtain ⟨h1, h2⟩ := h d hd
  by_cases e : d = c
  · subst e
    have e1 : sq_n L xs d i d = i := by unfold sq_n; rw [if_neg (by omega), if_pos rfl]
    have e2 : sq_n L xs d (i + 1) d = i + 1 := by unfold sq_n; rw [if_neg (by omega), if_pos rfl]
    rw [e2]
    rw [e1] at h2
    refine ⟨pk_us, fun j hj => ?_⟩
    by_cases ej : j = i
    · subst ej; rw [pk_us, pk_us, pk_us]; exact ⟨rfl, rfl, rfl⟩
    · have hn : d * 16 + j ≠ d * 16 + i := by omega
      rw [pk_un hn, pk_un hn, pk_un hn]; exact h2 j (by omega)
  · have e1 : sq_n L xs c (i + 1) d = sq_n L xs c i d := by
      unfold sq_n; rw [if_neg e, if_neg e]
    have hle : sq_n L xs c i d ≤ 6 := by
      unfold sq_n
      rw [if_neg e]
      split
      · exact (sq_len_le L xs d).2
      · omega
    rw [e1]
    refine ⟨by rw [pk_un e]; exact h1, fun j hj => ?_⟩
    have hn : d * 16 + j ≠ c * 16 + i := by omega
    rw [pk_un hn, pk_un hn, pk_un hn]; exact h2 j hj
theorem sq_62 {J : Int32 → Int32 → Int32 → Int32 → Int32 → (Nat → Int32) → (Nat → Int32) → (Nat → Int32) → (Nat → Int32) → (Nat → Int32) → (Nat → Int32) → (Nat → Int32) → (Nat → Int32) → (Nat → Int32) → (Nat → Int32) → (Nat → Int32) → (Nat → Int32) → (Nat → Int32) → (Nat → Int32) → (Nat → Int32) → (Nat → Int32) → Int32 → Int32 → Int32 → Int32 → (Nat → Int32) → (Nat → Int32) → (Nat → Int32) → (Nat → Int32) → (Nat → Int32) → (Nat → Int32) → (Nat → Int32) → (Nat → Int32) → (Nat → Int32) → (Nat → Int32) → (Nat → Int32) → (Nat → Int32) → (Nat → Int32) → (Nat → Int32) → (Nat → Int32) → (Nat → Int32) → Prop} (hL : L ≤ 260) (hc : c < 4) (hJ : ∀ ops oa ob len : ke_F, sq_Bd L xs ops oa ob len (c + 1) 0 → J (nI (c + 1)) W S R ((-1)) ((fun _ => 0)) ops oa ob len ((fun _ => 0)) ((fun _ => 0)) ((fun _ => 0)) ((fun _ => 0)) ((fun _ => 0)) ((fun _ => 0)) ((fun _ => 0)) ((fun _ => 0)) ((fun _ => 0)) ((fun _ => 0)) ((fun _ => 0)) w2 s2 r2 (-1) ((fun _ => 0)) (fun _ => 0) (fun _ => 0) (fun _ => 0) (fun _ => 0) (fun _ => 0) (fun _ => 0) (fun _ => 0) (fun _ => 0) (fun _ => 0) (fun _ => 0) (fun _ => 0) (fun _ => 0) (fun _ => 0) (fun _ => 0) (fun _ => 0)) : ∀ e i, i + e = sq_len L xs c → ∀ ops oa ob len : ke_F, sq_Bd L xs ops oa ob len c i → wL_law_62 post L xs J (nI c) (nI (sq_len L xs c)) kc ks (e + 1) (nI i) W S R ((-1)) ((fun _ => 0)) ops oa ob len ((fun _ => 0)) ((fun _ => 0)) ((fun _ => 0)) ((fun _ => 0)) ((fun _ => 0)) ((fun _ => 0)) ((fun _ => 0)) ((fun _ => 0)) ((fun _ => 0)) ((fun _ => 0)) ((fun _ => 0)) w2 s2 r2 (-1) ((fun _ => 0)) (fun _ => 0) (fun _ => 0) (fun _ => 0) (fun _ => 0) (fun _ => 0) (fun _ => 0) (fun _ => 0) (fun _ => 0) (fun _ => 0) (fun _ => 0) (fun _ => 0) (fun _ => 0) (fun _ => 0) (fun _ => 0) (fun _ => 0) := by
  have hlen := sq_len_le L xs c
  intro e
  induction e with
  | zero =>
    intro i hi ops oa ob len hB
    have e : i = sq_len L xs c := by omega
    subst e
    exact br_t (nI_le (Nat.le_refl _) (by omega)) (nm_r (nI_1 c) (hJ _ _ _ _ (sq_Bd_next hB)))
  | succ e ih =>
    intro i hi ops oa ob len hB
    refine br_f (nI_ge (by omega) (by omega)) ?_
    refine sq_Op hL hc (by omega) ?_
    refine sq_Ra hL hc (by omega) ?_
    refine sq_Rb hL hc (by omega) ?_
    have hl : len c = nI i := by
      have h := (hB c hc).1
      have e1 : sq_n L xs c i c = i := by unfold sq_n; rw [if_neg (by omega), if_pos rfl]
      rw [e1] at h
      exact h
    refine ke_Xap hc rfl hl (by omega) (sq_Ok_ke (sq_POk L xs c i)) ?_
    exact br_t (nI_1 i).symm (nm_r (nI_1 i) (ih (i + 1) (by omega) _ _ _ _ (sq_Bd_app hB hc (by omega))))
theorem sq_47 (hL : L ≤ 260) (hM : ∀ n3, n3 ≤ 180 → (∀ t, t < n3 → 80 + t < L) → ∀ ops oa ob len : ke_F, sq_Bd L xs ops oa ob len 4 0 → ∃ fu, wL_law_143 post L xs (nI n3) (nI (n3 + 2400)) kc ks fu 0 W S R ((-1)) ((fun _ => 0)) ops oa ob len ((fun _ => 0)) ((fun _ => 0)) ((fun _ => 0)) ((fun _ => 0)) ((fun _ => 0)) ((fun _ => 0)) ((fun _ => 0)) ((fun _ => 0)) ((fun _ => 0)) ((fun _ => 0)) ((fun _ => 0)) w2 s2 r2 (-1) ((fun _ => 0)) (fun _ => 0) (fun _ => 0) (fun _ => 0) (fun _ => 0) (fun _ => 0) (fun _ => 0) (fun _ => 0) (fun _ => 0) (fun _ => 0) (fun _ => 0) (fun _ => 0) (fun _ => 0) (fun _ => 0) (fun _ => 0) (fun _ => 0)) : ∀ e c, c + e = 4 → ∀ ops oa ob len : ke_F, sq_Bd L xs ops oa ob len c 0 → wL_law_47 post L xs kc ks (e + 1) (nI c) W S R ((-1)) ((fun _ => 0)) ops oa ob len ((fun _ => 0)) ((fun _ => 0)) ((fun _ => 0)) ((fun _ => 0)) ((fun _ => 0)) ((fun _ => 0)) ((fun _ => 0)) ((fun _ => 0)) ((fun _ => 0)) ((fun _ => 0)) ((fun _ => 0)) w2 s2 r2 (-1) ((fun _ => 0)) (fun _ => 0) (fun _ => 0) (fun _ => 0) (fun _ => 0) (fun _ => 0) (fun _ => 0) (fun _ => 0) (fun _ => 0) (fun _ => 0) (fun _ => 0) (fun _ => 0) (fun _ => 0) (fun _ => 0) (fun _ => 0) (fun _ => 0) := by
  intro e
  induction e with
  | zero =>
    intro c hc ops oa ob len hB
    have e : c = 4 := by omega
    subst e
    refine br_t (nI_le (Nat.le_refl 4) (by decide)) ?_
    by_cases h : L ≤ 80
    · exact br_t (nI_le (a := L) (b := 80) h (by decide)) (nm_r (e' := nI (0 + 2400)) (by decide) (hM 0 (by omega) (fun t ht => absurd ht (Nat.not_lt_zero _)) _ _ _ _ hB))
    · have e1 : Int32.ofNat L - 80 = nI (L - 80) := pk_sub (a := L) (b := 80) (by omega)
      have e2 : nI (L - 80) + 2400 = nI (L - 80 + 2400) := nI_add _ 2400
      exact br_f (nI_ge (a := 80) (b := L) (by omega) (by omega)) (nm_r (e' := nI (L - 80)) e1 (nm_r (e' := nI (L - 80 + 2400)) e2 (hM (L - 80) (by omega) (fun t ht => by omega) _ _ _ _ hB)))
  | succ e ih =>
    intro c hc ops oa ob len hB
    have hc4 : c < 4 := by omega
    refine br_f (nI_ge (b := 4) (by omega) (by decide)) ?_
    refine sq_Len hL hc4 ⟨sq_len L xs c + 1, ?_⟩
    exact sq_62 hL hc4 (fun ops oa ob len h => ih (c + 1) (by omega) ops oa ob len h) (sq_len L xs c) 0 (Nat.zero_add _) ops oa ob len hB
end
end
section
section
variable {W S R O : Int32} {mem ops oa ob len st pc reg res fp bv yb hb att ca co cn : Nat → Int32} {c : Nat}
variable {L : Nat} {xs : Nat → Int32} {post : Int32 → Prop} {kc ks : Nat} {w2 s2 r2 : Int32}
variable {J : Int32 → Int32 → Int32 → Int32 → Int32 → (Nat → Int32) → (Nat → Int32) → (Nat → Int32) → (Nat → Int32) → (Nat → Int32) → (Nat → Int32) → (Nat → Int32) → (Nat → Int32) → (Nat → Int32) → (Nat → Int32) → (Nat → Int32) → (Nat → Int32) → (Nat → Int32) → (Nat → Int32) → (Nat → Int32) → (Nat → Int32) → Int32 → Int32 → Int32 → Int32 → (Nat → Int32) → (Nat → Int32) → (Nat → Int32) → (Nat → Int32) → (Nat → Int32) → (Nat → Int32) → (Nat → Int32) → (Nat → Int32) → (Nat → Int32) → (Nat → Int32) → (Nat → Int32) → (Nat → Int32) → (Nat → Int32) → (Nat → Int32) → (Nat → Int32) → (Nat → Int32) → Prop} {y3 y4 : Int32} {t : Nat}
def sq_V (L : Nat) (xs Q : ke_F) (S O : Int32) (mem ops oa ob len st pc reg fp hb bv : ke_F) : Prop := (∃ d, 1 ≤ d ∧ d ≤ 4 ∧ S = nI d) ∧ sq_Bd L xs ops oa ob len 4 0 ∧ ke_N 3 fp ∧ sq_G (sq_P L xs) (sq_len L xs) Q O mem st pc reg fp hb bv
theorem sq_copy_at (d s : ke_F) (b : Nat) : ∀ n k, k < n → ke_copy d s b n (b + k) = s (b + k) := by
  intro n
  induction n with
  | zero => intro k hk; omega
  | succ n ih =>
    intro k hk
    by_cases e : k = n
    · subst e; exact pk_us
    · have e1 : ke_copy d s b (n + 1) (b + k) = ke_copy d s b n (b + k) := pk_un (by omega)
      rw [e1]; exact ih k (by omega)
theorem sq_con_N {R : Int32} {l : Nat} {f : Int32} {t : ke_T} (h : ke_N 3 t.2.2.2.1) : ∀ n, ke_N 3 (ke_con R l f c t n).2.2.2.1 := by
  intro n
  induction n with
  | zero => exact h
  | succ n ih =>
    unfold ke_con
    split
    · exact ke_N_fill ih _ _
    · exact ih
theorem sq_acq_N {R : Int32} {t : ke_T} (h : ke_N 3 t.2.2.2.1) : ∀ n, ke_N 3 (ke_acq R t n).2.2.2.1 := by
  intro n
  induction n with
  | zero => exact h
  | succ n ih =>
    unfold ke_acq
    split
    · exact ke_N_fill ih _ _
    · exact ih
theorem sq_ad_row {i : sq_N} {reg' : ke_F} (h : sq_Ok i) (hr : ∀ j, j < 4 → reg' (c * 4 + j) = reg (c * 4 + j)) : ke_ad i.1 i.2.2 c reg' = ke_ad i.1 i.2.2 c reg := by
  unfold ke_ad
  split
  · rename_i z
    obtain ⟨m, hm, e⟩ := h.2.2.2.1 (by omega)
    have e2 : i.2.2.toNatClampNeg = m := by rw [e, nI_clamp (by omega)]
    rw [e2, hr m hm]
  · rfl
theorem sq_301 {Q mem' reg0 : ke_F} (hL : L ≤ 260) (hc : c < 4) (hit : sq_it (sq_P L xs c) (sq_len L xs c) (sq_z Q) 17 = (sq_row reg0 c, sq_len L xs c, mem')) (hJ : J (nI (t + 1)) W S R O mem ops oa ob len st pc reg (ke_copy res reg0 (c * 4) 4) fp bv hb att ca co cn w2 s2 r2 (-1) (mem') (fun _ => 0) (fun _ => 0) (fun _ => 0) (fun _ => 0) (fun _ => 0) (fun _ => 0) (fun _ => 0) (fun _ => 0) (fun _ => 0) (fun _ => 0) (fun _ => 0) (fun _ => 0) (fun _ => 0) (fun _ => 0) (fun _ => 0)) : wL_law_301 post L xs J y3 y4 (nI t) (nI c) kc ks W S R O mem ops oa ob len st pc reg (ke_copy res reg0 (c * 4) 4) fp bv hb att ca co cn w2 s2 r2 (-1) Q (fun _ => 0) (fun _ => 0) (fun _ => 0) (fun _ => 0) (fun _ => 0) (fun _ => 0) (fun _ => 0) (fun _ => 0) (fun _ => 0) (fun _ => 0) (fun _ => 0) (fun _ => 0) (fun _ => 0) (fun _ => 0) (fun _ => 0) := by
  unfold wL_law_301
  refine sq_Len hL hc ⟨18, ?_⟩
  refine sq_rep hL hc ?_ 17 0 rfl
  rw [hit]
  have e : ∀ k, k < 4 → ke_copy res reg0 (c * 4) 4 (c * 4 + k) = sq_row reg0 c k := fun k hk => (sq_copy_at res reg0 (c * 4) 4 k hk).trans (sq_row_at hk).symm
  unfold wL_law_658
  refine ke_Xre (k := 0) hc (by decide) (br_t (e 0 (by decide)) ?_)
  refine ke_Xre (k := 1) hc (by decide) (br_t (e 1 (by decide)) ?_)
  refine ke_Xre (k := 2) hc (by decide) (br_t (e 2 (by decide)) ?_)
  refine ke_Xre (k := 3) hc (by decide) (br_t (e 3 (by decide)) ?_)
  exact nm_r (nI_1 t) hJ
theorem sq_743 : ∀ e i, i + e = 64 → wL_law_743 (fun r => r = 1) L xs kc ks W S R O mem ops oa ob len st pc reg res fp bv hb att ca co cn w2 s2 r2 (-1) mem (fun _ => 0) (fun _ => 0) (fun _ => 0) (fun _ => 0) (fun _ => 0) (fun _ => 0) (fun _ => 0) (fun _ => 0) (fun _ => 0) (fun _ => 0) (fun _ => 0) (fun _ => 0) (fun _ => 0) (fun _ => 0) (fun _ => 0) (e + 1) (nI i) := by
  intro e
  induction e with
  | zero =>
    intro i hi
    have e : i = 64 := by omega
    subst e
    exact br_t (nI_le (Nat.le_refl 64) (by decide)) rfl
  | succ e ih =>
    intro i hi
    refine br_f (nI_ge (b := 64) (by omega) (by decide)) ?_
    refine ke_Xpe (by omega) ?_
    refine ke_Xpe (by omega) ?_
    exact br_t rfl (nm_r (nI_1 i) (ih (i + 1) (by omega)))
theorem sq_717 {Q : ke_F} (hV : sq_V L xs Q S O mem ops oa ob len st pc reg fp hb bv) : ∀ e i, i + e = 4 → (∀ d, d < i → st d = 0) → wL_law_717 (fun r => r = 1) L xs kc ks W S R O mem ops oa ob len st pc reg res fp bv hb att ca co cn w2 s2 r2 (-1) Q (fun _ => 0) (fun _ => 0) (fun _ => 0) (fun _ => 0) (fun _ => 0) (fun _ => 0) (fun _ => 0) (fun _ => 0) (fun _ => 0) (fun _ => 0) (fun _ => 0) (fun _ => 0) (fun _ => 0) (fun _ => 0) (fun _ => 0) (e + 1) (nI i) := by
  intro e
  induction e with
  | zero =>
    intro i hi h0
    have e : i = 4 := by omega
    subst e
    refine br_t (nI_le (Nat.le_refl 4) (by decide)) ⟨65, ?_⟩
    have hQ : Q = mem := by
      rcases hV.2.2.2.2.2 with z | ⟨d, hd, _, e4⟩
      · exact z.2
      · rw [h0 d hd] at e4; exact absurd e4 (by decide)
    rw [hQ]
    exact sq_743 64 0 rfl
  | succ e ih =>
    intro i hi h0
    refine br_f (nI_ge (b := 4) (by omega) (by decide)) (ke_Xsa (by omega) ?_)
    by_cases z : st i = 0
    · refine br_t z (nm_r (nI_1 i) (ih (i + 1) (by omega) (fun d hd => ?_)))
      by_cases e : d = i
      · rw [e]; exact z
      · exact h0 d (by omega)
    · exact br_f z rfl
theorem sq_204s {Q : ke_F} {x6 z0 : Int32} (hz0 : ¬ z0 = 0) (hz3 : ¬ z0 = 3) (hL : L ≤ 260) (hc : c < 4) (hV : sq_V L xs Q S O mem ops oa ob len st pc reg fp hb bv) (hJ : ∀ (O : Int32) (mem st pc reg res fp bv hb att ca co cn Q : ke_F), sq_V L xs Q S O mem ops oa ob len st pc reg fp hb bv → J (nI (t + 1)) W S R O mem ops oa ob len st pc reg res fp bv hb att ca co cn w2 s2 r2 (-1) Q (fun _ => 0) (fun _ => 0) (fun _ => 0) (fun _ => 0) (fun _ => 0) (fun _ => 0) (fun _ => 0) (fun _ => 0) (fun _ => 0) (fun _ => 0) (fun _ => 0) (fun _ => 0) (fun _ => 0) (fun _ => 0) (fun _ => 0)) : wL_law_204 post L xs J y3 y4 (nI t) x6 (nI c) z0 kc ks W S R O mem ops oa ob len st pc reg res fp bv hb att ca co cn w2 s2 r2 (-1) Q (fun _ => 0) (fun _ => 0) (fun _ => 0) (fun _ => 0) (fun _ => 0) (fun _ => 0) (fun _ => 0) (fun _ => 0) (fun _ => 0) (fun _ => 0) (fun _ => 0) (fun _ => 0) (fun _ => 0) (fun _ => 0) (fun _ => 0) := by
  have hVV := hV
  obtain ⟨hS, hB, hN, hG⟩ := hV
  have hlen := sq_len_le L xs c
  have hC := hG.1 c hc
  obtain ⟨q, i, hq, hi16, hs, hi, _, _⟩ := hC
  obtain ⟨hl0, hP0⟩ := hB c hc
  have en : sq_n L xs 4 0 c = sq_len L xs c := by unfold sq_n; rw [if_pos hc]
  rw [en] at hl0 hP0
  refine br_f hz0 (br_f hz3 ?_)
  have hqq : q = 0 ∨ q = 1 ∨ q = 3 ∨ q = 2 ∨ q = 4 := by omega
  rcases hqq with rfl | rfl | rfl | rfl | rfl
  · exact ke_T0 hc hs (br_f (by decide) (br_f (by decide) (nm_r (nI_1 t) (hJ _ _ _ _ _ _ _ _ _ _ _ _ _ _ hVV))))
  · by_cases hO : O = -1
    · exact ke_T1 hc hs hO (br_f (by decide) (br_f (by decide) (nm_r (nI_1 t) (hJ _ _ _ _ _ _ _ _ _ _ _ _ _ _ ⟨hS, hB, ke_N_upd (p := 1) (ke_N_fill hN _ _) (by omega) rfl, sq_begin hG hO hc⟩))))
    · exact ke_T1b hc hs hO (br_f (by decide) (br_f (by decide) (nm_r (nI_1 t) (hJ _ _ _ _ _ _ _ _ _ _ _ _ _ _ hVV))))
  · by_cases hO : O = -1
    · refine ke_T3 (yb := fun _ => 0) hc hs hO ?_
      exact br_f (by decide) (br_f (by decide) (nm_r (nI_1 t) (hJ _ _ _ _ _ _ _ _ _ _ _ _ _ _ ⟨hS, hB, sq_acq_N hN 4, sq_acquire (t := (st, pc, reg, fp, hb, att, ca, co, cn, (fun _ => 0))) hG hO hc⟩)))
    · exact ke_T3b hc hs hO (br_f (by decide) (br_f (by decide) (nm_r (nI_1 t) (hJ _ _ _ _ _ _ _ _ _ _ _ _ _ _ hVV))))
  · by_cases hiL : i < sq_len L xs c
    · obtain ⟨ho, eq, eb⟩ := hP0 i hiL
      have hok := sq_POk L xs c i
      have hok2 : ke_Ok (nI (sq_op L xs c i)) (nI (sq_ra L xs c i)) (sq_rb L xs c i) := sq_Ok_ke hok
      have hp9 := sq_op_lt L xs c i
      have hq4 := sq_ra_lt L xs c i
      by_cases hp7 : sq_op L xs c i = 7
      · refine ke_T27 hc ho eq eb hi hl0 (by omega) hiL hok2 hp9 hq4 hs hp7 ?_
        exact br_f (by decide) (br_f (by decide) (nm_r (nI_1 t) (hJ _ _ _ _ _ _ _ _ _ _ _ _ _ _ ⟨hS, hB, ke_N_fill hN _ _, sq_abort (ca := 3) (co := 0) (t := (st, pc, reg, fp, hb, att, ca, co, cn, (fun _ => 0))) hG hc hs⟩)))
      obtain ⟨d, hd1, hd4, eS⟩ := hS
      by_cases hpl : sq_op L xs c i = 1 ∨ sq_op L xs c i = 5
      · by_cases hov : ke_ov W d fp c (ke_ad (sq_op L xs c i) (sq_rb L xs c i) c reg / 4)
        · refine ke_T2ol hc ho eq eb hi hl0 (by omega) hiL hok2 hp9 hq4 hs hpl eS hd1 hd4 rfl rfl hov ?_
          exact br_f (by decide) (br_f (by decide) (nm_r (nI_1 t) (hJ _ _ _ _ _ _ _ _ _ _ _ _ _ _ ⟨⟨d, hd1, hd4, eS⟩, hB, ke_N_fill hN _ _, sq_abort (ca := 2) (co := 0) (t := (st, pc, reg, fp, hb, att, ca, co, cn, (fun _ => 0))) hG hc hs⟩)))
        · refine ke_T2l (yb := fun _ => 0) hc ho eq eb hi hl0 (by omega) hiL hok2 hp9 hq4 hs hpl eS hd1 hd4 rfl rfl hov ?_
          have hm64 : ke_ad (sq_op L xs c i) (sq_rb L xs c i) c reg < 64 := ke_ad_lt c reg hok2 (by omega)
          have hl17 : ke_ad (sq_op L xs c i) (sq_rb L xs c i) c reg / 4 < 17 := by omega
          have hrow := (sq_con R hl17 2 c (st, pc, reg, fp, hb, att, ca, co, cn, (fun _ => 0)) 4 c).1 (fun z => z.2.1 rfl)
          have hcon := sq_con R hl17 2 c (st, pc, reg, fp, hb, att, ca, co, cn, (fun _ => 0)) 4
          have hGc := sq_conG (R := R) (f := 2) (c := c) (t := (st, pc, reg, fp, hb, att, ca, co, cn, (fun _ => 0))) hG hl17
          have hNc := sq_con_N (R := R) (l := ke_ad (sq_op L xs c i) (sq_rb L xs c i) c reg / 4) (f := 2) (c := c) (t := (st, pc, reg, fp, hb, att, ca, co, cn, (fun _ => 0))) hN 4
          generalize ke_con R (ke_ad (sq_op L xs c i) (sq_rb L xs c i) c reg / 4) 2 c (st, pc, reg, fp, hb, att, ca, co, cn, (fun _ => 0)) 4 = u at hrow hcon hGc hNc ⊢
          obtain ⟨r1, r2', r3, r4, r5⟩ := hrow
          have r1 : u.1 c = 2 := r1.trans hs
          have r2' : u.2.1 c = nI i := r2'.trans hi
          have e : u.2.1 c + 1 = nI (i + 1) := by rw [r2', nI_1]
          rw [e]
          have hm : ke_ad (sq_op L xs c i) (sq_rb L xs c i) c reg = ke_ad (sq_P L xs c i).1 (sq_P L xs c i).2.2 c u.2.2.1 := (sq_ad_row hok r3).symm
          obtain ⟨n, hn3, en3⟩ := hNc (c * 17 + ke_ad (sq_op L xs c i) (sq_rb L xs c i) c reg / 4)
          obtain ⟨p', hp', ep'⟩ := ke_or1 hn3 en3
          refine br_f (by decide) (br_f (by decide) (nm_r (nI_1 t) (hJ _ _ _ _ _ _ _ _ _ _ _ _ _ _ ⟨⟨d, hd1, hd4, eS⟩, hB, ke_N_upd hNc hp' ep', sq_spec_ld hGc hNc hc r1 r2' hiL (by omega) hok hpl hm ?_⟩)))
          intro x hx hxc hx2
          by_cases hh : sq_Hit (ke_ad (sq_op L xs c i) (sq_rb L xs c i) c reg / 4) 2 c (st, pc, reg, fp, hb, att, ca, co, cn, (fun _ => 0)) x
          · obtain ⟨o1, _⟩ := (hcon x).2 ⟨hx, hh⟩
            rw [hx2] at o1
            rcases o1 with o | o <;> exact absurd o (by decide)
          · have hr := (hcon x).1 (fun z => hh z.2)
            rw [hr.2.2.2.1 _ hl17]
            exact Decidable.byContradiction (fun z => hh ⟨hxc, hr.1.symm.trans hx2, z⟩)
      by_cases hps : sq_op L xs c i = 2 ∨ sq_op L xs c i = 6
      · by_cases hov : ke_ov W d fp c (ke_ad (sq_op L xs c i) (sq_rb L xs c i) c reg / 4)
        · refine ke_T2os hc ho eq eb hi hl0 (by omega) hiL hok2 hp9 hq4 hs hps eS hd1 hd4 rfl rfl hov ?_
          exact br_f (by decide) (br_f (by decide) (nm_r (nI_1 t) (hJ _ _ _ _ _ _ _ _ _ _ _ _ _ _ ⟨⟨d, hd1, hd4, eS⟩, hB, ke_N_fill hN _ _, sq_abort (ca := 2) (co := 0) (t := (st, pc, reg, fp, hb, att, ca, co, cn, (fun _ => 0))) hG hc hs⟩)))
        · refine ke_T2s (yb := fun _ => 0) hc ho eq eb hi hl0 (by omega) hiL hok2 hp9 hq4 hs hps eS hd1 hd4 rfl rfl hov ?_
          have hm64 : ke_ad (sq_op L xs c i) (sq_rb L xs c i) c reg < 64 := ke_ad_lt c reg hok2 (by omega)
          have hl17 : ke_ad (sq_op L xs c i) (sq_rb L xs c i) c reg / 4 < 17 := by omega
          have hrow := (sq_con R hl17 3 c (st, pc, reg, fp, hb, att, ca, co, cn, (fun _ => 0)) 4 c).1 (fun z => z.2.1 rfl)
          have hcon := sq_con R hl17 3 c (st, pc, reg, fp, hb, att, ca, co, cn, (fun _ => 0)) 4
          have hGc := sq_conG (R := R) (f := 3) (c := c) (t := (st, pc, reg, fp, hb, att, ca, co, cn, (fun _ => 0))) hG hl17
          have hNc := sq_con_N (R := R) (l := ke_ad (sq_op L xs c i) (sq_rb L xs c i) c reg / 4) (f := 3) (c := c) (t := (st, pc, reg, fp, hb, att, ca, co, cn, (fun _ => 0))) hN 4
          generalize ke_con R (ke_ad (sq_op L xs c i) (sq_rb L xs c i) c reg / 4) 3 c (st, pc, reg, fp, hb, att, ca, co, cn, (fun _ => 0)) 4 = u at hrow hcon hGc hNc ⊢
          obtain ⟨r1, r2', r3, r4, r5⟩ := hrow
          have r1 : u.1 c = 2 := r1.trans hs
          have r2' : u.2.1 c = nI i := r2'.trans hi
          have e : u.2.1 c + 1 = nI (i + 1) := by rw [r2', nI_1]
          rw [e]
          have hm : ke_ad (sq_op L xs c i) (sq_rb L xs c i) c reg = ke_ad (sq_P L xs c i).1 (sq_P L xs c i).2.2 c u.2.2.1 := (sq_ad_row hok r3).symm
          obtain ⟨n, hn3, en3⟩ := hNc (c * 17 + ke_ad (sq_op L xs c i) (sq_rb L xs c i) c reg / 4)
          obtain ⟨p', hp', ep'⟩ := ke_or2 hn3 en3
          refine br_f (by decide) (br_f (by decide) (nm_r (nI_1 t) (hJ _ _ _ _ _ _ _ _ _ _ _ _ _ _ ⟨⟨d, hd1, hd4, eS⟩, hB, ke_N_upd hNc hp' ep', sq_spec_sr hGc hNc hc r1 r2' hiL (by omega) hok hps hm ?_⟩)))
          intro x hx hxc hx2
          by_cases hh : sq_Hit (ke_ad (sq_op L xs c i) (sq_rb L xs c i) c reg / 4) 3 c (st, pc, reg, fp, hb, att, ca, co, cn, (fun _ => 0)) x
          · obtain ⟨o1, _⟩ := (hcon x).2 ⟨hx, hh⟩
            rw [hx2] at o1
            rcases o1 with o | o <;> exact absurd o (by decide)
          · have hr := (hcon x).1 (fun z => hh z.2)
            rw [hr.2.2.2.1 _ hl17]
            exact Decidable.byContradiction (fun z => hh ⟨hxc, hr.1.symm.trans hx2, z⟩)
      refine ke_T2x hc ho eq eb hi hl0 (by omega) hiL hok2 hp9 hq4 hs (by omega) ?_
      exact br_f (by decide) (br_f (by decide) (nm_r (nI_1 t) (hJ _ _ _ _ _ _ _ _ _ _ _ _ _ _ ⟨⟨d, hd1, hd4, eS⟩, hB, hN, sq_spec_x hG hc hs hi hiL (by omega) hok (show ¬ (sq_op L xs c i = 1 ∨ sq_op L xs c i = 2 ∨ sq_op L xs c i = 5 ∨ sq_op L xs c i = 6) by omega)⟩)))
    · have hl : ¬ pc c < len c := by rw [hi, hl0]; exact nI_nlt (by omega) (by omega)
      obtain ⟨h1, h2⟩ := sq_commit hG hc hs hi hi16 (by omega) (by omega) (fun j _ => sq_POk L xs c j)
      refine ke_T2e hc hs hl (br_t rfl ?_)
      exact sq_301 hL hc h1 (hJ _ _ _ _ _ _ _ _ _ _ _ _ _ _ ⟨hS, hB, ke_N_fill hN _ _, h2⟩)
  · by_cases hiL : i < sq_len L xs c
    · obtain ⟨ho, eq, eb⟩ := hP0 i hiL
      have hok := sq_POk L xs c i
      have hok2 : ke_Ok (nI (sq_op L xs c i)) (nI (sq_ra L xs c i)) (sq_rb L xs c i) := sq_Ok_ke hok
      have hp9 := sq_op_lt L xs c i
      have hq4 := sq_ra_lt L xs c i
      have e : pc c + 1 = nI (i + 1) := by rw [hi, nI_1]
      by_cases hpl : sq_op L xs c i = 1 ∨ sq_op L xs c i = 5
      · refine ke_T4l hc ho eq eb hi hl0 (by omega) hiL hok2 hp9 hq4 hs hpl ?_
        rw [e]
        exact br_f (by decide) (br_f (by decide) (nm_r (nI_1 t) (hJ _ _ _ _ _ _ _ _ _ _ _ _ _ _ ⟨hS, hB, hN, sq_lock_ld hG hc hs hi hiL (by omega) hok hpl⟩)))
      by_cases hps : sq_op L xs c i = 2 ∨ sq_op L xs c i = 6
      · refine ke_T4s hc ho eq eb hi hl0 (by omega) hiL hok2 hp9 hq4 hs hps ?_
        rw [e]
        exact br_f (by decide) (br_f (by decide) (nm_r (nI_1 t) (hJ _ _ _ _ _ _ _ _ _ _ _ _ _ _ ⟨hS, hB, hN, sq_lock_sr hG hc hs hi hiL (by omega) hok hps⟩)))
      refine ke_T4x hc ho eq eb hi hl0 (by omega) hiL hok2 hp9 hq4 hs (by omega) ?_
      exact br_f (by decide) (br_f (by decide) (nm_r (nI_1 t) (hJ _ _ _ _ _ _ _ _ _ _ _ _ _ _ ⟨hS, hB, hN, sq_lock_x hG hc hs hi hiL (by omega) hok (show ¬ (sq_op L xs c i = 1 ∨ sq_op L xs c i = 2 ∨ sq_op L xs c i = 5 ∨ sq_op L xs c i = 6) by omega)⟩)))
    · have hl : ¬ pc c < len c := by rw [hi, hl0]; exact nI_nlt (by omega) (by omega)
      obtain ⟨h1, h2⟩ := sq_release hG hc hs hi hi16 (by omega) (by omega) (fun j _ => sq_POk L xs c j)
      refine ke_T4e hc hs hl (br_f (by decide) (br_t rfl ?_))
      exact sq_301 hL hc h1 (hJ _ _ _ _ _ _ _ _ _ _ _ _ _ _ ⟨hS, hB, hN, h2⟩)
theorem sq_204 {Q : ke_F} {x6 z0 : Int32} (hL : L ≤ 260) (hc : c < 4) (hV : sq_V L xs Q S O mem ops oa ob len st pc reg fp hb bv) (hJ : ∀ (O : Int32) (mem st pc reg res fp bv hb att ca co cn Q : ke_F), sq_V L xs Q S O mem ops oa ob len st pc reg fp hb bv → J (nI (t + 1)) W S R O mem ops oa ob len st pc reg res fp bv hb att ca co cn w2 s2 r2 (-1) Q (fun _ => 0) (fun _ => 0) (fun _ => 0) (fun _ => 0) (fun _ => 0) (fun _ => 0) (fun _ => 0) (fun _ => 0) (fun _ => 0) (fun _ => 0) (fun _ => 0) (fun _ => 0) (fun _ => 0) (fun _ => 0) (fun _ => 0)) : wL_law_204 post L xs J y3 y4 (nI t) x6 (nI c) z0 kc ks W S R O mem ops oa ob len st pc reg res fp bv hb att ca co cn w2 s2 r2 (-1) Q (fun _ => 0) (fun _ => 0) (fun _ => 0) (fun _ => 0) (fun _ => 0) (fun _ => 0) (fun _ => 0) (fun _ => 0) (fun _ => 0) (fun _ => 0) (fun _ => 0) (fun _ => 0) (fun _ => 0) (fun _ => 0) (fun _ => 0) := by
  by_cases hz0 : z0 = 0
  · refine br_t hz0 (ke_Xsa hc ?_)
    by_cases hs : st c = 0
    · refine br_t hs (ke_Xen hc hs ?_ ?_)
      · exact nm_r (nI_1 t) (hJ _ _ _ _ _ _ _ _ _ _ _ _ _ _ hV)
      · exact nm_r (nI_1 t) (hJ _ _ _ _ _ _ _ _ _ _ _ _ _ _ ⟨hV.1, hV.2.1, hV.2.2.1, sq_enter hV.2.2.2 hc hs⟩)
    · exact br_f hs (nm_r (nI_1 t) (hJ _ _ _ _ _ _ _ _ _ _ _ _ _ _ hV))
  · by_cases hz3 : z0 = 3
    · obtain ⟨a, ha, ea⟩ := pk_andE (x6.toUInt32 >>> ((4 : Int32).toUInt32 &&& Int32.toUInt32 31)).toInt32 (m := 15) 4 (by decide)
      have ha : a < 64 := Nat.lt_trans ha (by decide)
      refine br_f hz0 (br_t hz3 (nm_r (e' := nI a) ea (nm_e ?_)))
      refine ke_Xpk ha (fun _ => ?_) (fun h => ?_)
      · exact br_t rfl (nm_r (nI_1 t) (hJ _ _ _ _ _ _ _ _ _ _ _ _ _ _ hV))
      · refine br_f (by decide) (ke_Xpk ha (fun h => absurd h sq_st0) (fun _ => ?_))
        exact nm_r (nI_1 t) (hJ _ _ _ _ _ _ _ _ _ _ _ _ _ _ ⟨hV.1, hV.2.1, hV.2.2.1, sq_poke hV.2.2.2 (fun d hd => h d (Nat.zero_le _) hd) _ _⟩)
    · exact sq_204s hz0 hz3 hL hc hV hJ
end
end
section
section
variable {W S R O : Int32} {mem ops oa ob len st pc reg res fp bv yb hb att ca co cn : Nat → Int32} {c : Nat}
variable {L : Nat} {xs : Nat → Int32} {post : Int32 → Prop} {kc ks : Nat} {w2 s2 r2 : Int32}
theorem sq_143 {n3 : Nat} (hL : L ≤ 260) (hn3 : n3 ≤ 180) (hn : ∀ t, t < n3 → 80 + t < L) : ∀ e t, t + e = n3 + 2400 → ∀ (O : Int32) (mem st pc reg res fp bv hb att ca co cn Q : ke_F), sq_V L xs Q S O mem ops oa ob len st pc reg fp hb bv → wL_law_143 (fun r => r = 1) L xs (nI n3) (nI (n3 + 2400)) kc ks (e + 1) (nI t) W S R O mem ops oa ob len st pc reg res fp bv hb att ca co cn w2 s2 r2 (-1) Q (fun _ => 0) (fun _ => 0) (fun _ => 0) (fun _ => 0) (fun _ => 0) (fun _ => 0) (fun _ => 0) (fun _ => 0) (fun _ => 0) (fun _ => 0) (fun _ => 0) (fun _ => 0) (fun _ => 0) (fun _ => 0) (fun _ => 0) := by
  intro e
  induction e with
  | zero =>
    intro t ht O mem st pc reg res fp bv hb att ca co cn Q hV
    have e : t = n3 + 2400 := by omega
    subst e
    refine br_t (nI_le (Nat.le_refl _) (by omega)) ⟨5, ?_⟩
    exact sq_717 hV 4 0 rfl (fun d hd => absurd hd (Nat.not_lt_zero _))
  | succ e ih =>
    intro t ht O mem st pc reg res fp bv hb att ca co cn Q hV
    refine br_f (nI_ge (by omega) (by omega)) ?_
    have hJ := ih (t + 1) (by omega)
    by_cases h : t < n3
    · have h1 : ¬ nI n3 ≤ nI t := nI_ge h (by omega)
      have e80 : (80 : Int32) + nI t = nI (80 + t) := nI_add 80 t
      refine br_f h1 ⟨by rw [e80]; exact vp_in_nI (hn t h) (by omega), br_f h1 (br_f h1 ?_)⟩
      obtain ⟨c, hc, ec⟩ := pk_andE ((xs ((80 : Int32) + nI t).toNatClampNeg).toUInt32 >>> ((2 : Int32).toUInt32 &&& Int32.toUInt32 31)).toInt32 (m := 3) 2 (by decide)
      rw [ec]
      exact sq_204 hL hc hV hJ
    · have h1 : nI n3 ≤ nI t := nI_le (by omega) (by omega)
      refine br_t h1 (br_t h1 (br_t h1 ?_))
      obtain ⟨c, hc, ec⟩ := pk_andE (nI t) (m := 3) 2 (by decide)
      rw [ec]
      exact sq_204 hL hc hV hJ
theorem sq_init {post : St2 → Prop} {x y z a b d e : Int32} (hp : post (ke_cv x 1 4, ke_cv y 1 4, ke_cv z 0 7, -1, (fun _ => 0), (fun _ => 0), (fun _ => 0), (fun _ => 0), (fun _ => 0), (fun _ => 0), (fun _ => 0), (fun _ => 0), (fun _ => 0), (fun _ => 0), (fun _ => 0), (fun _ => 0), (fun _ => 0), (fun _ => 0), (fun _ => 0), (fun _ => 0))) : wpX_init post 16 904 (a, b, d, e) x y z := by
  refine ⟨by decide, ⟨by decide, ⟨by decide, ⟨by decide, ⟨by decide, ⟨by decide, ⟨by decide, ⟨by decide, ⟨by decide, ⟨by decide, ⟨by decide, ⟨by decide, ⟨by decide, ⟨by decide, ⟨by decide, ⟨by decide, ⟨by decide, ⟨by decide, ⟨by decide, ⟨by decide, ⟨by decide, ⟨by decide, ⟨by decide, ⟨by decide, ⟨by decide, ⟨by decide, ⟨by decide, ⟨by decide, ⟨by decide, ⟨by decide, ⟨by decide, ⟨by decide, ?_⟩⟩⟩⟩⟩⟩⟩⟩⟩⟩⟩⟩⟩⟩⟩⟩⟩⟩⟩⟩⟩⟩⟩⟩⟩⟩⟩⟩⟩⟩⟩⟩
  refine ke_Xcl ?_
  refine ke_Xcl ?_
  refine ke_Xcl ?_
  exact hp
theorem sq_G_0 : sq_G (sq_P L xs) (sq_len L xs) (fun _ => 0) (-1) (fun _ => 0) (fun _ => 0) (fun _ => 0) (fun _ => 0) (fun _ => 0) (fun _ => 0) (fun _ => 0) := by
  refine ⟨fun c hc => sq_C_off (q := 0) (p := 0) rfl (by omega) rfl (by omega), fun a d ha hd hne ea => ?_, Or.inl ⟨rfl, rfl⟩⟩
  exact absurd (show (0 : Int32) = 2 from ea) (by decide)
end
end
section
theorem i_vc (xs : Nat → Int32) (L : Nat) (hL : L ≤ 260) : wpL_law (fun r => r = 1) L xs := by
  unfold wpL_law
  refine sq_cel (k := 0) hL (by decide) ?_
  refine sq_cel (k := 1) hL (by decide) ?_
  refine sq_cel (k := 2) hL (by decide) ?_
  refine ⟨16, 904, by decide, by decide, sq_init ?_⟩
  refine ⟨by decide, by decide, 16, 904, by decide, by decide, sq_init ?_⟩
  refine ⟨5, ?_⟩
  refine sq_47 hL (fun n3 hn3 hn ops oa ob len hB => ⟨n3 + 2400 + 1, ?_⟩) 4 0 rfl _ _ _ _ (sq_Bd_0 _ _ _)
  exact sq_143 hL hn3 hn (n3 + 2400) 0 (Nat.zero_add _) _ _ _ _ _ _ _ _ _ _ _ _ _ _ ⟨ke_cv14 _, hB, ke_N_0 3, sq_G_0⟩
end
