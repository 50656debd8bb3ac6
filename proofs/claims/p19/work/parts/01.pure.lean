/-! arrays built by loops: filled with zeros, copied, merged -/
def ke_fill (a : Nat → Int32) (b : Nat) : Nat → (Nat → Int32)
  | 0 => a
  | n + 1 => upd (ke_fill a b n) (b + n) 0
def ke_copy (d s : Nat → Int32) (b : Nat) : Nat → (Nat → Int32)
  | 0 => d
  | n + 1 => upd (ke_copy d s b n) (b + n) (s (b + n))
def ke_mrg (m has buf : Nat → Int32) (b : Nat) : Nat → (Nat → Int32)
  | 0 => m
  | n + 1 => if has (b + n) = 0 then ke_mrg m has buf b n else upd (ke_mrg m has buf b n) n (buf (b + n))
theorem ke_fill_or (a : Nat → Int32) (b : Nat) : ∀ n j, ke_fill a b n j = 0 ∨ ke_fill a b n j = a j := by
  intro n
  induction n with
  | zero => intro j; exact Or.inr rfl
  | succ n ih =>
    intro j
    by_cases h : j = b + n
    · subst h; exact Or.inl pk_us
    · have e : ke_fill a b (n + 1) j = ke_fill a b n j := pk_un h
      rw [e]; exact ih j
theorem ke_fill_agree {has bx yb : Nat → Int32} (h : ∀ j, ¬ has j = 0 → bx j = yb j) (b : Nat) : ∀ n j, ¬ ke_fill has b n j = 0 → bx j = ke_fill yb b n j := by
  intro n
  induction n with
  | zero => exact h
  | succ n ih =>
    intro j hj
    by_cases e : j = b + n
    · subst e; exact absurd pk_us hj
    · have e1 : ke_fill has b (n + 1) j = ke_fill has b n j := pk_un e
      have e2 : ke_fill yb b (n + 1) j = ke_fill yb b n j := pk_un e
      rw [e1] at hj; rw [e2]; exact ih j hj
theorem ke_mrg_agree {m has bx yb : Nat → Int32} (h : ∀ j, ¬ has j = 0 → bx j = yb j) (b : Nat) : ∀ n, ke_mrg m has bx b n = ke_mrg m has yb b n := by
  intro n
  induction n with
  | zero => rfl
  | succ n ih =>
    by_cases z : has (b + n) = 0
    · simp only [ke_mrg, if_pos z, ih]
    · simp only [ke_mrg, if_neg z, ih, h _ z]
theorem ke_upd_all {P : Int32 → Prop} {a : Nat → Int32} {k : Nat} {x : Int32} (h : ∀ j, P (a j)) (hx : P x) : ∀ j, P (upd a k x j) := by
  intro j
  by_cases e : j = k
  · subst e; rw [pk_us]; exact hx
  · rw [pk_un e]; exact h j
theorem ke_fill_all {P : Int32 → Prop} {a : Nat → Int32} (h : ∀ j, P (a j)) (h0 : P 0) (b n : Nat) : ∀ j, P (ke_fill a b n j) := by
  intro j
  cases ke_fill_or a b n j with
  | inl e => rw [e]; exact h0
  | inr e => rw [e]; exact h j
/-! one instruction that append took -/
def ke_Ok (o a b : Int32) : Prop := ∃ p q : Nat, p < 9 ∧ q < 4 ∧ o = nI p ∧ a = nI q ∧ ((p = 1 ∨ p = 2) → ∃ m, m < 64 ∧ b = nI m) ∧ ((p = 3 ∨ p = 5 ∨ p = 6) → ∃ m, m < 4 ∧ b = nI m) ∧ (p = 8 → ∃ m, 1 ≤ m ∧ m ≤ 16 ∧ b = nI m)
def ke_Pg (ops as bs len : Nat → Int32) : Prop := ∀ c, c < 4 → ∃ L, L ≤ 16 ∧ len c = nI L ∧ ∀ j, j < L → ke_Ok (ops (c * 16 + j)) (as (c * 16 + j)) (bs (c * 16 + j))
def ke_N (k : Nat) (a : Nat → Int32) : Prop := ∀ j, ∃ p, p ≤ k ∧ a j = nI p
theorem ke_N_upd {k : Nat} {a : Nat → Int32} {i p : Nat} {x : Int32} (h : ke_N k a) (hp : p ≤ k) (hx : x = nI p) : ke_N k (upd a i x) := ke_upd_all (P := fun y => ∃ p, p ≤ k ∧ y = nI p) h ⟨p, hp, hx⟩
theorem ke_N_fill {k : Nat} {a : Nat → Int32} (h : ke_N k a) (b n : Nat) : ke_N k (ke_fill a b n) := ke_fill_all (P := fun y => ∃ p, p ≤ k ∧ y = nI p) h ⟨0, Nat.zero_le _, nI_0.symm⟩ b n
theorem ke_N_0 (k : Nat) : ke_N k (fun _ => 0) := fun _ => ⟨0, Nat.zero_le _, nI_0.symm⟩
theorem ke_Pg_0 (o a b : Nat → Int32) : ke_Pg o a b (fun _ => 0) := fun _ _ => ⟨0, Nat.zero_le _, nI_0.symm, fun _ h => absurd h (Nat.not_lt_zero _)⟩
theorem ke_Pg_clear {ops as bs len : Nat → Int32} (h : ke_Pg ops as bs len) (c : Nat) : ke_Pg ops as bs (upd len c 0) := by
  intro d hd
  by_cases e : d = c
  · subst e; exact ⟨0, Nat.zero_le _, by rw [pk_us, nI_0], fun _ h => absurd h (Nat.not_lt_zero _)⟩
  · obtain ⟨L, hL, e1, h1⟩ := h d hd
    exact ⟨L, hL, by rw [pk_un e]; exact e1, h1⟩
theorem ke_Pg_app {ops as bs len : Nat → Int32} (h : ke_Pg ops as bs len) {c L : Nat} {o a b : Int32} (hc : c < 4) (hL : L < 16) (eL : len c = nI L) (hok : ke_Ok o a b) : ke_Pg (upd ops (c * 16 + L) o) (upd as (c * 16 + L) a) (upd bs (c * 16 + L) b) (upd len c (nI (L + 1))) := by
  intro d hd
  obtain ⟨M, hM, e1, h1⟩ := h d hd
  by_cases e : d = c
  · subst e
    have eq : M = L := (nI_eq (by omega) (by omega)).mp (e1.symm.trans eL)
    subst eq
    refine ⟨M + 1, by omega, pk_us, fun j hj => ?_⟩
    by_cases ej : j = M
    · subst ej; rw [pk_us, pk_us, pk_us]; exact hok
    · have hn : d * 16 + j ≠ d * 16 + M := by omega
      rw [pk_un hn, pk_un hn, pk_un hn]; exact h1 j (by omega)
  · refine ⟨M, hM, by rw [pk_un e]; exact e1, fun j hj => ?_⟩
    have hn : d * 16 + j ≠ c * 16 + L := by omega
    rw [pk_un hn, pk_un hn, pk_un hn]; exact h1 j hj
theorem ke_b_1 : vp_nar .boolean 1 = 1 := by decide
theorem ke_b_0 : vp_nar .boolean 0 = 0 := by decide
/-! the set of a line, the lines held -/
def ke_set (d l : Nat) : Nat := if l = 16 then 0 else l % d
def ke_cnt (fp : Nat → Int32) (d s b : Nat) : Nat → Nat
  | 0 => 0
  | n + 1 => if ¬ fp (b + n) = 0 ∧ ke_set d n = s then ke_cnt fp d s b n + 1 else ke_cnt fp d s b n
theorem ke_cnt_le (fp : Nat → Int32) (d s b : Nat) : ∀ n, ke_cnt fp d s b n ≤ n := by
  intro n
  induction n with
  | zero => exact Nat.le_refl 0
  | succ n ih =>
    unfold ke_cnt
    split <;> omega
theorem ke_set_lt {d l : Nat} (h0 : 0 < d) : ke_set d l < d := by
  unfold ke_set
  split
  · exact h0
  · exact Nat.mod_lt _ h0

/-! what an abort changes: states, pcs, registers, footprints, has, attempts, causes, codes, counters, and the buffer that the reference empties -/
abbrev ke_F : Type := Nat → Int32
abbrev ke_T : Type := ke_F × ke_F × ke_F × ke_F × ke_F × ke_F × ke_F × ke_F × ke_F × ke_F
def ke_as (R cause a : Int32) : Int32 := if cause = 2 ∨ cause = 3 ∨ ¬ a ≤ R then 3 else 1
def ke_ab (R : Int32) (c : Nat) (cause code : Int32) (t : ke_T) : ke_T :=
  (upd t.1 c (ke_as R cause (t.2.2.2.2.2.1 c + 1)), upd t.2.1 c 0, ke_fill t.2.2.1 (c * 4) 4, ke_fill t.2.2.2.1 (c * 17) 17, ke_fill t.2.2.2.2.1 (c * 64) 64, upd t.2.2.2.2.2.1 c (t.2.2.2.2.2.1 c + 1), upd t.2.2.2.2.2.2.1 c cause, upd t.2.2.2.2.2.2.2.1 c code, upd t.2.2.2.2.2.2.2.2.1 (c * 3 + 2) (t.2.2.2.2.2.2.2.2.1 (c * 3 + 2) + 1), ke_fill t.2.2.2.2.2.2.2.2.2 (c * 64) 64)
def ke_acq (R : Int32) (t : ke_T) : Nat → ke_T
  | 0 => t
  | n + 1 => if (ke_acq R t n).1 n = 2 then ke_ab R n 4 0 (ke_acq R t n) else ke_acq R t n
def ke_con (R : Int32) (l : Nat) (f : Int32) (c : Nat) (t : ke_T) : Nat → ke_T
  | 0 => t
  | n + 1 => if ¬ n = c ∧ (ke_con R l f c t n).1 n = 2 ∧ ¬ (ke_con R l f c t n).2.2.2.1 (n * 17 + l) &&& f = 0 then ke_ab R n 1 0 (ke_con R l f c t n) else ke_con R l f c t n
def ke_I (bx : ke_F) (t : ke_T) : Prop := ke_N 4 t.1 ∧ ke_N 16 t.2.1 ∧ ke_N 3 t.2.2.2.1 ∧ ∀ j, ¬ t.2.2.2.2.1 j = 0 → bx j = t.2.2.2.2.2.2.2.2.2 j
theorem ke_as_N (R cause a : Int32) : ∃ p, p ≤ 4 ∧ ke_as R cause a = nI p := by
  unfold ke_as
  split
  · exact ⟨3, by omega, rfl⟩
  · exact ⟨1, by omega, rfl⟩
theorem ke_ab_I {bx : ke_F} {t : ke_T} (h : ke_I bx t) (R : Int32) (c : Nat) (cause code : Int32) : ke_I bx (ke_ab R c cause code t) := by
  obtain ⟨h1, h2, h3, h4⟩ := h
  obtain ⟨p, hp, ep⟩ := ke_as_N R cause (t.2.2.2.2.2.1 c + 1)
  exact ⟨ke_N_upd h1 hp ep, ke_N_upd h2 (Nat.zero_le _) nI_0.symm, ke_N_fill h3 _ _, ke_fill_agree h4 _ _⟩
theorem ke_acq_I {bx : ke_F} {t : ke_T} (h : ke_I bx t) (R : Int32) : ∀ n, ke_I bx (ke_acq R t n) := by
  intro n
  induction n with
  | zero => exact h
  | succ n ih =>
    unfold ke_acq
    split
    · exact ke_ab_I ih _ _ _ _
    · exact ih
theorem ke_con_I {bx : ke_F} {t : ke_T} (h : ke_I bx t) (R : Int32) (l : Nat) (f : Int32) (c : Nat) : ∀ n, ke_I bx (ke_con R l f c t n) := by
  intro n
  induction n with
  | zero => exact h
  | succ n ih =>
    unfold ke_con
    split
    · exact ke_ab_I ih _ _ _ _
    · exact ih
theorem ke_acq_st {t : ke_T} {c : Nat} (h : t.1 c = 3) (R : Int32) : ∀ n, (ke_acq R t n).1 c = 3 := by
  intro n
  induction n with
  | zero => exact h
  | succ n ih =>
    unfold ke_acq
    split
    · rename_i z
      have e : c ≠ n := by
        intro e; subst e; rw [ih] at z; exact absurd z (by decide)
      show upd _ n _ c = 3
      rw [pk_un e]; exact ih
    · exact ih
theorem ke_con_pc (R : Int32) (l : Nat) (f : Int32) (c : Nat) (t : ke_T) : ∀ n, (ke_con R l f c t n).2.1 c = t.2.1 c := by
  intro n
  induction n with
  | zero => rfl
  | succ n ih =>
    unfold ke_con
    split
    · rename_i z
      have e : c ≠ n := fun e => z.1 e.symm
      show upd _ n _ c = _
      rw [pk_un e]; exact ih
    · exact ih
/-! an instruction on the registers alone -/
def ke_xr (p q : Nat) (b : Int32) (c : Nat) (reg : ke_F) : ke_F :=
  if p = 0 then upd reg (c * 4 + q) b
  else if p = 3 then upd reg (c * 4 + q) (reg (c * 4 + q) + reg (c * 4 + b.toNatClampNeg))
  else if p = 4 then upd reg (c * 4 + q) (reg (c * 4 + q) + b)
  else reg
def ke_xp (p q : Nat) (b : Int32) (c L i : Nat) (reg : ke_F) : Nat :=
  if p = 8 ∧ ¬ reg (c * 4 + q) = 0 then (if L < i + b.toNatClampNeg then L else i + b.toNatClampNeg) else i + 1
/-! the address of an access -/
def ke_ad (p : Nat) (b : Int32) (c : Nat) (reg : ke_F) : Nat :=
  if p = 5 ∨ p = 6 then (reg (c * 4 + b.toNatClampNeg) &&& 63).toNatClampNeg else b.toNatClampNeg
theorem ke_and63 (x : Int32) : ∃ m, m < 64 ∧ x &&& 63 = nI m := pk_andE x 6 (by decide)
theorem ke_Ok1 {p q : Nat} {b : Int32} (h : ke_Ok (nI p) (nI q) b) (hp : p < 9) (h1 : p = 1 ∨ p = 2) : ∃ m, m < 64 ∧ b = nI m := by
  obtain ⟨p', q', a1, a2, e1, e2, a3, _⟩ := h
  have e : p = p' := (nI_eq (Nat.lt_trans hp (by decide)) (Nat.lt_trans a1 (by decide))).mp e1
  subst e
  exact a3 h1
theorem ke_Ok3 {p q : Nat} {b : Int32} (h : ke_Ok (nI p) (nI q) b) (hp : p < 9) (h1 : p = 3 ∨ p = 5 ∨ p = 6) : ∃ m, m < 4 ∧ b = nI m := by
  obtain ⟨p', q', a1, a2, e1, e2, _, a3, _⟩ := h
  have e : p = p' := (nI_eq (Nat.lt_trans hp (by decide)) (Nat.lt_trans a1 (by decide))).mp e1
  subst e
  exact a3 h1
theorem ke_Ok8 {p q : Nat} {b : Int32} (h : ke_Ok (nI p) (nI q) b) (hp : p < 9) (h1 : p = 8) : ∃ m, 1 ≤ m ∧ m ≤ 16 ∧ b = nI m := by
  obtain ⟨p', q', a1, a2, e1, e2, _, _, a3⟩ := h
  have e : p = p' := (nI_eq (Nat.lt_trans hp (by decide)) (Nat.lt_trans a1 (by decide))).mp e1
  subst e
  exact a3 h1
theorem ke_ad_lt {p q : Nat} {b : Int32} (c : Nat) (reg : ke_F) (h : ke_Ok (nI p) (nI q) b) (hp : p = 1 ∨ p = 2 ∨ p = 5 ∨ p = 6) : ke_ad p b c reg < 64 := by
  unfold ke_ad
  split
  · obtain ⟨m, hm, e⟩ := ke_and63 (reg (c * 4 + b.toNatClampNeg))
    rw [e, nI_clamp (by omega)]; exact hm
  · obtain ⟨m, hm, e⟩ := ke_Ok1 h (by omega) (by omega)
    rw [e, nI_clamp (by omega)]; exact hm
theorem ke_x3 (c i : Nat) : nI c * 3 + nI i = nI (c * 3 + i) := by rw [← nI_add, ← pk_mul]; rfl
theorem ke_c3 {c i : Nat} (hc : c < 4) (hi : i < 3) : (nI c * 3 + nI i).toNatClampNeg = c * 3 + i := by rw [ke_x3, nI_clamp (by omega)]
theorem ke_v3 {c i : Nat} (hc : c < 4) (hi : i < 3) : vp_in (nI c * 3 + nI i) 12 := by rw [ke_x3]; exact vp_in_nI (by omega) (by omega)
theorem ke_x4 (c i : Nat) : nI c * 4 + nI i = nI (c * 4 + i) := by rw [← nI_add, ← pk_mul]; rfl
theorem ke_c4 {c i : Nat} (hc : c < 4) (hi : i < 4) : (nI c * 4 + nI i).toNatClampNeg = c * 4 + i := by rw [ke_x4, nI_clamp (by omega)]
theorem ke_v4 {c i : Nat} (hc : c < 4) (hi : i < 4) : vp_in (nI c * 4 + nI i) 16 := by rw [ke_x4]; exact vp_in_nI (by omega) (by omega)
theorem ke_x16 (c i : Nat) : nI c * 16 + nI i = nI (c * 16 + i) := by rw [← nI_add, ← pk_mul]; rfl
theorem ke_c16 {c i : Nat} (hc : c < 4) (hi : i < 16) : (nI c * 16 + nI i).toNatClampNeg = c * 16 + i := by rw [ke_x16, nI_clamp (by omega)]
theorem ke_v16 {c i : Nat} (hc : c < 4) (hi : i < 16) : vp_in (nI c * 16 + nI i) 64 := by rw [ke_x16]; exact vp_in_nI (by omega) (by omega)
theorem ke_x17 (c i : Nat) : nI c * 17 + nI i = nI (c * 17 + i) := by rw [← nI_add, ← pk_mul]; rfl
theorem ke_c17 {c i : Nat} (hc : c < 4) (hi : i < 17) : (nI c * 17 + nI i).toNatClampNeg = c * 17 + i := by rw [ke_x17, nI_clamp (by omega)]
theorem ke_v17 {c i : Nat} (hc : c < 4) (hi : i < 17) : vp_in (nI c * 17 + nI i) 68 := by rw [ke_x17]; exact vp_in_nI (by omega) (by omega)
theorem ke_x64 (c i : Nat) : nI c * 64 + nI i = nI (c * 64 + i) := by rw [← nI_add, ← pk_mul]; rfl
theorem ke_c64 {c i : Nat} (hc : c < 4) (hi : i < 64) : (nI c * 64 + nI i).toNatClampNeg = c * 64 + i := by rw [ke_x64, nI_clamp (by omega)]
theorem ke_v64 {c i : Nat} (hc : c < 4) (hi : i < 64) : vp_in (nI c * 64 + nI i) 256 := by rw [ke_x64]; exact vp_in_nI (by omega) (by omega)
theorem ke_c3_0 {c : Nat} (hc : c < 4) : (nI c * 3 + 0).toNatClampNeg = c * 3 + 0 := ke_c3 (i := 0) hc (by decide)
theorem ke_c3_1 {c : Nat} (hc : c < 4) : (nI c * 3 + 1).toNatClampNeg = c * 3 + 1 := ke_c3 (i := 1) hc (by decide)
theorem ke_c3_2 {c : Nat} (hc : c < 4) : (nI c * 3 + 2).toNatClampNeg = c * 3 + 2 := ke_c3 (i := 2) hc (by decide)
theorem ke_c17_16 {c : Nat} (hc : c < 4) : (nI c * 17 + 16).toNatClampNeg = c * 17 + 16 := ke_c17 (i := 16) hc (by decide)
def ke_ov (W : Int32) (d : Nat) (fp : ke_F) (c l : Nat) : Prop := fp (c * 17 + l) = 0 ∧ ¬ nI (ke_cnt fp d (ke_set d l) (c * 17) 17) < W
