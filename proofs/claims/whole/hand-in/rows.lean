section
theorem pk_us {f : Nat → Int32} {k : Nat} {x : Int32} : upd f k x k = x := if_pos rfl
theorem pk_un {f : Nat → Int32} {k j : Nat} {x : Int32} (h : j ≠ k) : upd f k x j = f j := if_neg h
theorem pk_sub {a b : Nat} (h : b ≤ a) : nI a - nI b = nI (a - b) := by
  obtain ⟨c, rfl⟩ : ∃ c, a = c + b := ⟨a - b, by omega⟩
  rw [← nI_add, Int32.add_sub_cancel, Nat.add_sub_cancel]
theorem pk_mul (a b : Nat) : nI a * nI b = nI (a * b) := (Int32.ofNat_mul a b).symm
theorem pk_div {a d : Nat} (ha : a < 2 ^ 31) (h0 : 0 < d) (hd : d < 2 ^ 31) : nI a / nI d = nI (a / d) := by
  apply Int32.toInt_inj.mp
  rw [lg_idiv_nonneg (by rw [nI_toInt ha]; omega) (by rw [nI_toInt hd]; omega), nI_toInt ha, nI_toInt hd, nI_toInt (Nat.lt_of_le_of_lt (Nat.div_le_self a d) ha)]
  first | rfl | exact (Int.natCast_ediv _ _).symm
theorem pk_rem {a d : Nat} (ha : a < 2 ^ 31) (h0 : 0 < d) (hd : d < 2 ^ 31) : nI a - nI a / nI d * nI d = nI (a % d) := by
  rw [pk_div ha h0 hd, pk_mul, pk_sub (Nat.div_mul_le_self a d)]
  exact congrArg nI (by have := Nat.div_add_mod' a d; omega)
theorem pk_ix (x : Int32) {n : Nat} (hn : n < 2 ^ 31) : x < 0 ∨ nI n ≤ x ∨ ∃ j : Nat, j < n ∧ x = nI j := by
  by_cases h : x < 0
  · exact Or.inl h
  · obtain ⟨j, hj, rfl⟩ := nI_of h
    by_cases h2 : j < n
    · exact Or.inr (Or.inr ⟨j, h2, rfl⟩)
    · exact Or.inr (Or.inl (nI_le (by omega) hj))
theorem pk_le {x y : Int32} {A B : Prop} (a b : Nat) (f : a ≤ b → A) (g : b < a → B) (hx : x = nI a := by rfl) (hy : y = nI b := by rfl) (ha : a < 2 ^ 31 := by omega) (hb : b < 2 ^ 31 := by omega) : (x ≤ y → A) ∧ (¬ x ≤ y → B) := by
  subst hx hy
  rw [nI_leI ha hb]
  exact ⟨f, fun z => g (by omega)⟩
theorem pk_lt {x y : Int32} {A B : Prop} (a b : Nat) (f : a < b → A) (g : b ≤ a → B) (hx : x = nI a := by rfl) (hy : y = nI b := by rfl) (ha : a < 2 ^ 31 := by omega) (hb : b < 2 ^ 31 := by omega) : (x < y → A) ∧ (¬ x < y → B) := by
  subst hx hy
  rw [nI_ltI ha hb]
  exact ⟨f, fun z => g (by omega)⟩
theorem pk_eq {x y : Int32} {A B : Prop} (a b : Nat) (f : a = b → A) (g : a ≠ b → B) (hx : x = nI a := by rfl) (hy : y = nI b := by rfl) (ha : a < 2 ^ 31 := by omega) (hb : b < 2 ^ 31 := by omega) : (x = y → A) ∧ (¬ x = y → B) := by
  subst hx hy
  rw [nI_eq ha hb]
  exact ⟨f, g⟩
theorem pk_in {x : Int32} (n N : Nat) (h : n < N) (hx : x = nI n := by rfl) (hN : N < 2 ^ 31 := by omega) : vp_in x N := by
  subst hx
  exact vp_in_nI h hN
theorem pk_cl {x : Int32} (n : Nat) (hx : x = nI n := by rfl) (h : n < 2 ^ 31 := by omega) : x.toNatClampNeg = n := by
  subst hx
  exact nI_clamp h
theorem pk_tn {n : Nat} (h : n < 2 ^ 32) : (nI n).toBitVec.toNat = n := Nat.mod_eq_of_lt h
theorem pk_and (x : Int32) {m : Int32} (k : Nat) (hm : m.toBitVec.toNat = 2 ^ k - 1) : x &&& m = nI (x.toBitVec.toNat % 2 ^ k) := by
  apply Int32.toBitVec_inj.mp
  apply BitVec.eq_of_toNat_eq
  rw [Int32.toBitVec_and, BitVec.toNat_and, hm, Nat.and_two_pow_sub_one_eq_mod]
  show _ = (BitVec.ofNat 32 _).toNat
  rw [BitVec.toNat_ofNat]
  exact (Nat.mod_eq_of_lt (Nat.lt_of_le_of_lt (Nat.mod_le _ _) x.toBitVec.isLt)).symm
theorem pk_andN {n : Nat} (h : n < 2 ^ 32) {m : Int32} (k : Nat) (hm : m.toBitVec.toNat = 2 ^ k - 1) : nI n &&& m = nI (n % 2 ^ k) := by
  rw [pk_and _ k hm, pk_tn h]
theorem pk_andE (x : Int32) {m : Int32} (k : Nat) (hm : m.toBitVec.toNat = 2 ^ k - 1) : ∃ j : Nat, j < 2 ^ k ∧ x &&& m = nI j := ⟨_, Nat.mod_lt _ (Nat.two_pow_pos k), pk_and x k hm⟩
theorem pk_andIn (x : Int32) {m : Int32} (k : Nat) (hm : m.toBitVec.toNat = 2 ^ k - 1) (hk : k ≤ 30) : vp_in (x &&& m) (2 ^ k) := by
  obtain ⟨j, hj, e⟩ := pk_andE x k hm
  rw [e]
  exact vp_in_nI hj (Nat.lt_of_le_of_lt (Nat.pow_le_pow_right (by decide) hk) (by decide))
end
section
/-! arrays built by loops: filled with zeros, copied, merged -/
def ke_fill (a : Nat → Int32) (b : Nat) : Nat → (Nat → Int32)
  | 0 => a
  | n + 1 => upd (ke_fill a b n) (b + n) 0
def ke_copy (d s : Nat → Int32) (b : Nat) : Nat → (Nat → Int32)
  | 0 => d
  | n + 1 => upd (ke_copy d s b n) (b + n) (s (b + n))
def ke_mrg (m has buf : Nat → Int32) (b : Nat) : Nat → (Nat → Int32)
  | 0 => m
  | n + 1 => if has (b + n) = 0 then ke_mrg m has buf b n else upd (ke_mrg m has buf b n) n (buf (b + n))
theorem ke_fill_or (a : Nat → Int32) (b : Nat) : ∀ n j, ke_fill a b n j = 0 ∨ ke_fill a b n j = a j := by
  intro n
  induction n with
  | zero => intro j; exact Or.inr rfl
  | succ n ih =>
    intro j
    by_cases h : j = b + n
    · subst h; exact Or.inl pk_us
    · have e : ke_fill a b (n + 1) j = ke_fill a b n j := pk_un h
      rw [e]; exact ih j
theorem ke_fill_agree {has bx yb : Nat → Int32} (h : ∀ j, ¬ has j = 0 → bx j = yb j) (b : Nat) : ∀ n j, ¬ ke_fill has b n j = 0 → bx j = ke_fill yb b n j := by
  intro n
  induction n with
  | zero => exact h
  | succ n ih =>
    intro j hj
    by_cases e : j = b + n
    · subst e; exact absurd pk_us hj
    · have e1 : ke_fill has b (n + 1) j = ke_fill has b n j := pk_un e
      have e2 : ke_fill yb b (n + 1) j = ke_fill yb b n j := pk_un e
      rw [e1] at hj; rw [e2]; exact ih j hj
theorem ke_mrg_agree {m has bx yb : Nat → Int32} (h : ∀ j, ¬ has j = 0 → bx j = yb j) (b : Nat) : ∀ n, ke_mrg m has bx b n = ke_mrg m has yb b n := by
  intro n
  induction n with
  | zero => rfl
  | succ n ih =>
    by_cases z : has (b + n) = 0
    · simp only [ke_mrg, if_pos z, ih]
    · simp only [ke_mrg, if_neg z, ih, h _ z]
theorem ke_upd_all {P : Int32 → Prop} {a : Nat → Int32} {k : Nat} {x : Int32} (h : ∀ j, P (a j)) (hx : P x) : ∀ j, P (upd a k x j) := by
  intro j
  by_cases e : j = k
  · subst e; rw [pk_us]; exact hx
  · rw [pk_un e]; exact h j
theorem ke_fill_all {P : Int32 → Prop} {a : Nat → Int32} (h : ∀ j, P (a j)) (h0 : P 0) (b n : Nat) : ∀ j, P (ke_fill a b n j) := by
  intro j
  cases ke_fill_or a b n j with
  | inl e => rw [e]; exact h0
  | inr e => rw [e]; exact h j
/-! one instruction that append took -/
def ke_Ok (o a b : Int32) : Prop := ∃ p q : Nat, p < 9 ∧ q < 4 ∧ o = nI p ∧ a = nI q ∧ ((p = 1 ∨ p = 2) → ∃ m, m < 64 ∧ b = nI m) ∧ ((p = 3 ∨ p = 5 ∨ p = 6) → ∃ m, m < 4 ∧ b = nI m) ∧ (p = 8 → ∃ m, 1 ≤ m ∧ m ≤ 16 ∧ b = nI m)
def ke_Pg (ops as bs len : Nat → Int32) : Prop := ∀ c, c < 4 → ∃ L, L ≤ 16 ∧ len c = nI L ∧ ∀ j, j < L → ke_Ok (ops (c * 16 + j)) (as (c * 16 + j)) (bs (c * 16 + j))
def ke_N (k : Nat) (a : Nat → Int32) : Prop := ∀ j, ∃ p, p ≤ k ∧ a j = nI p
theorem ke_N_upd {k : Nat} {a : Nat → Int32} {i p : Nat} {x : Int32} (h : ke_N k a) (hp : p ≤ k) (hx : x = nI p) : ke_N k (upd a i x) := ke_upd_all (P := fun y => ∃ p, p ≤ k ∧ y = nI p) h ⟨p, hp, hx⟩
theorem ke_N_fill {k : Nat} {a : Nat → Int32} (h : ke_N k a) (b n : Nat) : ke_N k (ke_fill a b n) := ke_fill_all (P := fun y => ∃ p, p ≤ k ∧ y = nI p) h ⟨0, Nat.zero_le _, nI_0.symm⟩ b n
theorem ke_N_0 (k : Nat) : ke_N k (fun _ => 0) := fun _ => ⟨0, Nat.zero_le _, nI_0.symm⟩
theorem ke_Pg_0 (o a b : Nat → Int32) : ke_Pg o a b (fun _ => 0) := fun _ _ => ⟨0, Nat.zero_le _, nI_0.symm, fun _ h => absurd h (Nat.not_lt_zero _)⟩
theorem ke_Pg_clear {ops as bs len : Nat → Int32} (h : ke_Pg ops as bs len) (c : Nat) : ke_Pg ops as bs (upd len c 0) := by
  intro d hd
  by_cases e : d = c
  · subst e; exact ⟨0, Nat.zero_le _, by rw [pk_us, nI_0], fun _ h => absurd h (Nat.not_lt_zero _)⟩
  · obtain ⟨L, hL, e1, h1⟩ := h d hd
    exact ⟨L, hL, by rw [pk_un e]; exact e1, h1⟩
theorem ke_Pg_app {ops as bs len : Nat → Int32} (h : ke_Pg ops as bs len) {c L : Nat} {o a b : Int32} (hc : c < 4) (hL : L < 16) (eL : len c = nI L) (hok : ke_Ok o a b) : ke_Pg (upd ops (c * 16 + L) o) (upd as (c * 16 + L) a) (upd bs (c * 16 + L) b) (upd len c (nI (L + 1))) := by
  intro d hd
  obtain ⟨M, hM, e1, h1⟩ := h d hd
  by_cases e : d = c
  · subst e
    have eq : M = L := (nI_eq (by omega) (by omega)).mp (e1.symm.trans eL)
    subst eq
    refine ⟨M + 1, by omega, pk_us, fun j hj => ?_⟩
    by_cases ej : j = M
    · subst ej; rw [pk_us, pk_us, pk_us]; exact hok
    · have hn : d * 16 + j ≠ d * 16 + M := by omega
      rw [pk_un hn, pk_un hn, pk_un hn]; exact h1 j (by omega)
  · refine ⟨M, hM, by rw [pk_un e]; exact e1, fun j hj => ?_⟩
    have hn : d * 16 + j ≠ c * 16 + L := by omega
    rw [pk_un hn, pk_un hn, pk_un hn]; exact h1 j hj
theorem ke_b_1 : vp_nar .boolean 1 = 1 := by decide
theorem ke_b_0 : vp_nar .boolean 0 = 0 := by decide
/-! the set of a line, the lines held -/
def ke_set (d l : Nat) : Nat := if l = 16 then 0 else l % d
def ke_cnt (fp : Nat → Int32) (d s b : Nat) : Nat → Nat
  | 0 => 0
  | n + 1 => if ¬ fp (b + n) = 0 ∧ ke_set d n = s then ke_cnt fp d s b n + 1 else ke_cnt fp d s b n
theorem ke_cnt_le (fp : Nat → Int32) (d s b : Nat) : ∀ n, ke_cnt fp d s b n ≤ n := by
  intro n
  induction n with
  | zero => exact Nat.le_refl 0
  | succ n ih =>
    unfold ke_cnt
    split <;> omega
theorem ke_set_lt {d l : Nat} (h0 : 0 < d) : ke_set d l < d := by
  unfold ke_set
  split
  · exact h0
  · exact Nat.mod_lt _ h0

/-! what an abort changes: states, pcs, registers, footprints, has, attempts, causes, codes, counters, and the buffer that the reference empties -/
abbrev ke_F : Type := Nat → Int32
abbrev ke_T : Type := ke_F × ke_F × ke_F × ke_F × ke_F × ke_F × ke_F × ke_F × ke_F × ke_F
def ke_as (R cause a : Int32) : Int32 := if cause = 2 ∨ cause = 3 ∨ ¬ a ≤ R then 3 else 1
def ke_ab (R : Int32) (c : Nat) (cause code : Int32) (t : ke_T) : ke_T :=
  (upd t.1 c (ke_as R cause (t.2.2.2.2.2.1 c + 1)), upd t.2.1 c 0, ke_fill t.2.2.1 (c * 4) 4, ke_fill t.2.2.2.1 (c * 17) 17, ke_fill t.2.2.2.2.1 (c * 64) 64, upd t.2.2.2.2.2.1 c (t.2.2.2.2.2.1 c + 1), upd t.2.2.2.2.2.2.1 c cause, upd t.2.2.2.2.2.2.2.1 c code, upd t.2.2.2.2.2.2.2.2.1 (c * 3 + 2) (t.2.2.2.2.2.2.2.2.1 (c * 3 + 2) + 1), ke_fill t.2.2.2.2.2.2.2.2.2 (c * 64) 64)
def ke_acq (R : Int32) (t : ke_T) : Nat → ke_T
  | 0 => t
  | n + 1 => if (ke_acq R t n).1 n = 2 then ke_ab R n 4 0 (ke_acq R t n) else ke_acq R t n
def ke_con (R : Int32) (l : Nat) (f : Int32) (c : Nat) (t : ke_T) : Nat → ke_T
  | 0 => t
  | n + 1 => if ¬ n = c ∧ (ke_con R l f c t n).1 n = 2 ∧ ¬ (ke_con R l f c t n).2.2.2.1 (n * 17 + l) &&& f = 0 then ke_ab R n 1 0 (ke_con R l f c t n) else ke_con R l f c t n
def ke_I (bx : ke_F) (t : ke_T) : Prop := ke_N 4 t.1 ∧ ke_N 16 t.2.1 ∧ ke_N 3 t.2.2.2.1 ∧ ∀ j, ¬ t.2.2.2.2.1 j = 0 → bx j = t.2.2.2.2.2.2.2.2.2 j
theorem ke_as_N (R cause a : Int32) : ∃ p, p ≤ 4 ∧ ke_as R cause a = nI p := by
  unfold ke_as
  split
  · exact ⟨3, by omega, rfl⟩
  · exact ⟨1, by omega, rfl⟩
theorem ke_ab_I {bx : ke_F} {t : ke_T} (h : ke_I bx t) (R : Int32) (c : Nat) (cause code : Int32) : ke_I bx (ke_ab R c cause code t) := by
  obtain ⟨h1, h2, h3, h4⟩ := h
  obtain ⟨p, hp, ep⟩ := ke_as_N R cause (t.2.2.2.2.2.1 c + 1)
  exact ⟨ke_N_upd h1 hp ep, ke_N_upd h2 (Nat.zero_le _) nI_0.symm, ke_N_fill h3 _ _, ke_fill_agree h4 _ _⟩
theorem ke_acq_I {bx : ke_F} {t : ke_T} (h : ke_I bx t) (R : Int32) : ∀ n, ke_I bx (ke_acq R t n) := by
  intro n
  induction n with
  | zero => exact h
  | succ n ih =>
    unfold ke_acq
    split
    · exact ke_ab_I ih _ _ _ _
    · exact ih
theorem ke_con_I {bx : ke_F} {t : ke_T} (h : ke_I bx t) (R : Int32) (l : Nat) (f : Int32) (c : Nat) : ∀ n, ke_I bx (ke_con R l f c t n) := by
  intro n
  induction n with
  | zero => exact h
  | succ n ih =>
    unfold ke_con
    split
    · exact ke_ab_I ih _ _ _ _
    · exact ih
theorem ke_acq_st {t : ke_T} {c : Nat} (h : t.1 c = 3) (R : Int32) : ∀ n, (ke_acq R t n).1 c = 3 := by
  intro n
  induction n with
  | zero => exact h
  | succ n ih =>
    unfold ke_acq
    split
    · rename_i z
      have e : c ≠ n := by
        intro e; subst e; rw [ih] at z; exact absurd z (by decide)
      show upd _ n _ c = 3
      rw [pk_un e]; exact ih
    · exact ih
theorem ke_con_pc (R : Int32) (l : Nat) (f : Int32) (c : Nat) (t : ke_T) : ∀ n, (ke_con R l f c t n).2.1 c = t.2.1 c := by
  intro n
  induction n with
  | zero => rfl
  | succ n ih =>
    unfold ke_con
    split
    · rename_i z
      have e : c ≠ n := fun e => z.1 e.symm
      show upd _ n _ c = _
      rw [pk_un e]; exact ih
    · exact ih
/-! an instruction on the registers alone -/
def ke_xr (p q : Nat) (b : Int32) (c : Nat) (reg : ke_F) : ke_F :=
  if p = 0 then upd reg (c * 4 + q) b
  else if p = 3 then upd reg (c * 4 + q) (reg (c * 4 + q) + reg (c * 4 + b.toNatClampNeg))
  else if p = 4 then upd reg (c * 4 + q) (reg (c * 4 + q) + b)
  else reg
def ke_xp (p q : Nat) (b : Int32) (c L i : Nat) (reg : ke_F) : Nat :=
  if p = 8 ∧ ¬ reg (c * 4 + q) = 0 then (if L < i + b.toNatClampNeg then L else i + b.toNatClampNeg) else i + 1
/-! the address of an access -/
def ke_ad (p : Nat) (b : Int32) (c : Nat) (reg : ke_F) : Nat :=
  if p = 5 ∨ p = 6 then (reg (c * 4 + b.toNatClampNeg) &&& 63).toNatClampNeg else b.toNatClampNeg
theorem ke_and63 (x : Int32) : ∃ m, m < 64 ∧ x &&& 63 = nI m := pk_andE x 6 (by decide)
theorem ke_Ok1 {p q : Nat} {b : Int32} (h : ke_Ok (nI p) (nI q) b) (hp : p < 9) (h1 : p = 1 ∨ p = 2) : ∃ m, m < 64 ∧ b = nI m := by
  obtain ⟨p', q', a1, a2, e1, e2, a3, _⟩ := h
  have e : p = p' := (nI_eq (Nat.lt_trans hp (by decide)) (Nat.lt_trans a1 (by decide))).mp e1
  subst e
  exact a3 h1
theorem ke_Ok3 {p q : Nat} {b : Int32} (h : ke_Ok (nI p) (nI q) b) (hp : p < 9) (h1 : p = 3 ∨ p = 5 ∨ p = 6) : ∃ m, m < 4 ∧ b = nI m := by
  obtain ⟨p', q', a1, a2, e1, e2, _, a3, _⟩ := h
  have e : p = p' := (nI_eq (Nat.lt_trans hp (by decide)) (Nat.lt_trans a1 (by decide))).mp e1
  subst e
  exact a3 h1
theorem ke_Ok8 {p q : Nat} {b : Int32} (h : ke_Ok (nI p) (nI q) b) (hp : p < 9) (h1 : p = 8) : ∃ m, 1 ≤ m ∧ m ≤ 16 ∧ b = nI m := by
  obtain ⟨p', q', a1, a2, e1, e2, _, _, a3⟩ := h
  have e : p = p' := (nI_eq (Nat.lt_trans hp (by decide)) (Nat.lt_trans a1 (by decide))).mp e1
  subst e
  exact a3 h1
theorem ke_ad_lt {p q : Nat} {b : Int32} (c : Nat) (reg : ke_F) (h : ke_Ok (nI p) (nI q) b) (hp : p = 1 ∨ p = 2 ∨ p = 5 ∨ p = 6) : ke_ad p b c reg < 64 := by
  unfold ke_ad
  split
  · obtain ⟨m, hm, e⟩ := ke_and63 (reg (c * 4 + b.toNatClampNeg))
    rw [e, nI_clamp (by omega)]; exact hm
  · obtain ⟨m, hm, e⟩ := ke_Ok1 h (by omega) (by omega)
    rw [e, nI_clamp (by omega)]; exact hm
theorem ke_x3 (c i : Nat) : nI c * 3 + nI i = nI (c * 3 + i) := by rw [← nI_add, ← pk_mul]; rfl
theorem ke_c3 {c i : Nat} (hc : c < 4) (hi : i < 3) : (nI c * 3 + nI i).toNatClampNeg = c * 3 + i := by rw [ke_x3, nI_clamp (by omega)]
theorem ke_v3 {c i : Nat} (hc : c < 4) (hi : i < 3) : vp_in (nI c * 3 + nI i) 12 := by rw [ke_x3]; exact vp_in_nI (by omega) (by omega)
theorem ke_x4 (c i : Nat) : nI c * 4 + nI i = nI (c * 4 + i) := by rw [← nI_add, ← pk_mul]; rfl
theorem ke_c4 {c i : Nat} (hc : c < 4) (hi : i < 4) : (nI c * 4 + nI i).toNatClampNeg = c * 4 + i := by rw [ke_x4, nI_clamp (by omega)]
theorem ke_v4 {c i : Nat} (hc : c < 4) (hi : i < 4) : vp_in (nI c * 4 + nI i) 16 := by rw [ke_x4]; exact vp_in_nI (by omega) (by omega)
theorem ke_x16 (c i : Nat) : nI c * 16 + nI i = nI (c * 16 + i) := by rw [← nI_add, ← pk_mul]; rfl
theorem ke_c16 {c i : Nat} (hc : c < 4) (hi : i < 16) : (nI c * 16 + nI i).toNatClampNeg = c * 16 + i := by rw [ke_x16, nI_clamp (by omega)]
theorem ke_v16 {c i : Nat} (hc : c < 4) (hi : i < 16) : vp_in (nI c * 16 + nI i) 64 := by rw [ke_x16]; exact vp_in_nI (by omega) (by omega)
theorem ke_x17 (c i : Nat) : nI c * 17 + nI i = nI (c * 17 + i) := by rw [← nI_add, ← pk_mul]; rfl
theorem ke_c17 {c i : Nat} (hc : c < 4) (hi : i < 17) : (nI c * 17 + nI i).toNatClampNeg = c * 17 + i := by rw [ke_x17, nI_clamp (by omega)]
theorem ke_v17 {c i : Nat} (hc : c < 4) (hi : i < 17) : vp_in (nI c * 17 + nI i) 68 := by rw [ke_x17]; exact vp_in_nI (by omega) (by omega)
theorem ke_x64 (c i : Nat) : nI c * 64 + nI i = nI (c * 64 + i) := by rw [← nI_add, ← pk_mul]; rfl
theorem ke_c64 {c i : Nat} (hc : c < 4) (hi : i < 64) : (nI c * 64 + nI i).toNatClampNeg = c * 64 + i := by rw [ke_x64, nI_clamp (by omega)]
theorem ke_v64 {c i : Nat} (hc : c < 4) (hi : i < 64) : vp_in (nI c * 64 + nI i) 256 := by rw [ke_x64]; exact vp_in_nI (by omega) (by omega)
theorem ke_c3_0 {c : Nat} (hc : c < 4) : (nI c * 3 + 0).toNatClampNeg = c * 3 + 0 := ke_c3 (i := 0) hc (by decide)
theorem ke_c3_1 {c : Nat} (hc : c < 4) : (nI c * 3 + 1).toNatClampNeg = c * 3 + 1 := ke_c3 (i := 1) hc (by decide)
theorem ke_c3_2 {c : Nat} (hc : c < 4) : (nI c * 3 + 2).toNatClampNeg = c * 3 + 2 := ke_c3 (i := 2) hc (by decide)
theorem ke_c17_16 {c : Nat} (hc : c < 4) : (nI c * 17 + 16).toNatClampNeg = c * 17 + 16 := ke_c17 (i := 16) hc (by decide)
def ke_ov (W : Int32) (d : Nat) (fp : ke_F) (c l : Nat) : Prop := fp (c * 17 + l) = 0 ∧ ¬ nI (ke_cnt fp d (ke_set d l) (c * 17) 17) < W
end
section
/-! the walks of the class: each private method with a general post -/
section
variable {W S R O : Int32} {mem ops oa ob len st pc reg res fp bv yb hb att ca co cn : Nat → Int32} {c : Nat}
theorem ke_i4 {c : Nat} (hc : c < 4) : vp_in (nI c) 4 := vp_in_nI hc (by omega)
theorem ke_k4 {c : Nat} (hc : c < 4) : (nI c).toNatClampNeg = c := nI_clamp (by omega)
theorem ke_Xrs_l {post : SX → Prop} (hc : c < 4) (hp : post (W, S, R, O, mem, ops, oa, ob, len, st, pc, ke_fill reg (c * 4) 4, res, fp, bv, hb, att, ca, co, cn)) : ∀ d i, i + d = 4 → wX_restartProgram_9 post (nI c) W S R O (d + 1) (nI i) mem ops oa ob len st pc (ke_fill reg (c * 4) i) res fp bv hb att ca co cn := by
  intro d
  induction d with
  | zero =>
    intro i hi
    have e : i = 4 := by omega
    subst e
    exact br_t (nI_le (Nat.le_refl 4) (by decide)) hp
  | succ d ih =>
    intro i hi
    refine br_f (nI_ge (b := 4) (by omega) (by decide)) ⟨ke_v4 hc (by omega), nm_r (e' := ke_fill reg (c * 4) (i + 1)) ?_ (nm_r (nI_1 i) ?_)⟩
    · rw [ke_c4 hc (by omega)]; rfl
    · exact ih (i + 1) (by omega)
theorem ke_Xrs {post : SX → Prop} (hc : c < 4) (hp : post (W, S, R, O, mem, ops, oa, ob, len, st, upd pc c 0, ke_fill reg (c * 4) 4, res, fp, bv, hb, att, ca, co, cn)) : wpX_restartProgram post (W, S, R, O, mem, ops, oa, ob, len, st, pc, reg, res, fp, bv, hb, att, ca, co, cn) (nI c) := by
  refine ⟨ke_i4 hc, nm_r (e' := upd pc c 0) (by rw [ke_k4 hc]) ⟨5, ?_⟩⟩
  exact ke_Xrs_l hc hp 4 0 rfl
theorem ke_Xd28 {post : SX → Prop} (hc : c < 4) (hp : post (W, S, R, O, mem, ops, oa, ob, len, st, pc, reg, res, fp, bv, ke_fill hb (c * 64) 64, att, ca, co, cn)) : ∀ d i, i + d = 64 → wX_dropSpeculation_28 post (nI c) W S R O (d + 1) (nI i) mem ops oa ob len st pc reg res fp bv (ke_fill hb (c * 64) i) att ca co cn := by
  intro d
  induction d with
  | zero =>
    intro i hi
    have e : i = 64 := by omega
    subst e
    exact br_t (nI_le (Nat.le_refl 64) (by decide)) hp
  | succ d ih =>
    intro i hi
    refine br_f (nI_ge (b := 64) (by omega) (by decide)) ⟨ke_v64 hc (by omega), nm_r (e' := ke_fill hb (c * 64) (i + 1)) ?_ (nm_r (nI_1 i) ?_)⟩
    · rw [ke_c64 hc (by omega), ke_b_0]; rfl
    · exact ih (i + 1) (by omega)
theorem ke_Xd2 {post : SX → Prop} (hc : c < 4) (hp : post (W, S, R, O, mem, ops, oa, ob, len, st, pc, reg, res, ke_fill fp (c * 17) 17, bv, ke_fill hb (c * 64) 64, att, ca, co, cn)) : ∀ d i, i + d = 17 → wX_dropSpeculation_2 post (nI c) W S R O (d + 1) (nI i) mem ops oa ob len st pc reg res (ke_fill fp (c * 17) i) bv hb att ca co cn := by
  intro d
  induction d with
  | zero =>
    intro i hi
    have e : i = 17 := by omega
    subst e
    refine br_t (nI_le (Nat.le_refl 17) (by decide)) ⟨65, ?_⟩
    exact ke_Xd28 hc hp 64 0 rfl
  | succ d ih =>
    intro i hi
    refine br_f (nI_ge (b := 17) (by omega) (by decide)) ⟨ke_v17 hc (by omega), nm_r (e' := ke_fill fp (c * 17) (i + 1)) ?_ (nm_r (nI_1 i) ?_)⟩
    · rw [ke_c17 hc (by omega)]; rfl
    · exact ih (i + 1) (by omega)
theorem ke_Xdr {post : SX → Prop} (hc : c < 4) (hp : post (W, S, R, O, mem, ops, oa, ob, len, st, pc, reg, res, ke_fill fp (c * 17) 17, bv, ke_fill hb (c * 64) 64, att, ca, co, cn)) : wpX_dropSpeculation post (W, S, R, O, mem, ops, oa, ob, len, st, pc, reg, res, fp, bv, hb, att, ca, co, cn) (nI c) := by
  refine ⟨18, ?_⟩
  exact ke_Xd2 hc hp 17 0 rfl
theorem ke_X88 {post : SX → Prop} (hc : c < 4) (hp : post (W, S, R, O, mem, ops, oa, ob, len, upd st c 3, pc, reg, res, fp, bv, hb, att, ca, co, cn)) : wX_abort_83 post (nI c) W S R O mem ops oa ob len st pc reg res fp bv hb att ca co cn := by
  refine br_f (by decide) ⟨ke_i4 hc, nm_r (e' := upd st c 3) (by rw [ke_k4 hc]) hp⟩
theorem ke_X63 {post : SX → Prop} (hc : c < 4) (hp : post (W, S, R, O, mem, ops, oa, ob, len, upd st c (if att c ≤ R then 1 else 3), pc, reg, res, fp, bv, hb, att, ca, co, cn)) : wX_abort_63 post (nI c) 0 W S R O mem ops oa ob len st pc reg res fp bv hb att ca co cn := by
  refine br_t rfl ⟨ke_i4 hc, ?_⟩
  by_cases h : att c ≤ R
  · rw [if_pos h] at hp
    exact br_t (by rw [ke_k4 hc]; exact h) (br_t rfl ⟨ke_i4 hc, nm_r (e' := upd st c 1) (by rw [ke_k4 hc]) hp⟩)
  · rw [if_neg h] at hp
    exact br_f (by rw [ke_k4 hc]; exact h) (ke_X88 hc hp)
theorem ke_Xab {post : SX → Prop} {k z : Int32} (hc : c < 4) (hp : post (W, S, R, O, mem, ops, oa, ob, len, upd st c (ke_as R k (att c + 1)), upd pc c 0, ke_fill reg (c * 4) 4, res, ke_fill fp (c * 17) 17, bv, ke_fill hb (c * 64) 64, upd att c (att c + 1), upd ca c k, upd co c z, upd cn (c * 3 + 2) (cn (c * 3 + 2) + 1))) : wpX_abort post (W, S, R, O, mem, ops, oa, ob, len, st, pc, reg, res, fp, bv, hb, att, ca, co, cn) (nI c) k z := by
  unfold wpX_abort
  refine ke_Xdr hc ?_
  refine ke_Xrs hc ?_
  refine ⟨ke_i4 hc, ke_i4 hc, nm_r (e' := upd att c (att c + 1)) (by rw [ke_k4 hc]) ?_⟩
  refine ⟨ke_v3 (i := 2) hc (by decide), ke_v3 (i := 2) hc (by decide), nm_r (e' := upd cn (c * 3 + 2) (cn (c * 3 + 2) + 1)) (by rw [ke_c3_2 hc]) ?_⟩
  refine ⟨ke_i4 hc, nm_r (e' := upd ca c k) (by rw [ke_k4 hc]) ?_⟩
  refine ⟨ke_i4 hc, nm_r (e' := upd co c z) (by rw [ke_k4 hc]) ?_⟩
  by_cases h2 : k = 2
  · have e : ke_as R k (att c + 1) = 3 := if_pos (Or.inl h2)
    rw [e] at hp
    refine br_t h2 (br_f (by decide) ?_)
    exact ke_X88 hc hp
  · by_cases h3 : k = 3
    · have e : ke_as R k (att c + 1) = 3 := if_pos (Or.inr (Or.inl h3))
      rw [e] at hp
      refine br_f h2 (br_t h3 (br_f (by decide) ?_))
      exact ke_X88 hc hp
    · refine br_f h2 (br_f h3 (ke_X63 hc ?_))
      have e : ke_as R k (att c + 1) = if upd att c (att c + 1) c ≤ R then 1 else 3 := by
        rw [pk_us]
        unfold ke_as
        by_cases h : att c + 1 ≤ R
        · rw [if_pos h, if_neg (by intro x; rcases x with x | x | x; exact h2 x; exact h3 x; exact x h)]
        · rw [if_neg h, if_pos (Or.inr (Or.inr h))]
      rw [e] at hp
      exact hp
theorem ke_Xaq_l {post : Int32 → SX → Prop} {t : ke_T} (hc : c < 4) (hp : post 3 (W, S, R, O, mem, ops, oa, ob, len, upd (ke_acq R t 4).1 c 4, upd (ke_acq R t 4).2.1 c 0, ke_fill (ke_acq R t 4).2.2.1 (c * 4) 4, res, (ke_acq R t 4).2.2.2.1, bv, (ke_acq R t 4).2.2.2.2.1, (ke_acq R t 4).2.2.2.2.2.1, (ke_acq R t 4).2.2.2.2.2.2.1, (ke_acq R t 4).2.2.2.2.2.2.2.1, (ke_acq R t 4).2.2.2.2.2.2.2.2.1)) : ∀ d i, i + d = 4 → wX_acquire_17 post (nI c) (d + 1) (nI i) W S R O mem ops oa ob len ((ke_acq R t i).1) ((ke_acq R t i).2.1) ((ke_acq R t i).2.2.1) res ((ke_acq R t i).2.2.2.1) bv ((ke_acq R t i).2.2.2.2.1) ((ke_acq R t i).2.2.2.2.2.1) ((ke_acq R t i).2.2.2.2.2.2.1) ((ke_acq R t i).2.2.2.2.2.2.2.1) ((ke_acq R t i).2.2.2.2.2.2.2.2.1) := by
  intro d
  induction d with
  | zero =>
    intro i hi
    have e : i = 4 := by omega
    subst e
    refine br_t (nI_le (Nat.le_refl 4) (by decide)) ⟨ke_i4 hc, nm_r (e' := upd (ke_acq R t 4).1 c 4) (by rw [ke_k4 hc]) ?_⟩
    exact ke_Xrs hc hp
  | succ d ih =>
    intro i hi
    have hi4 : i < 4 := by omega
    refine br_f (nI_ge (b := 4) (by omega) (by decide)) ⟨ke_i4 hi4, ?_⟩
    have h1 := ih (i + 1) (by omega)
    by_cases z : (ke_acq R t i).1 i = 2
    · have e : ke_acq R t (i + 1) = ke_ab R i 4 0 (ke_acq R t i) := if_pos z
      rw [e] at h1
      refine br_t (by rw [ke_k4 hi4]; exact z) (ke_Xab hi4 ?_)
      exact nm_r (nI_1 i) h1
    · have e : ke_acq R t (i + 1) = ke_acq R t i := if_neg z
      rw [e] at h1
      exact br_f (by rw [ke_k4 hi4]; exact z) (nm_r (nI_1 i) h1)
theorem ke_Xaq {post : Int32 → SX → Prop} (hc : c < 4) (hO : O = -1) (hp : post 3 (W, S, R, nI c, mem, ops, oa, ob, len, upd (ke_acq R (st, pc, reg, fp, hb, att, ca, co, cn, yb) 4).1 c 4, upd (ke_acq R (st, pc, reg, fp, hb, att, ca, co, cn, yb) 4).2.1 c 0, ke_fill (ke_acq R (st, pc, reg, fp, hb, att, ca, co, cn, yb) 4).2.2.1 (c * 4) 4, res, (ke_acq R (st, pc, reg, fp, hb, att, ca, co, cn, yb) 4).2.2.2.1, bv, (ke_acq R (st, pc, reg, fp, hb, att, ca, co, cn, yb) 4).2.2.2.2.1, (ke_acq R (st, pc, reg, fp, hb, att, ca, co, cn, yb) 4).2.2.2.2.2.1, (ke_acq R (st, pc, reg, fp, hb, att, ca, co, cn, yb) 4).2.2.2.2.2.2.1, (ke_acq R (st, pc, reg, fp, hb, att, ca, co, cn, yb) 4).2.2.2.2.2.2.2.1, (ke_acq R (st, pc, reg, fp, hb, att, ca, co, cn, yb) 4).2.2.2.2.2.2.2.2.1)) : wpX_acquire post (W, S, R, O, mem, ops, oa, ob, len, st, pc, reg, res, fp, bv, hb, att, ca, co, cn) (nI c) := by
  refine br_t hO ⟨5, ?_⟩
  exact ke_Xaq_l (t := (st, pc, reg, fp, hb, att, ca, co, cn, yb)) hc hp 4 0 rfl
theorem ke_Xcm_l {post : SX → Prop} {k : Nat} (hc : c < 4) (hk : k < 3) (hp : post (W, S, R, O, mem, ops, oa, ob, len, upd st c 0, pc, reg, ke_copy res reg (c * 4) 4, fp, bv, hb, att, ca, co, upd cn (c * 3 + k) (cn (c * 3 + k) + 1))) : ∀ d i, i + d = 4 → wX_complete_2 post (nI c) (nI k) W S R O (d + 1) (nI i) mem ops oa ob len st pc reg (ke_copy res reg (c * 4) i) fp bv hb att ca co cn := by
  intro d
  induction d with
  | zero =>
    intro i hi
    have e : i = 4 := by omega
    subst e
    refine br_t (nI_le (Nat.le_refl 4) (by decide)) ⟨ke_v3 hc hk, ke_v3 hc hk, nm_r (e' := upd cn (c * 3 + k) (cn (c * 3 + k) + 1)) (by rw [ke_c3 hc hk]) ⟨ke_i4 hc, nm_r (e' := upd st c 0) (by rw [ke_k4 hc]) hp⟩⟩
  | succ d ih =>
    intro i hi
    refine br_f (nI_ge (b := 4) (by omega) (by decide)) ⟨ke_v4 hc (by omega), ke_v4 hc (by omega), nm_r (e' := ke_copy res reg (c * 4) (i + 1)) ?_ (nm_r (nI_1 i) ?_)⟩
    · rw [ke_c4 hc (by omega)]; rfl
    · exact ih (i + 1) (by omega)
theorem ke_Xcm {post : SX → Prop} {k : Nat} (hc : c < 4) (hk : k < 3) (hp : post (W, S, R, O, mem, ops, oa, ob, len, upd st c 0, pc, reg, ke_copy res reg (c * 4) 4, fp, bv, hb, att, ca, co, upd cn (c * 3 + k) (cn (c * 3 + k) + 1))) : wpX_complete post (W, S, R, O, mem, ops, oa, ob, len, st, pc, reg, res, fp, bv, hb, att, ca, co, cn) (nI c) (nI k) := by
  refine ⟨5, ?_⟩
  exact ke_Xcm_l hc hk hp 4 0 rfl
theorem ke_Xct_l {post : Int32 → SX → Prop} (hc : c < 4) (hp : post 6 (W, S, R, O, ke_mrg mem hb bv (c * 64) 64, ops, oa, ob, len, upd st c 0, pc, reg, ke_copy res reg (c * 4) 4, ke_fill fp (c * 17) 17, bv, ke_fill hb (c * 64) 64, att, ca, co, upd cn (c * 3 + 0) (cn (c * 3 + 0) + 1))) : ∀ d i, i + d = 64 → wX_commit_2 post (nI c) W S R O (d + 1) (nI i) (ke_mrg mem hb bv (c * 64) i) ops oa ob len st pc reg res fp bv hb att ca co cn := by
  intro d
  induction d with
  | zero =>
    intro i hi
    have e : i = 64 := by omega
    subst e
    refine br_t (nI_le (Nat.le_refl 64) (by decide)) (ke_Xdr hc ?_)
    exact ke_Xcm (k := 0) hc (by decide) hp
  | succ d ih =>
    intro i hi
    refine br_f (nI_ge (b := 64) (by omega) (by decide)) ⟨ke_v64 hc (by omega), ?_⟩
    have h1 := ih (i + 1) (by omega)
    by_cases z : hb (c * 64 + i) = 0
    · have e : ke_mrg mem hb bv (c * 64) (i + 1) = ke_mrg mem hb bv (c * 64) i := if_pos z
      rw [e] at h1
      exact br_t (by rw [ke_c64 hc (by omega)]; exact z) (nm_r (nI_1 i) h1)
    · have e : ke_mrg mem hb bv (c * 64) (i + 1) = upd (ke_mrg mem hb bv (c * 64) i) i (bv (c * 64 + i)) := if_neg z
      rw [e] at h1
      exact br_f (by rw [ke_c64 hc (by omega)]; exact z) ⟨ke_v64 hc (by omega), vp_in_nI (by omega) (by omega), nm_r (e' := upd (ke_mrg mem hb bv (c * 64) i) i (bv (c * 64 + i))) (by rw [ke_c64 hc (by omega), nI_clamp (by omega)]) (nm_r (nI_1 i) h1)⟩
theorem ke_Xct {post : Int32 → SX → Prop} (hc : c < 4) (hp : post 6 (W, S, R, O, ke_mrg mem hb bv (c * 64) 64, ops, oa, ob, len, upd st c 0, pc, reg, ke_copy res reg (c * 4) 4, ke_fill fp (c * 17) 17, bv, ke_fill hb (c * 64) 64, att, ca, co, upd cn (c * 3 + 0) (cn (c * 3 + 0) + 1))) : wpX_commit post (W, S, R, O, mem, ops, oa, ob, len, st, pc, reg, res, fp, bv, hb, att, ca, co, cn) (nI c) := by
  refine ⟨65, ?_⟩
  exact ke_Xct_l hc hp 64 0 rfl
theorem ke_Xrl {post : Int32 → SX → Prop} (hc : c < 4) (hp : post 7 (W, S, R, -1, mem, ops, oa, ob, len, upd st c 0, pc, reg, ke_copy res reg (c * 4) 4, fp, bv, hb, att, ca, co, upd cn (c * 3 + 1) (cn (c * 3 + 1) + 1))) : wpX_release post (W, S, R, O, mem, ops, oa, ob, len, st, pc, reg, res, fp, bv, hb, att, ca, co, cn) (nI c) := by
  unfold wpX_release
  exact ke_Xcm (k := 1) hc (by decide) hp
theorem ke_Xbg {post : Int32 → SX → Prop} (hc : c < 4) (hO : O = -1) (hp : post 2 (W, S, R, O, mem, ops, oa, ob, len, upd st c 2, upd pc c 0, ke_fill reg (c * 4) 4, res, upd (ke_fill fp (c * 17) 17) (c * 17 + 16) 1, bv, ke_fill hb (c * 64) 64, att, ca, co, cn)) : wpX_begin post (W, S, R, O, mem, ops, oa, ob, len, st, pc, reg, res, fp, bv, hb, att, ca, co, cn) (nI c) := by
  refine br_t hO ⟨ke_i4 hc, nm_r (e' := upd st c 2) (by rw [ke_k4 hc]) ?_⟩
  refine ke_Xrs hc ?_
  refine ke_Xdr hc ?_
  exact ⟨ke_v17 (i := 16) hc (by decide), nm_r (e' := upd (ke_fill fp (c * 17) 17) (c * 17 + 16) 1) (by rw [ke_c17_16 hc]) hp⟩
end
end
section
section
variable {W S R O : Int32} {mem ops oa ob len st pc reg res fp bv yb hb att ca co cn : Nat → Int32} {c : Nat}
theorem ke_X160 {post : SX → Prop} {j L v : Nat} (hc : c < 4) (hL : len c = nI L) (hL16 : L ≤ 16) (hj : j ≤ 64) (hv : v = if L < j then L else j) (hp : post (W, S, R, O, mem, ops, oa, ob, len, st, upd pc c (nI v), reg, res, fp, bv, hb, att, ca, co, cn)) : wX_executeOnRegisters_160 post (nI c) (nI j) W S R O mem ops oa ob len st pc reg res fp bv hb att ca co cn := by
  refine ⟨ke_i4 hc, ?_⟩
  have hl : len (nI c).toNatClampNeg = nI L := by rw [ke_k4 hc]; exact hL
  by_cases h : L < j
  · rw [hv, if_pos h] at hp
    exact br_f (by rw [hl]; exact nI_ge h (by omega)) ⟨ke_i4 hc, ke_i4 hc, nm_r (e' := upd pc c (nI L)) (by rw [hl, ke_k4 hc]) hp⟩
  · rw [hv, if_neg h] at hp
    exact br_t (by rw [hl]; exact nI_le (by omega) (by omega)) ⟨ke_i4 hc, nm_r (e' := upd pc c (nI j)) (by rw [ke_k4 hc]) hp⟩
theorem ke_Xer {post : SX → Prop} {a p q i L : Nat} {b : Int32} (hc : c < 4) (ha : a < 64) (ho : ops a = nI p) (eq : oa a = nI q) (eb : ob a = b) (hi : pc c = nI i) (hL : len c = nI L) (hL16 : L ≤ 16) (hiL : i < L) (hok : ke_Ok (nI p) (nI q) b) (hp9 : p < 9) (hq4 : q < 4) (hp : post (W, S, R, O, mem, ops, oa, ob, len, st, upd pc c (nI (ke_xp p q b c L i reg)), ke_xr p q b c reg, res, fp, bv, hb, att, ca, co, cn)) : wpX_executeOnRegisters post (W, S, R, O, mem, ops, oa, ob, len, st, pc, reg, res, fp, bv, hb, att, ca, co, cn) (nI c) (nI a) := by
  have eA : (nI a).toNatClampNeg = a := nI_clamp (by omega)
  have hA : vp_in (nI a) 64 := vp_in_nI ha (by omega)
  refine ⟨hA, nm_r (e' := nI c * 4 + nI q) (by rw [eA, eq]) ⟨hA, nm_r (e' := b) (by rw [eA, eb]) ⟨ke_i4 hc, nm_r (e' := nI (i + 1)) (by rw [ke_k4 hc, hi, nI_1]) ⟨hA, nm_r (e' := nI p) (by rw [eA, ho]) ?_⟩⟩⟩⟩
  have hx : p ≠ 8 → ke_xp p q b c L i reg = if L < i + 1 then L else i + 1 := by
    intro h
    unfold ke_xp
    rw [if_neg (fun z => h z.1), if_neg (by omega)]
  have hpp : p = 0 ∨ p = 1 ∨ p = 2 ∨ p = 3 ∨ p = 4 ∨ p = 5 ∨ p = 6 ∨ p = 7 ∨ p = 8 := by omega
  rcases hpp with rfl | rfl | rfl | rfl | rfl | rfl | rfl | rfl | rfl
  · exact br_f (by decide) (br_f (by decide) (br_t rfl (⟨ke_v4 hc hq4, nm_r (e' := upd reg (c * 4 + q) b) (by rw [ke_c4 hc hq4]) (ke_X160 hc hL hL16 (by omega) (hx (by decide)) hp)⟩)))
  · exact br_f (by decide) (br_f (by decide) (br_f (by decide) (br_t rfl (ke_X160 hc hL hL16 (by omega) (hx (by decide)) hp))))
  · exact br_f (by decide) (br_f (by decide) (br_f (by decide) (br_f (by decide) (br_t rfl (ke_X160 hc hL hL16 (by omega) (hx (by decide)) hp)))))
  · obtain ⟨m, hm, em⟩ := ke_Ok3 hok (by omega) (by omega)
    subst em
    exact br_f (by decide) (br_f (by decide) (br_f (by decide) (br_f (by decide) (br_f (by decide) (br_t rfl (⟨ke_v4 hc hq4, ke_v4 hc hm, ke_v4 hc hq4, nm_r (e' := upd reg (c * 4 + q) (reg (c * 4 + q) + reg (c * 4 + (nI m).toNatClampNeg))) (by rw [ke_c4 hc hq4, ke_c4 hc hm, nI_clamp (show m < 2 ^ 31 by omega)]) (ke_X160 hc hL hL16 (by omega) (hx (by decide)) hp)⟩))))))
  · exact br_f (by decide) (br_f (by decide) (br_f (by decide) (br_f (by decide) (br_f (by decide) (br_f (by decide) (br_t rfl (⟨ke_v4 hc hq4, ke_v4 hc hq4, nm_r (e' := upd reg (c * 4 + q) (reg (c * 4 + q) + b)) (by rw [ke_c4 hc hq4]) (ke_X160 hc hL hL16 (by omega) (hx (by decide)) hp)⟩)))))))
  · exact br_f (by decide) (br_f (by decide) (br_f (by decide) (br_f (by decide) (br_f (by decide) (br_f (by decide) (br_f (by decide) (br_t rfl (ke_X160 hc hL hL16 (by omega) (hx (by decide)) hp))))))))
  · exact br_f (by decide) (br_f (by decide) (br_f (by decide) (br_f (by decide) (br_f (by decide) (br_f (by decide) (br_f (by decide) (br_f (by decide) (br_t rfl (ke_X160 hc hL hL16 (by omega) (hx (by decide)) hp)))))))))
  · exact br_f (by decide) (br_f (by decide) (br_f (by decide) (br_f (by decide) (br_f (by decide) (br_f (by decide) (br_f (by decide) (br_f (by decide) (br_f (by decide) (br_t rfl (ke_X160 hc hL hL16 (by omega) (hx (by decide)) hp))))))))))
  · obtain ⟨m, hm1, hm, em⟩ := ke_Ok8 hok (by omega) rfl
    subst em
    have e : pc (nI c).toNatClampNeg + nI m = nI (i + m) := by rw [ke_k4 hc, hi, nI_add]
    by_cases z : reg (c * 4 + q) = 0
    · have hv : ke_xp 8 q (nI m) c L i reg = if L < i + 1 then L else i + 1 := by
        unfold ke_xp
        rw [if_neg (fun y => y.2 z), if_neg (by omega)]
      exact br_f (by decide) (br_f (by decide) (br_f (by decide) (br_f (by decide) (br_f (by decide) (br_f (by decide) (br_f (by decide) (br_f (by decide) (br_f (by decide) (br_f (by decide) (br_t rfl (⟨ke_v4 hc hq4, br_t (by rw [ke_c4 hc hq4]; exact z) (ke_X160 hc hL hL16 (by omega) hv hp)⟩)))))))))))
    · have hv : ke_xp 8 q (nI m) c L i reg = if L < i + m then L else i + m := by
        unfold ke_xp
        rw [if_pos ⟨rfl, z⟩, nI_clamp (show m < 2 ^ 31 by omega)]
      have h1 : wX_executeOnRegisters_155 post (nI c) (pc (nI c).toNatClampNeg + nI m) W S R O mem ops oa ob len st pc reg res fp bv hb att ca co cn := by
        rw [e]
        exact ke_X160 hc hL hL16 (by omega) hv hp
      exact br_f (by decide) (br_f (by decide) (br_f (by decide) (br_f (by decide) (br_f (by decide) (br_f (by decide) (br_f (by decide) (br_f (by decide) (br_f (by decide) (br_f (by decide) (br_t rfl (⟨ke_v4 hc hq4, br_f (by rw [ke_c4 hc hq4]; exact z) ⟨ke_i4 hc, h1⟩⟩)))))))))))
theorem ke_nn (x : Int32) : nI (x &&& 63).toNatClampNeg = x &&& 63 := by
  obtain ⟨m, hm, e⟩ := ke_and63 x
  rw [e, nI_clamp (by omega)]
theorem ke_Xad {post : Int32 → Prop} {a p q : Nat} {b : Int32} (hc : c < 4) (ha : a < 64) (ho : ops a = nI p) (eb : ob a = b) (hok : ke_Ok (nI p) (nI q) b) (hp9 : p = 1 ∨ p = 2 ∨ p = 5 ∨ p = 6) (hp : post (nI (ke_ad p b c reg))) : wpX_addressOf post (W, S, R, O, mem, ops, oa, ob, len, st, pc, reg, res, fp, bv, hb, att, ca, co, cn) (nI c) (nI a) := by
  have eA : (nI a).toNatClampNeg = a := nI_clamp (by omega)
  have hA : vp_in (nI a) 64 := vp_in_nI ha (by omega)
  refine ⟨hA, nm_r (e' := b) (by rw [eA, eb]) ⟨hA, ?_⟩⟩
  rcases hp9 with rfl | rfl | rfl | rfl
  · obtain ⟨m, hm, em⟩ := ke_Ok1 hok (by omega) (by omega)
    have e : nI (ke_ad 1 b c reg) = b := by
      unfold ke_ad; rw [if_neg (by omega), em, nI_clamp (by omega)]
    rw [e] at hp
    exact br_f (by rw [eA, ho]; decide) ⟨hA, br_f (by rw [eA, ho]; decide) (br_t rfl hp)⟩
  · obtain ⟨m, hm, em⟩ := ke_Ok1 hok (by omega) (by omega)
    have e : nI (ke_ad 2 b c reg) = b := by
      unfold ke_ad; rw [if_neg (by omega), em, nI_clamp (by omega)]
    rw [e] at hp
    exact br_f (by rw [eA, ho]; decide) ⟨hA, br_f (by rw [eA, ho]; decide) (br_t rfl hp)⟩
  · obtain ⟨m, hm, em⟩ := ke_Ok3 hok (by omega) (by omega)
    subst em
    have e : nI (ke_ad 5 (nI m) c reg) = reg (nI c * 4 + nI m).toNatClampNeg &&& 63 := by
      unfold ke_ad; rw [if_pos (by omega), ke_nn, ke_c4 hc hm, nI_clamp (show m < 2 ^ 31 by omega)]
    rw [e] at hp
    exact br_t (by rw [eA, ho]; rfl) (br_f (by decide) ⟨ke_v4 hc hm, hp⟩)
  · obtain ⟨m, hm, em⟩ := ke_Ok3 hok (by omega) (by omega)
    subst em
    have e : nI (ke_ad 6 (nI m) c reg) = reg (nI c * 4 + nI m).toNatClampNeg &&& 63 := by
      unfold ke_ad; rw [if_pos (by omega), ke_nn, ke_c4 hc hm, nI_clamp (show m < 2 ^ 31 by omega)]
    rw [e] at hp
    exact br_f (by rw [eA, ho]; decide) ⟨hA, br_t (by rw [eA, ho]; rfl) (br_f (by decide) ⟨ke_v4 hc hm, hp⟩)⟩
theorem ke_Xse {post : Int32 → Prop} {d l : Nat} (hS : S = nI d) (h1 : 1 ≤ d) (h4 : d ≤ 4) (hl : l < 17) (hp : post (nI (ke_set d l))) : wpX_setOf post (W, S, R, O, mem, ops, oa, ob, len, st, pc, reg, res, fp, bv, hb, att, ca, co, cn) (nI l) := by
  by_cases e : l = 16
  · subst e
    exact br_t rfl hp
  · have e2 : ke_set d l = l % d := if_neg e
    rw [e2] at hp
    subst hS
    refine br_f (fun z => e ((nI_eq (by omega) (by decide)).mp z)) ⟨nI_ne0 (by omega) (by omega), ?_⟩
    rw [pk_rem (by omega) (by omega) (by omega)]
    exact hp
theorem ke_Xov_l {post : Int32 → Prop} {d s : Nat} (hc : c < 4) (hS : S = nI d) (h1 : 1 ≤ d) (h4 : d ≤ 4) (hs : s < 4) (h0 : nI (ke_cnt fp d s (c * 17) 17) < W → post 0) (hq : ¬ nI (ke_cnt fp d s (c * 17) 17) < W → post 1) : ∀ e i, i + e = 17 → wX_overflows_28 post (nI c) (nI s) W S R O mem ops oa ob len st pc reg res fp bv hb att ca co cn (e + 1) (nI (ke_cnt fp d s (c * 17) i)) (nI i) := by
  intro e
  induction e with
  | zero =>
    intro i hi
    have e : i = 17 := by omega
    subst e
    exact br_t (nI_le (Nat.le_refl 17) (by decide)) (br_c h0 hq)
  | succ e ih =>
    intro i hi
    have hh := ih (i + 1) (by omega)
    refine br_f (nI_ge (b := 17) (by omega) (by decide)) (ke_Xse hS h1 h4 (by omega) ?_)
    have hsl : ke_set d i < 4 := Nat.lt_of_lt_of_le (ke_set_lt h1) h4
    by_cases e1 : ke_set d i = s
    · refine br_t (by rw [e1]) ⟨ke_v17 hc (by omega), ?_⟩
      by_cases z : fp (c * 17 + i) = 0
      · have e2 : ke_cnt fp d s (c * 17) (i + 1) = ke_cnt fp d s (c * 17) i := if_neg (fun y => y.1 z)
        rw [e2] at hh
        exact br_t (by rw [ke_c17 hc (by omega)]; exact z) (nm_r (nI_1 i) hh)
      · have e2 : ke_cnt fp d s (c * 17) (i + 1) = ke_cnt fp d s (c * 17) i + 1 := if_pos ⟨z, e1⟩
        rw [e2] at hh
        exact br_f (by rw [ke_c17 hc (by omega)]; exact z) (nm_r (nI_1 _) (nm_r (nI_1 i) hh))
    · have e2 : ke_cnt fp d s (c * 17) (i + 1) = ke_cnt fp d s (c * 17) i := if_neg (fun y => e1 y.2)
      rw [e2] at hh
      exact br_f (fun z => e1 ((nI_eq (by omega) (by omega)).mp z)) (nm_r (nI_1 i) hh)
theorem ke_Xov {post : Int32 → Prop} {d l : Nat} (hc : c < 4) (hS : S = nI d) (h1 : 1 ≤ d) (h4 : d ≤ 4) (hl : l < 17) (h0 : ¬ ke_ov W d fp c l → post 0) (hq : ke_ov W d fp c l → post 1) : wpX_overflows post (W, S, R, O, mem, ops, oa, ob, len, st, pc, reg, res, fp, bv, hb, att, ca, co, cn) (nI c) (nI l) := by
  refine ⟨ke_v17 hc hl, ?_⟩
  have hsl : ke_set d l < 4 := Nat.lt_of_lt_of_le (ke_set_lt h1) h4
  by_cases z : fp (c * 17 + l) = 0
  · refine br_t (by rw [ke_c17 hc hl]; exact z) (ke_Xse hS h1 h4 hl ⟨18, ?_⟩)
    exact ke_Xov_l hc hS h1 h4 hsl (fun y => h0 (fun x => x.2 y)) (fun y => hq ⟨z, y⟩) 17 0 rfl
  · exact br_f (by rw [ke_c17 hc hl]; exact z) (h0 (fun x => z x.1))
theorem ke_Xcf_l {post : SX → Prop} {t : ke_T} {l : Nat} {f : Int32} (hc : c < 4) (hl : l < 17) (hp : post (W, S, R, O, mem, ops, oa, ob, len, (ke_con R l f c t 4).1, (ke_con R l f c t 4).2.1, (ke_con R l f c t 4).2.2.1, res, (ke_con R l f c t 4).2.2.2.1, bv, (ke_con R l f c t 4).2.2.2.2.1, (ke_con R l f c t 4).2.2.2.2.2.1, (ke_con R l f c t 4).2.2.2.2.2.2.1, (ke_con R l f c t 4).2.2.2.2.2.2.2.1, (ke_con R l f c t 4).2.2.2.2.2.2.2.2.1)) : ∀ d i, i + d = 4 → wX_abortConflicting_14 post (nI c) (nI l) f (d + 1) (nI i) W S R O mem ops oa ob len ((ke_con R l f c t i).1) ((ke_con R l f c t i).2.1) ((ke_con R l f c t i).2.2.1) res ((ke_con R l f c t i).2.2.2.1) bv ((ke_con R l f c t i).2.2.2.2.1) ((ke_con R l f c t i).2.2.2.2.2.1) ((ke_con R l f c t i).2.2.2.2.2.2.1) ((ke_con R l f c t i).2.2.2.2.2.2.2.1) ((ke_con R l f c t i).2.2.2.2.2.2.2.2.1) := by
  intro d
  induction d with
  | zero =>
    intro i hi
    have e : i = 4 := by omega
    subst e
    exact br_t (nI_le (Nat.le_refl 4) (by decide)) hp
  | succ d ih =>
    intro i hi
    have hi4 : i < 4 := by omega
    have h1 := ih (i + 1) (by omega)
    refine br_f (nI_ge (b := 4) (by omega) (by decide)) ?_
    by_cases e1 : i = c
    · have e : ke_con R l f c t (i + 1) = ke_con R l f c t i := if_neg (fun y => y.1 e1)
      rw [e] at h1
      exact br_t (by rw [e1]) (br_t rfl (nm_r (nI_1 i) h1))
    · refine br_f (fun z => e1 ((nI_eq (by omega) (by omega)).mp z)) ⟨ke_i4 hi4, ?_⟩
      by_cases z : (ke_con R l f c t i).1 i = 2
      · refine br_t (by rw [ke_k4 hi4]; exact z) (br_f (by decide) ⟨ke_v17 hi4 hl, ?_⟩)
        by_cases y : (ke_con R l f c t i).2.2.2.1 (i * 17 + l) &&& f = 0
        · have e : ke_con R l f c t (i + 1) = ke_con R l f c t i := if_neg (fun x => x.2.2 y)
          rw [e] at h1
          exact br_t (by rw [ke_c17 hi4 hl]; exact y) (nm_r (nI_1 i) h1)
        · have e : ke_con R l f c t (i + 1) = ke_ab R i 1 0 (ke_con R l f c t i) := if_pos ⟨e1, z, y⟩
          rw [e] at h1
          refine br_f (by rw [ke_c17 hi4 hl]; exact y) (ke_Xab hi4 ?_)
          exact nm_r (nI_1 i) h1
      · have e : ke_con R l f c t (i + 1) = ke_con R l f c t i := if_neg (fun x => z x.2.1)
        rw [e] at h1
        exact br_f (by rw [ke_k4 hi4]; exact z) (br_t rfl (nm_r (nI_1 i) h1))
theorem ke_Xcf2 {post : SX → Prop} {l : Nat} (hc : c < 4) (hl : l < 17) (hp : post (W, S, R, O, mem, ops, oa, ob, len, (ke_con R l 2 c (st, pc, reg, fp, hb, att, ca, co, cn, yb) 4).1, (ke_con R l 2 c (st, pc, reg, fp, hb, att, ca, co, cn, yb) 4).2.1, (ke_con R l 2 c (st, pc, reg, fp, hb, att, ca, co, cn, yb) 4).2.2.1, res, (ke_con R l 2 c (st, pc, reg, fp, hb, att, ca, co, cn, yb) 4).2.2.2.1, bv, (ke_con R l 2 c (st, pc, reg, fp, hb, att, ca, co, cn, yb) 4).2.2.2.2.1, (ke_con R l 2 c (st, pc, reg, fp, hb, att, ca, co, cn, yb) 4).2.2.2.2.2.1, (ke_con R l 2 c (st, pc, reg, fp, hb, att, ca, co, cn, yb) 4).2.2.2.2.2.2.1, (ke_con R l 2 c (st, pc, reg, fp, hb, att, ca, co, cn, yb) 4).2.2.2.2.2.2.2.1, (ke_con R l 2 c (st, pc, reg, fp, hb, att, ca, co, cn, yb) 4).2.2.2.2.2.2.2.2.1)) : wpX_abortConflicting post (W, S, R, O, mem, ops, oa, ob, len, st, pc, reg, res, fp, bv, hb, att, ca, co, cn) (nI c) (nI l) 0 := by
  refine br_t rfl ⟨5, ?_⟩
  exact ke_Xcf_l (t := (st, pc, reg, fp, hb, att, ca, co, cn, yb)) hc hl hp 4 0 rfl
theorem ke_Xcf3 {post : SX → Prop} {l : Nat} (hc : c < 4) (hl : l < 17) (hp : post (W, S, R, O, mem, ops, oa, ob, len, (ke_con R l 3 c (st, pc, reg, fp, hb, att, ca, co, cn, yb) 4).1, (ke_con R l 3 c (st, pc, reg, fp, hb, att, ca, co, cn, yb) 4).2.1, (ke_con R l 3 c (st, pc, reg, fp, hb, att, ca, co, cn, yb) 4).2.2.1, res, (ke_con R l 3 c (st, pc, reg, fp, hb, att, ca, co, cn, yb) 4).2.2.2.1, bv, (ke_con R l 3 c (st, pc, reg, fp, hb, att, ca, co, cn, yb) 4).2.2.2.2.1, (ke_con R l 3 c (st, pc, reg, fp, hb, att, ca, co, cn, yb) 4).2.2.2.2.2.1, (ke_con R l 3 c (st, pc, reg, fp, hb, att, ca, co, cn, yb) 4).2.2.2.2.2.2.1, (ke_con R l 3 c (st, pc, reg, fp, hb, att, ca, co, cn, yb) 4).2.2.2.2.2.2.2.1, (ke_con R l 3 c (st, pc, reg, fp, hb, att, ca, co, cn, yb) 4).2.2.2.2.2.2.2.2.1)) : wpX_abortConflicting post (W, S, R, O, mem, ops, oa, ob, len, st, pc, reg, res, fp, bv, hb, att, ca, co, cn) (nI c) (nI l) 1 := by
  refine br_f (by decide) ⟨5, ?_⟩
  exact ke_Xcf_l (t := (st, pc, reg, fp, hb, att, ca, co, cn, yb)) hc hl hp 4 0 rfl
end
end
section
section
variable {W S R O : Int32} {mem ops oa ob len st pc reg res fp bv yb hb att ca co cn : Nat → Int32} {c : Nat}
theorem ke_d4 {m : Nat} (hm : m < 64) : nI m / 4 = nI (m / 4) := pk_div (d := 4) (by omega) (by decide) (by decide)
theorem ke_n4 : ¬ (4 : Int32) = 0 := by decide
theorem ke_X65o {post : Int32 → SX → Prop} {d m l : Nat} {z : Int32} {p q i L : Nat} {b : Int32} (hc : c < 4) (ho : ops (c * 16 + i) = nI p) (eq : oa (c * 16 + i) = nI q) (eb : ob (c * 16 + i) = b) (hi : pc c = nI i) (hL : len c = nI L) (hL16 : L ≤ 16) (hiL : i < L) (hok : ke_Ok (nI p) (nI q) b) (hp9 : p < 9) (hq4 : q < 4) (hpp : p = 1 ∨ p = 2 ∨ p = 5 ∨ p = 6) (hS : S = nI d) (h1 : 1 ≤ d) (h4 : d ≤ 4) (hm : m = ke_ad p b c reg) (hl : l = m / 4) (hov : ke_ov W d fp c l) (hp : post 5 (W, S, R, O, mem, ops, oa, ob, len, upd st c (ke_as R 2 (att c + 1)), upd pc c 0, ke_fill reg (c * 4) 4, res, ke_fill fp (c * 17) 17, bv, ke_fill hb (c * 64) 64, upd att c (att c + 1), upd ca c 2, upd co c 0, upd cn (c * 3 + 2) (cn (c * 3 + 2) + 1))) : wX_executeSpeculatively_65 post (nI c) (nI (c * 16 + i)) z W S R O mem ops oa ob len st pc reg res fp bv hb att ca co cn := by
  have hm64 : m < 64 := by rw [hm]; exact ke_ad_lt c reg hok hpp
  unfold wX_executeSpeculatively_65
  refine ke_Xad hc (by omega) ho eb hok hpp ?_
  rw [← hm]
  refine ⟨ke_n4, nm_r (e' := nI l) (by rw [ke_d4 hm64, hl]) ?_⟩
  refine ke_Xov hc hS h1 h4 (by omega) (fun h => absurd hov h) (fun _ => ?_)
  refine br_f (by decide) ?_
  exact ke_Xab hc hp
theorem ke_X65l {post : Int32 → SX → Prop} {d m l : Nat} {p q i L : Nat} {b : Int32} (hc : c < 4) (ho : ops (c * 16 + i) = nI p) (eq : oa (c * 16 + i) = nI q) (eb : ob (c * 16 + i) = b) (hi : pc c = nI i) (hL : len c = nI L) (hL16 : L ≤ 16) (hiL : i < L) (hok : ke_Ok (nI p) (nI q) b) (hp9 : p < 9) (hq4 : q < 4) (hpp : p = 1 ∨ p = 5) (hS : S = nI d) (h1 : 1 ≤ d) (h4 : d ≤ 4) (hm : m = ke_ad p b c reg) (hl : l = m / 4) (hov : ¬ ke_ov W d fp c l) (hp : post 4 (W, S, R, O, mem, ops, oa, ob, len, (ke_con R l 2 c (st, pc, reg, fp, hb, att, ca, co, cn, yb) 4).1, upd (ke_con R l 2 c (st, pc, reg, fp, hb, att, ca, co, cn, yb) 4).2.1 c ((ke_con R l 2 c (st, pc, reg, fp, hb, att, ca, co, cn, yb) 4).2.1 c + 1), upd (ke_con R l 2 c (st, pc, reg, fp, hb, att, ca, co, cn, yb) 4).2.2.1 (c * 4 + q) (if (ke_con R l 2 c (st, pc, reg, fp, hb, att, ca, co, cn, yb) 4).2.2.2.2.1 (c * 64 + m) = 0 then mem m else bv (c * 64 + m)), res, upd (ke_con R l 2 c (st, pc, reg, fp, hb, att, ca, co, cn, yb) 4).2.2.2.1 (c * 17 + l) ((ke_con R l 2 c (st, pc, reg, fp, hb, att, ca, co, cn, yb) 4).2.2.2.1 (c * 17 + l) ||| 1), bv, (ke_con R l 2 c (st, pc, reg, fp, hb, att, ca, co, cn, yb) 4).2.2.2.2.1, (ke_con R l 2 c (st, pc, reg, fp, hb, att, ca, co, cn, yb) 4).2.2.2.2.2.1, (ke_con R l 2 c (st, pc, reg, fp, hb, att, ca, co, cn, yb) 4).2.2.2.2.2.2.1, (ke_con R l 2 c (st, pc, reg, fp, hb, att, ca, co, cn, yb) 4).2.2.2.2.2.2.2.1, (ke_con R l 2 c (st, pc, reg, fp, hb, att, ca, co, cn, yb) 4).2.2.2.2.2.2.2.2.1)) : wX_executeSpeculatively_65 post (nI c) (nI (c * 16 + i)) 0 W S R O mem ops oa ob len st pc reg res fp bv hb att ca co cn := by
  have hm64 : m < 64 := by rw [hm]; exact ke_ad_lt c reg hok (by omega)
  have hA : vp_in (nI (c * 16 + i)) 64 := vp_in_nI (by omega) (by omega)
  have eA : (nI (c * 16 + i)).toNatClampNeg = c * 16 + i := nI_clamp (by omega)
  have hl16 : l < 17 := by omega
  have hm6 : (nI m).toNatClampNeg = m := nI_clamp (by omega)
  unfold wX_executeSpeculatively_65
  refine ke_Xad hc (by omega) ho eb hok (by omega) ?_
  rw [← hm]
  refine ⟨ke_n4, nm_r (e' := nI l) (by rw [ke_d4 hm64, hl]) ?_⟩
  refine ke_Xov hc hS h1 h4 hl16 (fun _ => ?_) (fun h => absurd h hov)
  refine br_t rfl ?_
  refine ke_Xcf2 (yb := yb) hc hl16 ?_
  generalize ke_con R l 2 c (st, pc, reg, fp, hb, att, ca, co, cn, yb) 4 = u at hp ⊢
  refine ⟨hA, nm_r (e' := nI c * 4 + nI q) (by rw [eA, eq]) (nm_r (e' := nI c * 64 + nI m) rfl ?_)⟩
  refine br_t rfl ⟨ke_v17 hc hl16, ke_v17 hc hl16, nm_r (e' := upd u.2.2.2.1 (c * 17 + l) (u.2.2.2.1 (c * 17 + l) ||| 1)) (by rw [ke_c17 hc hl16]) ⟨ke_v64 hc hm64, ?_⟩⟩
  by_cases z : u.2.2.2.2.1 (c * 64 + m) = 0
  · rw [if_pos z] at hp
    refine br_t (by rw [ke_c64 hc hm64]; exact z) ⟨vp_in_nI hm64 (by omega), ?_⟩
    rw [hm6]
    exact ⟨ke_v4 hc hq4, nm_r (e' := upd u.2.2.1 (c * 4 + q) (mem m)) (by rw [ke_c4 hc hq4]) ⟨ke_i4 hc, ke_i4 hc, nm_r (e' := upd u.2.1 c (u.2.1 c + 1)) (by rw [ke_k4 hc]) hp⟩⟩
  · rw [if_neg z] at hp
    refine br_f (by rw [ke_c64 hc hm64]; exact z) ⟨ke_v64 hc hm64, ?_⟩
    rw [ke_c64 hc hm64]
    exact ⟨ke_v4 hc hq4, nm_r (e' := upd u.2.2.1 (c * 4 + q) (bv (c * 64 + m))) (by rw [ke_c4 hc hq4]) ⟨ke_i4 hc, ke_i4 hc, nm_r (e' := upd u.2.1 c (u.2.1 c + 1)) (by rw [ke_k4 hc]) hp⟩⟩
theorem ke_X65s {post : Int32 → SX → Prop} {d m l : Nat} {p q i L : Nat} {b : Int32} (hc : c < 4) (ho : ops (c * 16 + i) = nI p) (eq : oa (c * 16 + i) = nI q) (eb : ob (c * 16 + i) = b) (hi : pc c = nI i) (hL : len c = nI L) (hL16 : L ≤ 16) (hiL : i < L) (hok : ke_Ok (nI p) (nI q) b) (hp9 : p < 9) (hq4 : q < 4) (hpp : p = 2 ∨ p = 6) (hS : S = nI d) (h1 : 1 ≤ d) (h4 : d ≤ 4) (hm : m = ke_ad p b c reg) (hl : l = m / 4) (hov : ¬ ke_ov W d fp c l) (hp : post 4 (W, S, R, O, mem, ops, oa, ob, len, (ke_con R l 3 c (st, pc, reg, fp, hb, att, ca, co, cn, yb) 4).1, upd (ke_con R l 3 c (st, pc, reg, fp, hb, att, ca, co, cn, yb) 4).2.1 c ((ke_con R l 3 c (st, pc, reg, fp, hb, att, ca, co, cn, yb) 4).2.1 c + 1), (ke_con R l 3 c (st, pc, reg, fp, hb, att, ca, co, cn, yb) 4).2.2.1, res, upd (ke_con R l 3 c (st, pc, reg, fp, hb, att, ca, co, cn, yb) 4).2.2.2.1 (c * 17 + l) ((ke_con R l 3 c (st, pc, reg, fp, hb, att, ca, co, cn, yb) 4).2.2.2.1 (c * 17 + l) ||| 2), upd bv (c * 64 + m) ((ke_con R l 3 c (st, pc, reg, fp, hb, att, ca, co, cn, yb) 4).2.2.1 (c * 4 + q)), upd (ke_con R l 3 c (st, pc, reg, fp, hb, att, ca, co, cn, yb) 4).2.2.2.2.1 (c * 64 + m) 1, (ke_con R l 3 c (st, pc, reg, fp, hb, att, ca, co, cn, yb) 4).2.2.2.2.2.1, (ke_con R l 3 c (st, pc, reg, fp, hb, att, ca, co, cn, yb) 4).2.2.2.2.2.2.1, (ke_con R l 3 c (st, pc, reg, fp, hb, att, ca, co, cn, yb) 4).2.2.2.2.2.2.2.1, (ke_con R l 3 c (st, pc, reg, fp, hb, att, ca, co, cn, yb) 4).2.2.2.2.2.2.2.2.1)) : wX_executeSpeculatively_65 post (nI c) (nI (c * 16 + i)) 1 W S R O mem ops oa ob len st pc reg res fp bv hb att ca co cn := by
  have hm64 : m < 64 := by rw [hm]; exact ke_ad_lt c reg hok (by omega)
  have hA : vp_in (nI (c * 16 + i)) 64 := vp_in_nI (by omega) (by omega)
  have eA : (nI (c * 16 + i)).toNatClampNeg = c * 16 + i := nI_clamp (by omega)
  have hl16 : l < 17 := by omega
  unfold wX_executeSpeculatively_65
  refine ke_Xad hc (by omega) ho eb hok (by omega) ?_
  rw [← hm]
  refine ⟨ke_n4, nm_r (e' := nI l) (by rw [ke_d4 hm64, hl]) ?_⟩
  refine ke_Xov hc hS h1 h4 hl16 (fun _ => ?_) (fun h => absurd h hov)
  refine br_t rfl ?_
  refine ke_Xcf3 (yb := yb) hc hl16 ?_
  generalize ke_con R l 3 c (st, pc, reg, fp, hb, att, ca, co, cn, yb) 4 = u at hp ⊢
  refine ⟨hA, nm_r (e' := nI c * 4 + nI q) (by rw [eA, eq]) (nm_r (e' := nI c * 64 + nI m) rfl ?_)⟩
  refine br_f (by decide) ⟨ke_v17 hc hl16, ke_v17 hc hl16, nm_r (e' := upd u.2.2.2.1 (c * 17 + l) (u.2.2.2.1 (c * 17 + l) ||| 2)) (by rw [ke_c17 hc hl16]) ?_⟩
  refine ⟨ke_v4 hc hq4, ke_v64 hc hm64, nm_r (e' := upd bv (c * 64 + m) (u.2.2.1 (c * 4 + q))) (by rw [ke_c64 hc hm64, ke_c4 hc hq4]) ?_⟩
  refine ⟨ke_v64 hc hm64, nm_r (e' := upd u.2.2.2.2.1 (c * 64 + m) 1) (by rw [ke_c64 hc hm64, ke_b_1]) ?_⟩
  exact ⟨ke_i4 hc, ke_i4 hc, nm_r (e' := upd u.2.1 c (u.2.1 c + 1)) (by rw [ke_k4 hc]) hp⟩
theorem ke_is0 {post : Int32 → Prop} {p : Nat} (hp : p < 9) (h2 : ¬ (p = 2 ∨ p = 6)) (h : post 0) : wpX_isStore post (nI p) :=
  br_f (fun z => h2 (Or.inl ((nI_eq (by omega) (by decide)).mp z))) (br_f (fun z => h2 (Or.inr ((nI_eq (by omega) (by decide)).mp z))) h)
theorem ke_is1 {post : Int32 → Prop} {p : Nat} (h2 : p = 2 ∨ p = 6) (h : post 1) : wpX_isStore post (nI p) := by
  rcases h2 with rfl | rfl
  · exact br_t rfl h
  · exact br_f (by decide) (br_t rfl h)
theorem ke_il0 {post : Int32 → Prop} {p : Nat} (hp : p < 9) (h2 : ¬ (p = 1 ∨ p = 5)) (h : post 0) : wpX_isLoad post (nI p) :=
  br_f (fun z => h2 (Or.inl ((nI_eq (by omega) (by decide)).mp z))) (br_f (fun z => h2 (Or.inr ((nI_eq (by omega) (by decide)).mp z))) h)
theorem ke_il1 {post : Int32 → Prop} {p : Nat} (h2 : p = 1 ∨ p = 5) (h : post 1) : wpX_isLoad post (nI p) := by
  rcases h2 with rfl | rfl
  · exact br_t rfl h
  · exact br_f (by decide) (br_t rfl h)
theorem ke_Xs7 {post : Int32 → SX → Prop} {p q i L : Nat} {b : Int32} (hc : c < 4) (ho : ops (c * 16 + i) = nI p) (eq : oa (c * 16 + i) = nI q) (eb : ob (c * 16 + i) = b) (hi : pc c = nI i) (hL : len c = nI L) (hL16 : L ≤ 16) (hiL : i < L) (hok : ke_Ok (nI p) (nI q) b) (hp9 : p < 9) (hq4 : q < 4) (hpp : p = 7) (hp : post 5 (W, S, R, O, mem, ops, oa, ob, len, upd st c (ke_as R 3 (att c + 1)), upd pc c 0, ke_fill reg (c * 4) 4, res, ke_fill fp (c * 17) 17, bv, ke_fill hb (c * 64) 64, upd att c (att c + 1), upd ca c 3, upd co c b, upd cn (c * 3 + 2) (cn (c * 3 + 2) + 1))) : wpX_executeSpeculatively post (W, S, R, O, mem, ops, oa, ob, len, st, pc, reg, res, fp, bv, hb, att, ca, co, cn) (nI c) := by
  have eA : (nI (c * 16 + i)).toNatClampNeg = c * 16 + i := nI_clamp (by omega)
  have hA : vp_in (nI (c * 16 + i)) 64 := vp_in_nI (by omega) (by omega)
  refine ⟨ke_i4 hc, nm_r (e' := nI (c * 16 + i)) (by rw [ke_k4 hc, hi, ke_x16]) ⟨hA, nm_r (e' := nI p) (by rw [eA, ho]) ?_⟩⟩
  subst hpp
  refine br_t rfl ⟨hA, ?_⟩
  rw [eA, eb]
  exact ke_Xab hc hp
theorem ke_Xsx {post : Int32 → SX → Prop} {p q i L : Nat} {b : Int32} (hc : c < 4) (ho : ops (c * 16 + i) = nI p) (eq : oa (c * 16 + i) = nI q) (eb : ob (c * 16 + i) = b) (hi : pc c = nI i) (hL : len c = nI L) (hL16 : L ≤ 16) (hiL : i < L) (hok : ke_Ok (nI p) (nI q) b) (hp9 : p < 9) (hq4 : q < 4) (hpp : ¬ (p = 1 ∨ p = 2 ∨ p = 5 ∨ p = 6 ∨ p = 7)) (hp : post 4 (W, S, R, O, mem, ops, oa, ob, len, st, upd pc c (nI (ke_xp p q b c L i reg)), ke_xr p q b c reg, res, fp, bv, hb, att, ca, co, cn)) : wpX_executeSpeculatively post (W, S, R, O, mem, ops, oa, ob, len, st, pc, reg, res, fp, bv, hb, att, ca, co, cn) (nI c) := by
  have eA : (nI (c * 16 + i)).toNatClampNeg = c * 16 + i := nI_clamp (by omega)
  have hA : vp_in (nI (c * 16 + i)) 64 := vp_in_nI (by omega) (by omega)
  refine ⟨ke_i4 hc, nm_r (e' := nI (c * 16 + i)) (by rw [ke_k4 hc, hi, ke_x16]) ⟨hA, nm_r (e' := nI p) (by rw [eA, ho]) ?_⟩⟩
  refine br_f (fun z => hpp (by have := (nI_eq (a := p) (b := 7) (by omega) (by decide)).mp z; omega)) (ke_is0 hp9 (by omega) ?_)
  refine br_t rfl (ke_il0 hp9 (by omega) ?_)
  refine br_t rfl ?_
  exact ke_Xer hc (by omega) ho eq eb hi hL hL16 hiL hok hp9 hq4 hp
theorem ke_Xsl {post : Int32 → SX → Prop} {p q i L : Nat} {b : Int32} (hc : c < 4) (ho : ops (c * 16 + i) = nI p) (eq : oa (c * 16 + i) = nI q) (eb : ob (c * 16 + i) = b) (hi : pc c = nI i) (hL : len c = nI L) (hL16 : L ≤ 16) (hiL : i < L) (hok : ke_Ok (nI p) (nI q) b) (hp9 : p < 9) (hq4 : q < 4) (hpp : p = 1 ∨ p = 5) (h : wX_executeSpeculatively_65 post (nI c) (nI (c * 16 + i)) 0 W S R O mem ops oa ob len st pc reg res fp bv hb att ca co cn) : wpX_executeSpeculatively post (W, S, R, O, mem, ops, oa, ob, len, st, pc, reg, res, fp, bv, hb, att, ca, co, cn) (nI c) := by
  have eA : (nI (c * 16 + i)).toNatClampNeg = c * 16 + i := nI_clamp (by omega)
  have hA : vp_in (nI (c * 16 + i)) 64 := vp_in_nI (by omega) (by omega)
  refine ⟨ke_i4 hc, nm_r (e' := nI (c * 16 + i)) (by rw [ke_k4 hc, hi, ke_x16]) ⟨hA, nm_r (e' := nI p) (by rw [eA, ho]) ?_⟩⟩
  refine br_f (fun z => by have := (nI_eq (a := p) (b := 7) (by omega) (by decide)).mp z; omega) (ke_is0 hp9 (by omega) ?_)
  refine br_t rfl (ke_il1 hpp ?_)
  exact br_f (by decide) h
theorem ke_Xss {post : Int32 → SX → Prop} {p q i L : Nat} {b : Int32} (hc : c < 4) (ho : ops (c * 16 + i) = nI p) (eq : oa (c * 16 + i) = nI q) (eb : ob (c * 16 + i) = b) (hi : pc c = nI i) (hL : len c = nI L) (hL16 : L ≤ 16) (hiL : i < L) (hok : ke_Ok (nI p) (nI q) b) (hp9 : p < 9) (hq4 : q < 4) (hpp : p = 2 ∨ p = 6) (h : wX_executeSpeculatively_65 post (nI c) (nI (c * 16 + i)) 1 W S R O mem ops oa ob len st pc reg res fp bv hb att ca co cn) : wpX_executeSpeculatively post (W, S, R, O, mem, ops, oa, ob, len, st, pc, reg, res, fp, bv, hb, att, ca, co, cn) (nI c) := by
  have eA : (nI (c * 16 + i)).toNatClampNeg = c * 16 + i := nI_clamp (by omega)
  have hA : vp_in (nI (c * 16 + i)) 64 := vp_in_nI (by omega) (by omega)
  refine ⟨ke_i4 hc, nm_r (e' := nI (c * 16 + i)) (by rw [ke_k4 hc, hi, ke_x16]) ⟨hA, nm_r (e' := nI p) (by rw [eA, ho]) ?_⟩⟩
  refine br_f (fun z => by have := (nI_eq (a := p) (b := 7) (by omega) (by decide)).mp z; omega) (ke_is1 hpp ?_)
  exact br_f (by decide) h
theorem ke_Xmx {post : Int32 → SX → Prop} {p q i L : Nat} {b : Int32} (hc : c < 4) (ho : ops (c * 16 + i) = nI p) (eq : oa (c * 16 + i) = nI q) (eb : ob (c * 16 + i) = b) (hi : pc c = nI i) (hL : len c = nI L) (hL16 : L ≤ 16) (hiL : i < L) (hok : ke_Ok (nI p) (nI q) b) (hp9 : p < 9) (hq4 : q < 4) (hpp : ¬ (p = 1 ∨ p = 2 ∨ p = 5 ∨ p = 6)) (hp : post 4 (W, S, R, O, mem, ops, oa, ob, len, st, upd pc c (nI (ke_xp p q b c L i reg)), ke_xr p q b c reg, res, fp, bv, hb, att, ca, co, cn)) : wpX_executeOnMemory post (W, S, R, O, mem, ops, oa, ob, len, st, pc, reg, res, fp, bv, hb, att, ca, co, cn) (nI c) := by
  have eA : (nI (c * 16 + i)).toNatClampNeg = c * 16 + i := nI_clamp (by omega)
  have hA : vp_in (nI (c * 16 + i)) 64 := vp_in_nI (by omega) (by omega)
  refine ⟨ke_i4 hc, nm_r (e' := nI (c * 16 + i)) (by rw [ke_k4 hc, hi, ke_x16]) ⟨hA, ?_⟩⟩
  rw [eA, ho]
  refine ke_is0 hp9 (by omega) ?_
  refine br_t rfl ⟨hA, ke_il0 hp9 (by omega) ?_⟩
  refine br_t rfl ?_
  exact ke_Xer hc (by omega) ho eq eb hi hL hL16 hiL hok hp9 hq4 hp
theorem ke_Xml {post : Int32 → SX → Prop} {p q i L : Nat} {b : Int32} (hc : c < 4) (ho : ops (c * 16 + i) = nI p) (eq : oa (c * 16 + i) = nI q) (eb : ob (c * 16 + i) = b) (hi : pc c = nI i) (hL : len c = nI L) (hL16 : L ≤ 16) (hiL : i < L) (hok : ke_Ok (nI p) (nI q) b) (hp9 : p < 9) (hq4 : q < 4) (hpp : p = 1 ∨ p = 5) (hp : post 4 (W, S, R, O, mem, ops, oa, ob, len, st, upd pc c (pc c + 1), upd reg (c * 4 + q) (mem (ke_ad p b c reg)), res, fp, bv, hb, att, ca, co, cn)) : wpX_executeOnMemory post (W, S, R, O, mem, ops, oa, ob, len, st, pc, reg, res, fp, bv, hb, att, ca, co, cn) (nI c) := by
  have eA : (nI (c * 16 + i)).toNatClampNeg = c * 16 + i := nI_clamp (by omega)
  have hA : vp_in (nI (c * 16 + i)) 64 := vp_in_nI (by omega) (by omega)
  have hm64 : ke_ad p b c reg < 64 := ke_ad_lt c reg hok (by omega)
  refine ⟨ke_i4 hc, nm_r (e' := nI (c * 16 + i)) (by rw [ke_k4 hc, hi, ke_x16]) ⟨hA, ?_⟩⟩
  rw [eA, ho]
  refine ke_is0 hp9 (by omega) ?_
  refine br_t rfl ⟨hA, ke_il1 hpp ?_⟩
  refine br_f (by decide) ?_
  unfold wX_executeOnMemory_46
  refine ke_Xad hc (by omega) ho eb hok (by omega) ?_
  refine ⟨hA, nm_r (e' := nI c * 4 + nI q) (by rw [eA, eq]) (br_t rfl ⟨vp_in_nI hm64 (by omega), ke_v4 hc hq4, nm_r (e' := upd reg (c * 4 + q) (mem (ke_ad p b c reg))) (by rw [ke_c4 hc hq4, nI_clamp (by omega)]) ?_⟩)⟩
  exact ⟨ke_i4 hc, ke_i4 hc, nm_r (e' := upd pc c (pc c + 1)) (by rw [ke_k4 hc]) hp⟩
theorem ke_Xms {post : Int32 → SX → Prop} {p q i L : Nat} {b : Int32} (hc : c < 4) (ho : ops (c * 16 + i) = nI p) (eq : oa (c * 16 + i) = nI q) (eb : ob (c * 16 + i) = b) (hi : pc c = nI i) (hL : len c = nI L) (hL16 : L ≤ 16) (hiL : i < L) (hok : ke_Ok (nI p) (nI q) b) (hp9 : p < 9) (hq4 : q < 4) (hpp : p = 2 ∨ p = 6) (hp : post 4 (W, S, R, O, upd mem (ke_ad p b c reg) (reg (c * 4 + q)), ops, oa, ob, len, st, upd pc c (pc c + 1), reg, res, fp, bv, hb, att, ca, co, cn)) : wpX_executeOnMemory post (W, S, R, O, mem, ops, oa, ob, len, st, pc, reg, res, fp, bv, hb, att, ca, co, cn) (nI c) := by
  have eA : (nI (c * 16 + i)).toNatClampNeg = c * 16 + i := nI_clamp (by omega)
  have hA : vp_in (nI (c * 16 + i)) 64 := vp_in_nI (by omega) (by omega)
  have hm64 : ke_ad p b c reg < 64 := ke_ad_lt c reg hok (by omega)
  refine ⟨ke_i4 hc, nm_r (e' := nI (c * 16 + i)) (by rw [ke_k4 hc, hi, ke_x16]) ⟨hA, ?_⟩⟩
  rw [eA, ho]
  refine ke_is1 hpp ?_
  refine br_f (by decide) ?_
  unfold wX_executeOnMemory_46
  refine ke_Xad hc (by omega) ho eb hok (by omega) ?_
  refine ⟨hA, nm_r (e' := nI c * 4 + nI q) (by rw [eA, eq]) (br_f (by decide) ⟨ke_v4 hc hq4, vp_in_nI hm64 (by omega), nm_r (e' := upd mem (ke_ad p b c reg) (reg (c * 4 + q))) (by rw [ke_c4 hc hq4, nI_clamp (show ke_ad p b c reg < 2 ^ 31 by omega)]) ?_⟩)⟩
  exact ⟨ke_i4 hc, ke_i4 hc, nm_r (e' := upd pc c (pc c + 1)) (by rw [ke_k4 hc]) hp⟩
theorem ke_co1 {post : Int32 → Prop} (hc : c < 4) (h : post 1) : wpX_isCore post (nI c) := br_f (nI_pos (by omega)) (br_f (nI_ge (b := 4) hc (by decide)) h)
theorem ke_Xst0 {post : Int32 → SX → Prop} (hc : c < 4) (h0 : pc c < len c → wX_step_29 post (nI c) 0 W S R O mem ops oa ob len st pc reg res fp bv hb att ca co cn) (h1 : ¬ pc c < len c → wX_step_29 post (nI c) 1 W S R O mem ops oa ob len st pc reg res fp bv hb att ca co cn) : wpX_step post (W, S, R, O, mem, ops, oa, ob, len, st, pc, reg, res, fp, bv, hb, att, ca, co, cn) (nI c) := by
  unfold wpX_step
  refine ke_co1 hc ?_
  refine br_f (by decide) ⟨ke_i4 hc, ke_i4 hc, ?_⟩
  rw [ke_k4 hc]
  exact br_c h0 h1
theorem ke_T0 {post : Int32 → SX → Prop} (hc : c < 4) (hs : st c = 0) (hp : post 0 (W, S, R, O, mem, ops, oa, ob, len, st, pc, reg, res, fp, bv, hb, att, ca, co, cn)) : wpX_step post (W, S, R, O, mem, ops, oa, ob, len, st, pc, reg, res, fp, bv, hb, att, ca, co, cn) (nI c) := by
  refine ke_Xst0 hc (fun _ => ?_) (fun _ => ?_)
  · exact ⟨ke_i4 hc, nm_r (e' := 0) (by rw [ke_k4 hc, hs]) (br_t (by decide) hp)⟩
  · exact ⟨ke_i4 hc, nm_r (e' := 0) (by rw [ke_k4 hc, hs]) (br_t (by decide) hp)⟩
theorem ke_T1 {post : Int32 → SX → Prop} (hc : c < 4) (hs : st c = 1) (hO : O = -1) (hp : post 2 (W, S, R, O, mem, ops, oa, ob, len, upd st c 2, upd pc c 0, ke_fill reg (c * 4) 4, res, upd (ke_fill fp (c * 17) 17) (c * 17 + 16) 1, bv, ke_fill hb (c * 64) 64, att, ca, co, cn)) : wpX_step post (W, S, R, O, mem, ops, oa, ob, len, st, pc, reg, res, fp, bv, hb, att, ca, co, cn) (nI c) := by
  refine ke_Xst0 hc (fun _ => ?_) (fun _ => ?_)
  · exact ⟨ke_i4 hc, nm_r (e' := 1) (by rw [ke_k4 hc, hs]) (br_f (by decide) (br_f (by decide) (br_t rfl (ke_Xbg hc hO hp))))⟩
  · exact ⟨ke_i4 hc, nm_r (e' := 1) (by rw [ke_k4 hc, hs]) (br_f (by decide) (br_f (by decide) (br_t rfl (ke_Xbg hc hO hp))))⟩
theorem ke_T1b {post : Int32 → SX → Prop} (hc : c < 4) (hs : st c = 1) (hO : ¬ O = -1) (hp : post 1 (W, S, R, O, mem, ops, oa, ob, len, st, pc, reg, res, fp, bv, hb, att, ca, co, cn)) : wpX_step post (W, S, R, O, mem, ops, oa, ob, len, st, pc, reg, res, fp, bv, hb, att, ca, co, cn) (nI c) := by
  refine ke_Xst0 hc (fun _ => ?_) (fun _ => ?_)
  · exact ⟨ke_i4 hc, nm_r (e' := 1) (by rw [ke_k4 hc, hs]) (br_f (by decide) (br_f (by decide) (br_t rfl (br_f hO hp))))⟩
  · exact ⟨ke_i4 hc, nm_r (e' := 1) (by rw [ke_k4 hc, hs]) (br_f (by decide) (br_f (by decide) (br_t rfl (br_f hO hp))))⟩
theorem ke_T3 {post : Int32 → SX → Prop} (hc : c < 4) (hs : st c = 3) (hO : O = -1) (hp : post 3 (W, S, R, nI c, mem, ops, oa, ob, len, upd (ke_acq R (st, pc, reg, fp, hb, att, ca, co, cn, yb) 4).1 c 4, upd (ke_acq R (st, pc, reg, fp, hb, att, ca, co, cn, yb) 4).2.1 c 0, ke_fill (ke_acq R (st, pc, reg, fp, hb, att, ca, co, cn, yb) 4).2.2.1 (c * 4) 4, res, (ke_acq R (st, pc, reg, fp, hb, att, ca, co, cn, yb) 4).2.2.2.1, bv, (ke_acq R (st, pc, reg, fp, hb, att, ca, co, cn, yb) 4).2.2.2.2.1, (ke_acq R (st, pc, reg, fp, hb, att, ca, co, cn, yb) 4).2.2.2.2.2.1, (ke_acq R (st, pc, reg, fp, hb, att, ca, co, cn, yb) 4).2.2.2.2.2.2.1, (ke_acq R (st, pc, reg, fp, hb, att, ca, co, cn, yb) 4).2.2.2.2.2.2.2.1, (ke_acq R (st, pc, reg, fp, hb, att, ca, co, cn, yb) 4).2.2.2.2.2.2.2.2.1)) : wpX_step post (W, S, R, O, mem, ops, oa, ob, len, st, pc, reg, res, fp, bv, hb, att, ca, co, cn) (nI c) := by
  refine ke_Xst0 hc (fun _ => ?_) (fun _ => ?_)
  · exact ⟨ke_i4 hc, nm_r (e' := 3) (by rw [ke_k4 hc, hs]) (br_f (by decide) (br_f (by decide) (br_f (by decide) (br_f (by decide) (br_t rfl (ke_Xaq hc hO hp))))))⟩
  · exact ⟨ke_i4 hc, nm_r (e' := 3) (by rw [ke_k4 hc, hs]) (br_f (by decide) (br_f (by decide) (br_f (by decide) (br_f (by decide) (br_t rfl (ke_Xaq hc hO hp))))))⟩
theorem ke_T3b {post : Int32 → SX → Prop} (hc : c < 4) (hs : st c = 3) (hO : ¬ O = -1) (hp : post 1 (W, S, R, O, mem, ops, oa, ob, len, st, pc, reg, res, fp, bv, hb, att, ca, co, cn)) : wpX_step post (W, S, R, O, mem, ops, oa, ob, len, st, pc, reg, res, fp, bv, hb, att, ca, co, cn) (nI c) := by
  refine ke_Xst0 hc (fun _ => ?_) (fun _ => ?_)
  · exact ⟨ke_i4 hc, nm_r (e' := 3) (by rw [ke_k4 hc, hs]) (br_f (by decide) (br_f (by decide) (br_f (by decide) (br_f (by decide) (br_t rfl (br_f hO hp))))))⟩
  · exact ⟨ke_i4 hc, nm_r (e' := 3) (by rw [ke_k4 hc, hs]) (br_f (by decide) (br_f (by decide) (br_f (by decide) (br_f (by decide) (br_t rfl (br_f hO hp))))))⟩
theorem ke_T2e {post : Int32 → SX → Prop} (hc : c < 4) (hs : st c = 2) (hl : ¬ pc c < len c) (hp : post 6 (W, S, R, O, ke_mrg mem hb bv (c * 64) 64, ops, oa, ob, len, upd st c 0, pc, reg, ke_copy res reg (c * 4) 4, ke_fill fp (c * 17) 17, bv, ke_fill hb (c * 64) 64, att, ca, co, upd cn (c * 3 + 0) (cn (c * 3 + 0) + 1))) : wpX_step post (W, S, R, O, mem, ops, oa, ob, len, st, pc, reg, res, fp, bv, hb, att, ca, co, cn) (nI c) := by
  refine ke_Xst0 hc (fun h => absurd h hl) (fun _ => ?_)
  exact ⟨ke_i4 hc, nm_r (e' := 2) (by rw [ke_k4 hc, hs]) (br_f (by decide) (br_f (by decide) (br_f (by decide) (br_t rfl (br_f (by decide) (ke_Xct hc hp))))))⟩
theorem ke_T4e {post : Int32 → SX → Prop} (hc : c < 4) (hs : st c = 4) (hl : ¬ pc c < len c) (hp : post 7 (W, S, R, -1, mem, ops, oa, ob, len, upd st c 0, pc, reg, ke_copy res reg (c * 4) 4, fp, bv, hb, att, ca, co, upd cn (c * 3 + 1) (cn (c * 3 + 1) + 1))) : wpX_step post (W, S, R, O, mem, ops, oa, ob, len, st, pc, reg, res, fp, bv, hb, att, ca, co, cn) (nI c) := by
  refine ke_Xst0 hc (fun h => absurd h hl) (fun _ => ?_)
  exact ⟨ke_i4 hc, nm_r (e' := 4) (by rw [ke_k4 hc, hs]) (br_f (by decide) (br_f (by decide) (br_f (by decide) (br_f (by decide) (br_f (by decide) (br_t rfl (br_f (by decide) (ke_Xrl hc hp))))))))⟩
theorem ke_T27 {post : Int32 → SX → Prop} {p q i L : Nat} {b : Int32} (hc : c < 4) (ho : ops (c * 16 + i) = nI p) (eq : oa (c * 16 + i) = nI q) (eb : ob (c * 16 + i) = b) (hi : pc c = nI i) (hL : len c = nI L) (hL16 : L ≤ 16) (hiL : i < L) (hok : ke_Ok (nI p) (nI q) b) (hp9 : p < 9) (hq4 : q < 4) (hs : st c = 2) (hpp : p = 7) (hp : post 5 (W, S, R, O, mem, ops, oa, ob, len, upd st c (ke_as R 3 (att c + 1)), upd pc c 0, ke_fill reg (c * 4) 4, res, ke_fill fp (c * 17) 17, bv, ke_fill hb (c * 64) 64, upd att c (att c + 1), upd ca c 3, upd co c b, upd cn (c * 3 + 2) (cn (c * 3 + 2) + 1))) : wpX_step post (W, S, R, O, mem, ops, oa, ob, len, st, pc, reg, res, fp, bv, hb, att, ca, co, cn) (nI c) := by
  have hlt : pc c < len c := (by rw [hi, hL]; exact nI_lt hiL (by omega))
  refine ke_Xst0 hc (fun _ => ?_) (fun h => absurd hlt h)
  exact ⟨ke_i4 hc, nm_r (e' := 2) (by rw [ke_k4 hc, hs]) (br_f (by decide) (br_f (by decide) (br_f (by decide) (br_t rfl (br_t rfl (ke_Xs7 hc ho eq eb hi hL hL16 hiL hok hp9 hq4 hpp hp))))))⟩
theorem ke_T2x {post : Int32 → SX → Prop} {p q i L : Nat} {b : Int32} (hc : c < 4) (ho : ops (c * 16 + i) = nI p) (eq : oa (c * 16 + i) = nI q) (eb : ob (c * 16 + i) = b) (hi : pc c = nI i) (hL : len c = nI L) (hL16 : L ≤ 16) (hiL : i < L) (hok : ke_Ok (nI p) (nI q) b) (hp9 : p < 9) (hq4 : q < 4) (hs : st c = 2) (hpp : ¬ (p = 1 ∨ p = 2 ∨ p = 5 ∨ p = 6 ∨ p = 7)) (hp : post 4 (W, S, R, O, mem, ops, oa, ob, len, st, upd pc c (nI (ke_xp p q b c L i reg)), ke_xr p q b c reg, res, fp, bv, hb, att, ca, co, cn)) : wpX_step post (W, S, R, O, mem, ops, oa, ob, len, st, pc, reg, res, fp, bv, hb, att, ca, co, cn) (nI c) := by
  have hlt : pc c < len c := (by rw [hi, hL]; exact nI_lt hiL (by omega))
  refine ke_Xst0 hc (fun _ => ?_) (fun h => absurd hlt h)
  exact ⟨ke_i4 hc, nm_r (e' := 2) (by rw [ke_k4 hc, hs]) (br_f (by decide) (br_f (by decide) (br_f (by decide) (br_t rfl (br_t rfl (ke_Xsx hc ho eq eb hi hL hL16 hiL hok hp9 hq4 hpp hp))))))⟩
theorem ke_T2ol {post : Int32 → SX → Prop} {d m l : Nat} {p q i L : Nat} {b : Int32} (hc : c < 4) (ho : ops (c * 16 + i) = nI p) (eq : oa (c * 16 + i) = nI q) (eb : ob (c * 16 + i) = b) (hi : pc c = nI i) (hL : len c = nI L) (hL16 : L ≤ 16) (hiL : i < L) (hok : ke_Ok (nI p) (nI q) b) (hp9 : p < 9) (hq4 : q < 4) (hs : st c = 2) (hpp : p = 1 ∨ p = 5) (hS : S = nI d) (h1 : 1 ≤ d) (h4 : d ≤ 4) (hm : m = ke_ad p b c reg) (hl : l = m / 4) (hov : ke_ov W d fp c l) (hp : post 5 (W, S, R, O, mem, ops, oa, ob, len, upd st c (ke_as R 2 (att c + 1)), upd pc c 0, ke_fill reg (c * 4) 4, res, ke_fill fp (c * 17) 17, bv, ke_fill hb (c * 64) 64, upd att c (att c + 1), upd ca c 2, upd co c 0, upd cn (c * 3 + 2) (cn (c * 3 + 2) + 1))) : wpX_step post (W, S, R, O, mem, ops, oa, ob, len, st, pc, reg, res, fp, bv, hb, att, ca, co, cn) (nI c) := by
  have hlt : pc c < len c := (by rw [hi, hL]; exact nI_lt hiL (by omega))
  refine ke_Xst0 hc (fun _ => ?_) (fun h => absurd hlt h)
  exact ⟨ke_i4 hc, nm_r (e' := 2) (by rw [ke_k4 hc, hs]) (br_f (by decide) (br_f (by decide) (br_f (by decide) (br_t rfl (br_t rfl (ke_Xsl hc ho eq eb hi hL hL16 hiL hok hp9 hq4 hpp (ke_X65o hc ho eq eb hi hL hL16 hiL hok hp9 hq4 (by omega) hS h1 h4 hm hl hov hp)))))))⟩
theorem ke_T2os {post : Int32 → SX → Prop} {d m l : Nat} {p q i L : Nat} {b : Int32} (hc : c < 4) (ho : ops (c * 16 + i) = nI p) (eq : oa (c * 16 + i) = nI q) (eb : ob (c * 16 + i) = b) (hi : pc c = nI i) (hL : len c = nI L) (hL16 : L ≤ 16) (hiL : i < L) (hok : ke_Ok (nI p) (nI q) b) (hp9 : p < 9) (hq4 : q < 4) (hs : st c = 2) (hpp : p = 2 ∨ p = 6) (hS : S = nI d) (h1 : 1 ≤ d) (h4 : d ≤ 4) (hm : m = ke_ad p b c reg) (hl : l = m / 4) (hov : ke_ov W d fp c l) (hp : post 5 (W, S, R, O, mem, ops, oa, ob, len, upd st c (ke_as R 2 (att c + 1)), upd pc c 0, ke_fill reg (c * 4) 4, res, ke_fill fp (c * 17) 17, bv, ke_fill hb (c * 64) 64, upd att c (att c + 1), upd ca c 2, upd co c 0, upd cn (c * 3 + 2) (cn (c * 3 + 2) + 1))) : wpX_step post (W, S, R, O, mem, ops, oa, ob, len, st, pc, reg, res, fp, bv, hb, att, ca, co, cn) (nI c) := by
  have hlt : pc c < len c := (by rw [hi, hL]; exact nI_lt hiL (by omega))
  refine ke_Xst0 hc (fun _ => ?_) (fun h => absurd hlt h)
  exact ⟨ke_i4 hc, nm_r (e' := 2) (by rw [ke_k4 hc, hs]) (br_f (by decide) (br_f (by decide) (br_f (by decide) (br_t rfl (br_t rfl (ke_Xss hc ho eq eb hi hL hL16 hiL hok hp9 hq4 hpp (ke_X65o hc ho eq eb hi hL hL16 hiL hok hp9 hq4 (by omega) hS h1 h4 hm hl hov hp)))))))⟩
theorem ke_T2l {post : Int32 → SX → Prop} {d m l : Nat} {p q i L : Nat} {b : Int32} (hc : c < 4) (ho : ops (c * 16 + i) = nI p) (eq : oa (c * 16 + i) = nI q) (eb : ob (c * 16 + i) = b) (hi : pc c = nI i) (hL : len c = nI L) (hL16 : L ≤ 16) (hiL : i < L) (hok : ke_Ok (nI p) (nI q) b) (hp9 : p < 9) (hq4 : q < 4) (hs : st c = 2) (hpp : p = 1 ∨ p = 5) (hS : S = nI d) (h1 : 1 ≤ d) (h4 : d ≤ 4) (hm : m = ke_ad p b c reg) (hl : l = m / 4) (hov : ¬ ke_ov W d fp c l) (hp : post 4 (W, S, R, O, mem, ops, oa, ob, len, (ke_con R l 2 c (st, pc, reg, fp, hb, att, ca, co, cn, yb) 4).1, upd (ke_con R l 2 c (st, pc, reg, fp, hb, att, ca, co, cn, yb) 4).2.1 c ((ke_con R l 2 c (st, pc, reg, fp, hb, att, ca, co, cn, yb) 4).2.1 c + 1), upd (ke_con R l 2 c (st, pc, reg, fp, hb, att, ca, co, cn, yb) 4).2.2.1 (c * 4 + q) (if (ke_con R l 2 c (st, pc, reg, fp, hb, att, ca, co, cn, yb) 4).2.2.2.2.1 (c * 64 + m) = 0 then mem m else bv (c * 64 + m)), res, upd (ke_con R l 2 c (st, pc, reg, fp, hb, att, ca, co, cn, yb) 4).2.2.2.1 (c * 17 + l) ((ke_con R l 2 c (st, pc, reg, fp, hb, att, ca, co, cn, yb) 4).2.2.2.1 (c * 17 + l) ||| 1), bv, (ke_con R l 2 c (st, pc, reg, fp, hb, att, ca, co, cn, yb) 4).2.2.2.2.1, (ke_con R l 2 c (st, pc, reg, fp, hb, att, ca, co, cn, yb) 4).2.2.2.2.2.1, (ke_con R l 2 c (st, pc, reg, fp, hb, att, ca, co, cn, yb) 4).2.2.2.2.2.2.1, (ke_con R l 2 c (st, pc, reg, fp, hb, att, ca, co, cn, yb) 4).2.2.2.2.2.2.2.1, (ke_con R l 2 c (st, pc, reg, fp, hb, att, ca, co, cn, yb) 4).2.2.2.2.2.2.2.2.1)) : wpX_step post (W, S, R, O, mem, ops, oa, ob, len, st, pc, reg, res, fp, bv, hb, att, ca, co, cn) (nI c) := by
  have hlt : pc c < len c := (by rw [hi, hL]; exact nI_lt hiL (by omega))
  refine ke_Xst0 hc (fun _ => ?_) (fun h => absurd hlt h)
  exact ⟨ke_i4 hc, nm_r (e' := 2) (by rw [ke_k4 hc, hs]) (br_f (by decide) (br_f (by decide) (br_f (by decide) (br_t rfl (br_t rfl (ke_Xsl hc ho eq eb hi hL hL16 hiL hok hp9 hq4 hpp (ke_X65l hc ho eq eb hi hL hL16 hiL hok hp9 hq4 hpp hS h1 h4 hm hl hov hp)))))))⟩
theorem ke_T2s {post : Int32 → SX → Prop} {d m l : Nat} {p q i L : Nat} {b : Int32} (hc : c < 4) (ho : ops (c * 16 + i) = nI p) (eq : oa (c * 16 + i) = nI q) (eb : ob (c * 16 + i) = b) (hi : pc c = nI i) (hL : len c = nI L) (hL16 : L ≤ 16) (hiL : i < L) (hok : ke_Ok (nI p) (nI q) b) (hp9 : p < 9) (hq4 : q < 4) (hs : st c = 2) (hpp : p = 2 ∨ p = 6) (hS : S = nI d) (h1 : 1 ≤ d) (h4 : d ≤ 4) (hm : m = ke_ad p b c reg) (hl : l = m / 4) (hov : ¬ ke_ov W d fp c l) (hp : post 4 (W, S, R, O, mem, ops, oa, ob, len, (ke_con R l 3 c (st, pc, reg, fp, hb, att, ca, co, cn, yb) 4).1, upd (ke_con R l 3 c (st, pc, reg, fp, hb, att, ca, co, cn, yb) 4).2.1 c ((ke_con R l 3 c (st, pc, reg, fp, hb, att, ca, co, cn, yb) 4).2.1 c + 1), (ke_con R l 3 c (st, pc, reg, fp, hb, att, ca, co, cn, yb) 4).2.2.1, res, upd (ke_con R l 3 c (st, pc, reg, fp, hb, att, ca, co, cn, yb) 4).2.2.2.1 (c * 17 + l) ((ke_con R l 3 c (st, pc, reg, fp, hb, att, ca, co, cn, yb) 4).2.2.2.1 (c * 17 + l) ||| 2), upd bv (c * 64 + m) ((ke_con R l 3 c (st, pc, reg, fp, hb, att, ca, co, cn, yb) 4).2.2.1 (c * 4 + q)), upd (ke_con R l 3 c (st, pc, reg, fp, hb, att, ca, co, cn, yb) 4).2.2.2.2.1 (c * 64 + m) 1, (ke_con R l 3 c (st, pc, reg, fp, hb, att, ca, co, cn, yb) 4).2.2.2.2.2.1, (ke_con R l 3 c (st, pc, reg, fp, hb, att, ca, co, cn, yb) 4).2.2.2.2.2.2.1, (ke_con R l 3 c (st, pc, reg, fp, hb, att, ca, co, cn, yb) 4).2.2.2.2.2.2.2.1, (ke_con R l 3 c (st, pc, reg, fp, hb, att, ca, co, cn, yb) 4).2.2.2.2.2.2.2.2.1)) : wpX_step post (W, S, R, O, mem, ops, oa, ob, len, st, pc, reg, res, fp, bv, hb, att, ca, co, cn) (nI c) := by
  have hlt : pc c < len c := (by rw [hi, hL]; exact nI_lt hiL (by omega))
  refine ke_Xst0 hc (fun _ => ?_) (fun h => absurd hlt h)
  exact ⟨ke_i4 hc, nm_r (e' := 2) (by rw [ke_k4 hc, hs]) (br_f (by decide) (br_f (by decide) (br_f (by decide) (br_t rfl (br_t rfl (ke_Xss hc ho eq eb hi hL hL16 hiL hok hp9 hq4 hpp (ke_X65s hc ho eq eb hi hL hL16 hiL hok hp9 hq4 hpp hS h1 h4 hm hl hov hp)))))))⟩
theorem ke_T4x {post : Int32 → SX → Prop} {p q i L : Nat} {b : Int32} (hc : c < 4) (ho : ops (c * 16 + i) = nI p) (eq : oa (c * 16 + i) = nI q) (eb : ob (c * 16 + i) = b) (hi : pc c = nI i) (hL : len c = nI L) (hL16 : L ≤ 16) (hiL : i < L) (hok : ke_Ok (nI p) (nI q) b) (hp9 : p < 9) (hq4 : q < 4) (hs : st c = 4) (hpp : ¬ (p = 1 ∨ p = 2 ∨ p = 5 ∨ p = 6)) (hp : post 4 (W, S, R, O, mem, ops, oa, ob, len, st, upd pc c (nI (ke_xp p q b c L i reg)), ke_xr p q b c reg, res, fp, bv, hb, att, ca, co, cn)) : wpX_step post (W, S, R, O, mem, ops, oa, ob, len, st, pc, reg, res, fp, bv, hb, att, ca, co, cn) (nI c) := by
  have hlt : pc c < len c := (by rw [hi, hL]; exact nI_lt hiL (by omega))
  refine ke_Xst0 hc (fun _ => ?_) (fun h => absurd hlt h)
  exact ⟨ke_i4 hc, nm_r (e' := 4) (by rw [ke_k4 hc, hs]) (br_f (by decide) (br_f (by decide) (br_f (by decide) (br_f (by decide) (br_f (by decide) (br_t rfl (br_t rfl (ke_Xmx hc ho eq eb hi hL hL16 hiL hok hp9 hq4 hpp hp))))))))⟩
theorem ke_T4l {post : Int32 → SX → Prop} {p q i L : Nat} {b : Int32} (hc : c < 4) (ho : ops (c * 16 + i) = nI p) (eq : oa (c * 16 + i) = nI q) (eb : ob (c * 16 + i) = b) (hi : pc c = nI i) (hL : len c = nI L) (hL16 : L ≤ 16) (hiL : i < L) (hok : ke_Ok (nI p) (nI q) b) (hp9 : p < 9) (hq4 : q < 4) (hs : st c = 4) (hpp : p = 1 ∨ p = 5) (hp : post 4 (W, S, R, O, mem, ops, oa, ob, len, st, upd pc c (pc c + 1), upd reg (c * 4 + q) (mem (ke_ad p b c reg)), res, fp, bv, hb, att, ca, co, cn)) : wpX_step post (W, S, R, O, mem, ops, oa, ob, len, st, pc, reg, res, fp, bv, hb, att, ca, co, cn) (nI c) := by
  have hlt : pc c < len c := (by rw [hi, hL]; exact nI_lt hiL (by omega))
  refine ke_Xst0 hc (fun _ => ?_) (fun h => absurd hlt h)
  exact ⟨ke_i4 hc, nm_r (e' := 4) (by rw [ke_k4 hc, hs]) (br_f (by decide) (br_f (by decide) (br_f (by decide) (br_f (by decide) (br_f (by decide) (br_t rfl (br_t rfl (ke_Xml hc ho eq eb hi hL hL16 hiL hok hp9 hq4 hpp hp))))))))⟩
theorem ke_T4s {post : Int32 → SX → Prop} {p q i L : Nat} {b : Int32} (hc : c < 4) (ho : ops (c * 16 + i) = nI p) (eq : oa (c * 16 + i) = nI q) (eb : ob (c * 16 + i) = b) (hi : pc c = nI i) (hL : len c = nI L) (hL16 : L ≤ 16) (hiL : i < L) (hok : ke_Ok (nI p) (nI q) b) (hp9 : p < 9) (hq4 : q < 4) (hs : st c = 4) (hpp : p = 2 ∨ p = 6) (hp : post 4 (W, S, R, O, upd mem (ke_ad p b c reg) (reg (c * 4 + q)), ops, oa, ob, len, st, upd pc c (pc c + 1), reg, res, fp, bv, hb, att, ca, co, cn)) : wpX_step post (W, S, R, O, mem, ops, oa, ob, len, st, pc, reg, res, fp, bv, hb, att, ca, co, cn) (nI c) := by
  have hlt : pc c < len c := (by rw [hi, hL]; exact nI_lt hiL (by omega))
  refine ke_Xst0 hc (fun _ => ?_) (fun h => absurd hlt h)
  exact ⟨ke_i4 hc, nm_r (e' := 4) (by rw [ke_k4 hc, hs]) (br_f (by decide) (br_f (by decide) (br_f (by decide) (br_f (by decide) (br_f (by decide) (br_t rfl (br_t rfl (ke_Xms hc ho eq eb hi hL hL16 hiL hok hp9 hq4 hpp hp))))))))⟩
end
end
section
section
variable {W S R O : Int32} {mem ops oa ob len st pc reg res fp bv yb hb att ca co cn : Nat → Int32} {c : Nat}
theorem ke_Yrs_l {post : SY → Prop} (hc : c < 4) (hp : post (W, S, R, O, mem, ops, oa, ob, len, st, pc, ke_fill reg (c * 4) 4, fp, yb, hb, res, att, ca, co, cn)) : ∀ d i, i + d = 4 → wY_clearRegs_2 post (nI c) W S R O (d + 1) (nI i) mem ops oa ob len st pc (ke_fill reg (c * 4) i) fp yb hb res att ca co cn := by
  intro d
  induction d with
  | zero =>
    intro i hi
    have e : i = 4 := by omega
    subst e
    exact br_t (nI_le (Nat.le_refl 4) (by decide)) hp
  | succ d ih =>
    intro i hi
    refine br_f (nI_ge (b := 4) (by omega) (by decide)) ⟨ke_v4 hc (by omega), nm_r (e' := ke_fill reg (c * 4) (i + 1)) ?_ (nm_r (nI_1 i) ?_)⟩
    · rw [ke_c4 hc (by omega)]; rfl
    · exact ih (i + 1) (by omega)
theorem ke_Yrs {post : SY → Prop} (hc : c < 4) (hp : post (W, S, R, O, mem, ops, oa, ob, len, st, pc, ke_fill reg (c * 4) 4, fp, yb, hb, res, att, ca, co, cn)) : wpY_clearRegs post (W, S, R, O, mem, ops, oa, ob, len, st, pc, reg, fp, yb, hb, res, att, ca, co, cn) (nI c) := by
  refine ⟨5, ?_⟩
  exact ke_Yrs_l hc hp 4 0 rfl
theorem ke_Yd28 {post : SY → Prop} (hc : c < 4) (hp : post (W, S, R, O, mem, ops, oa, ob, len, st, pc, reg, fp, ke_fill yb (c * 64) 64, ke_fill hb (c * 64) 64, res, att, ca, co, cn)) : ∀ d i, i + d = 64 → wY_clearSpec_28 post (nI c) W S R O (d + 1) (nI i) mem ops oa ob len st pc reg fp (ke_fill yb (c * 64) i) (ke_fill hb (c * 64) i) res att ca co cn := by
  intro d
  induction d with
  | zero =>
    intro i hi
    have e : i = 64 := by omega
    subst e
    exact br_t (nI_le (Nat.le_refl 64) (by decide)) hp
  | succ d ih =>
    intro i hi
    refine br_f (nI_ge (b := 64) (by omega) (by decide)) ⟨ke_v64 hc (by omega), nm_r (e' := ke_fill hb (c * 64) (i + 1)) ?_ ⟨ke_v64 hc (by omega), nm_r (e' := ke_fill yb (c * 64) (i + 1)) ?_ (nm_r (nI_1 i) ?_)⟩⟩
    · rw [ke_c64 hc (by omega), ke_b_0]; rfl
    · rw [ke_c64 hc (by omega)]; rfl
    · exact ih (i + 1) (by omega)
theorem ke_Yd2 {post : SY → Prop} (hc : c < 4) (hp : post (W, S, R, O, mem, ops, oa, ob, len, st, pc, reg, ke_fill fp (c * 17) 17, ke_fill yb (c * 64) 64, ke_fill hb (c * 64) 64, res, att, ca, co, cn)) : ∀ d i, i + d = 17 → wY_clearSpec_2 post (nI c) W S R O (d + 1) (nI i) mem ops oa ob len st pc reg (ke_fill fp (c * 17) i) yb hb res att ca co cn := by
  intro d
  induction d with
  | zero =>
    intro i hi
    have e : i = 17 := by omega
    subst e
    refine br_t (nI_le (Nat.le_refl 17) (by decide)) ⟨65, ?_⟩
    exact ke_Yd28 hc hp 64 0 rfl
  | succ d ih =>
    intro i hi
    refine br_f (nI_ge (b := 17) (by omega) (by decide)) ⟨ke_v17 hc (by omega), nm_r (e' := ke_fill fp (c * 17) (i + 1)) ?_ (nm_r (nI_1 i) ?_)⟩
    · rw [ke_c17 hc (by omega)]; rfl
    · exact ih (i + 1) (by omega)
theorem ke_Ydr {post : SY → Prop} (hc : c < 4) (hp : post (W, S, R, O, mem, ops, oa, ob, len, st, pc, reg, ke_fill fp (c * 17) 17, ke_fill yb (c * 64) 64, ke_fill hb (c * 64) 64, res, att, ca, co, cn)) : wpY_clearSpec post (W, S, R, O, mem, ops, oa, ob, len, st, pc, reg, fp, yb, hb, res, att, ca, co, cn) (nI c) := by
  refine ⟨18, ?_⟩
  exact ke_Yd2 hc hp 17 0 rfl
theorem ke_Y75 {post : SY → Prop} {k z : Int32} (hc : c < 4) (hp : post (W, S, R, O, mem, ops, oa, ob, len, upd st c (ke_as R k (att c)), pc, reg, fp, yb, hb, res, att, ca, upd co c z, cn)) : wY_abort_75 post (nI c) k z (nI c) W S R O mem ops oa ob len st pc reg fp yb hb res att ca co cn := by
  refine ⟨ke_i4 hc, nm_r (e' := upd co c z) (by rw [ke_k4 hc]) ?_⟩
  by_cases h2 : k = 2
  · have e : ke_as R k (att c) = 3 := if_pos (Or.inl h2)
    rw [e] at hp
    exact br_t h2 ⟨ke_i4 hc, nm_r (e' := upd st c 3) (by rw [ke_k4 hc]) hp⟩
  · by_cases h3 : k = 3
    · have e : ke_as R k (att c) = 3 := if_pos (Or.inr (Or.inl h3))
      rw [e] at hp
      exact br_f h2 (br_t h3 ⟨ke_i4 hc, nm_r (e' := upd st c 3) (by rw [ke_k4 hc]) hp⟩)
    · refine br_f h2 (br_f h3 ⟨ke_i4 hc, ?_⟩)
      by_cases h : att c ≤ R
      · have e : ke_as R k (att c) = 1 := if_neg (by intro x; rcases x with x | x | x; exact h2 x; exact h3 x; exact x h)
        rw [e] at hp
        exact br_t (by rw [ke_k4 hc]; exact h) ⟨ke_i4 hc, nm_r (e' := upd st c 1) (by rw [ke_k4 hc]) hp⟩
      · have e : ke_as R k (att c) = 3 := if_pos (Or.inr (Or.inr h))
        rw [e] at hp
        exact br_f (by rw [ke_k4 hc]; exact h) ⟨ke_i4 hc, nm_r (e' := upd st c 3) (by rw [ke_k4 hc]) hp⟩
theorem ke_Yab {post : SY → Prop} {k z : Int32} (hc : c < 4) (hk : ¬ k = 3) (hp : post (W, S, R, O, mem, ops, oa, ob, len, upd st c (ke_as R k (att c + 1)), upd pc c 0, ke_fill reg (c * 4) 4, ke_fill fp (c * 17) 17, ke_fill yb (c * 64) 64, ke_fill hb (c * 64) 64, res, upd att c (att c + 1), upd ca c k, upd co c 0, upd cn (c * 3 + 2) (cn (c * 3 + 2) + 1))) : wpY_abort post (W, S, R, O, mem, ops, oa, ob, len, st, pc, reg, fp, yb, hb, res, att, ca, co, cn) (nI c) k z := by
  unfold wpY_abort
  refine ke_Ydr hc ?_
  refine ke_Yrs hc ?_
  refine ⟨ke_i4 hc, nm_r (e' := upd pc c 0) (by rw [ke_k4 hc]) ?_⟩
  refine ⟨ke_i4 hc, ke_i4 hc, nm_r (e' := upd att c (att c + 1)) (by rw [ke_k4 hc]) ?_⟩
  refine ⟨ke_v3 (i := 2) hc (by decide), ke_v3 (i := 2) hc (by decide), nm_r (e' := upd cn (c * 3 + 2) (cn (c * 3 + 2) + 1)) (by rw [ke_c3_2 hc]) ?_⟩
  refine ⟨ke_i4 hc, nm_r (e' := upd ca c k) (by rw [ke_k4 hc]) ?_⟩
  have e : ke_as R k (att c + 1) = ke_as R k (upd att c (att c + 1) c) := by rw [pk_us]
  rw [e] at hp
  exact br_f hk (ke_Y75 hc hp)
theorem ke_Yab3 {post : SY → Prop} {k z : Int32} (hc : c < 4) (hp : post (W, S, R, O, mem, ops, oa, ob, len, upd st c (ke_as R 3 (att c + 1)), upd pc c 0, ke_fill reg (c * 4) 4, ke_fill fp (c * 17) 17, ke_fill yb (c * 64) 64, ke_fill hb (c * 64) 64, res, upd att c (att c + 1), upd ca c 3, upd co c z, upd cn (c * 3 + 2) (cn (c * 3 + 2) + 1))) : wpY_abort post (W, S, R, O, mem, ops, oa, ob, len, st, pc, reg, fp, yb, hb, res, att, ca, co, cn) (nI c) 3 z := by
  unfold wpY_abort
  refine ke_Ydr hc ?_
  refine ke_Yrs hc ?_
  refine ⟨ke_i4 hc, nm_r (e' := upd pc c 0) (by rw [ke_k4 hc]) ?_⟩
  refine ⟨ke_i4 hc, ke_i4 hc, nm_r (e' := upd att c (att c + 1)) (by rw [ke_k4 hc]) ?_⟩
  refine ⟨ke_v3 (i := 2) hc (by decide), ke_v3 (i := 2) hc (by decide), nm_r (e' := upd cn (c * 3 + 2) (cn (c * 3 + 2) + 1)) (by rw [ke_c3_2 hc]) ?_⟩
  refine ⟨ke_i4 hc, nm_r (e' := upd ca c 3) (by rw [ke_k4 hc]) ?_⟩
  have e : ke_as R 3 (att c + 1) = ke_as R 3 (upd att c (att c + 1) c) := by rw [pk_us]
  rw [e] at hp
  exact br_t rfl (ke_Y75 hc hp)
theorem ke_Yse {post : Int32 → Prop} {d l : Nat} (hS : S = nI d) (h1 : 1 ≤ d) (h4 : d ≤ 4) (hl : l < 17) (hp : post (nI (ke_set d l))) : wpY_setOf post (W, S, R, O, mem, ops, oa, ob, len, st, pc, reg, fp, yb, hb, res, att, ca, co, cn) (nI l) := by
  by_cases e : l = 16
  · subst e
    exact br_t rfl hp
  · have e2 : ke_set d l = l % d := if_neg e
    rw [e2] at hp
    subst hS
    refine br_f (fun z => e ((nI_eq (by omega) (by decide)).mp z)) ⟨nI_ne0 (by omega) (by omega), ?_⟩
    rw [pk_rem (by omega) (by omega) (by omega)]
    exact hp
theorem ke_a3 {m : Nat} (h : m < 4) : nI m &&& 3 = nI m := by rw [pk_andN (by omega) 2 (by decide), Nat.mod_eq_of_lt h]
theorem ke_a15 {m : Nat} (h : m < 16) : nI m &&& 15 = nI m := by rw [pk_andN (by omega) 4 (by decide), Nat.mod_eq_of_lt h]
theorem ke_a63 {m : Nat} (h : m < 64) : nI m &&& 63 = nI m := by rw [pk_andN (by omega) 6 (by decide), Nat.mod_eq_of_lt h]
theorem ke_Y130 {post : SY → Prop} {i : Nat} (hc : c < 4) (hi : pc c = nI i) (hp : post (W, S, R, O, mem, ops, oa, ob, len, st, upd pc c (nI (i + 1)), reg, fp, yb, hb, res, att, ca, co, cn)) : wY_simple_130 post (nI c) W S R O mem ops oa ob len st pc reg fp yb hb res att ca co cn :=
  ⟨ke_i4 hc, ke_i4 hc, nm_r (e' := upd pc c (nI (i + 1))) (by rw [ke_k4 hc, hi, nI_1]) hp⟩
theorem ke_Ysi {post : SY → Prop} {p q i L : Nat} {b : Int32} (hc : c < 4) (hi : pc c = nI i) (hL : len c = nI L) (hL16 : L ≤ 16) (hiL : i < L) (hok : ke_Ok (nI p) (nI q) b) (hpp : p = 0 ∨ p = 3 ∨ p = 4 ∨ p = 8) (hq4 : q < 4) (hp : post (W, S, R, O, mem, ops, oa, ob, len, st, upd pc c (nI (ke_xp p q b c L i reg)), ke_xr p q b c reg, fp, yb, hb, res, att, ca, co, cn)) : wpY_simple post (W, S, R, O, mem, ops, oa, ob, len, st, pc, reg, fp, yb, hb, res, att, ca, co, cn) (nI c) (nI p) (nI q) b := by
  refine nm_r (e' := nI c * 4 + nI q) rfl ?_
  have hx : p ≠ 8 → ke_xp p q b c L i reg = i + 1 := by
    intro h
    unfold ke_xp
    rw [if_neg (fun z => h z.1)]
  have hl : len (nI c).toNatClampNeg = nI L := by rw [ke_k4 hc]; exact hL
  rcases hpp with rfl | rfl | rfl | rfl
  · rw [hx (by decide)] at hp
    exact br_t rfl ⟨ke_v4 hc hq4, nm_r (e' := upd reg (c * 4 + q) b) (by rw [ke_c4 hc hq4]) (br_f (by decide) (br_f (by decide) (br_f (by decide) (ke_Y130 hc hi hp))))⟩
  · rw [hx (by decide)] at hp
    obtain ⟨m, hm, em⟩ := ke_Ok3 hok (by omega) (by omega)
    subst em
    exact br_f (by decide) (br_t rfl ⟨ke_v4 hc hq4, by rw [ke_a3 hm]; exact ke_v4 hc hm, ke_v4 hc hq4, nm_r (e' := upd reg (c * 4 + q) (reg (c * 4 + q) + reg (c * 4 + (nI m).toNatClampNeg))) (by rw [ke_a3 hm, ke_c4 hc hq4, ke_c4 hc hm, nI_clamp (show m < 2 ^ 31 by omega)]) (br_f (by decide) (br_f (by decide) (ke_Y130 hc hi hp)))⟩)
  · rw [hx (by decide)] at hp
    exact br_f (by decide) (br_f (by decide) (br_t rfl ⟨ke_v4 hc hq4, ke_v4 hc hq4, nm_r (e' := upd reg (c * 4 + q) (reg (c * 4 + q) + b)) (by rw [ke_c4 hc hq4]) (br_f (by decide) (ke_Y130 hc hi hp))⟩))
  · obtain ⟨m, hm1, hm, em⟩ := ke_Ok8 hok (by omega) rfl
    subst em
    by_cases z : reg (c * 4 + q) = 0
    · have hv : ke_xp 8 q (nI m) c L i reg = i + 1 := by
        unfold ke_xp
        rw [if_neg (fun y => y.2 z)]
      rw [hv] at hp
      exact br_f (by decide) (br_f (by decide) (br_f (by decide) (br_t rfl ⟨ke_v4 hc hq4, br_t (by rw [ke_c4 hc hq4]; exact z) (ke_Y130 hc hi hp)⟩)))
    · have hv : ke_xp 8 q (nI m) c L i reg = if L < i + m then L else i + m := by
        unfold ke_xp
        rw [if_pos ⟨rfl, z⟩, nI_clamp (show m < 2 ^ 31 by omega)]
      rw [hv] at hp
      refine br_f (by decide) (br_f (by decide) (br_f (by decide) (br_t rfl ⟨ke_v4 hc hq4, br_f (by rw [ke_c4 hc hq4]; exact z) ⟨ke_i4 hc, nm_r (e' := nI (i + m)) (by rw [ke_k4 hc, hi, nI_add]) ⟨ke_i4 hc, ?_⟩⟩⟩)))
      by_cases h : L < i + m
      · rw [if_pos h] at hp
        exact br_f (by rw [hl]; exact nI_ge h (by omega)) ⟨ke_i4 hc, nm_r (e' := nI L) hl ⟨ke_i4 hc, nm_r (e' := upd pc c (nI L)) (by rw [ke_k4 hc]) hp⟩⟩
      · rw [if_neg h] at hp
        exact br_t (by rw [hl]; exact nI_le (by omega) (by omega)) ⟨ke_i4 hc, nm_r (e' := upd pc c (nI (i + m))) (by rw [ke_k4 hc]) hp⟩
end
end
section
section
variable {W S R O : Int32} {mem ops oa ob len st pc reg res fp bv yb hb att ca co cn : Nat → Int32} {c : Nat}
theorem ke_Y97l {post : Int32 → SY → Prop} {t : ke_T} {l m q : Nat} (hc : c < 4) (hl : l < 17) (hm64 : m < 64) (hq4 : q < 4) (hp : post 4 (W, S, R, O, mem, ops, oa, ob, len, (ke_con R l 2 c t 4).1, upd (ke_con R l 2 c t 4).2.1 c ((ke_con R l 2 c t 4).2.1 c + 1), upd (ke_con R l 2 c t 4).2.2.1 (c * 4 + q) (if (ke_con R l 2 c t 4).2.2.2.2.1 (c * 64 + m) = 0 then mem m else (ke_con R l 2 c t 4).2.2.2.2.2.2.2.2.2 (c * 64 + m)), upd (ke_con R l 2 c t 4).2.2.2.1 (c * 17 + l) ((ke_con R l 2 c t 4).2.2.2.1 (c * 17 + l) ||| 1), (ke_con R l 2 c t 4).2.2.2.2.2.2.2.2.2, (ke_con R l 2 c t 4).2.2.2.2.1, res, (ke_con R l 2 c t 4).2.2.2.2.2.1, (ke_con R l 2 c t 4).2.2.2.2.2.2.1, (ke_con R l 2 c t 4).2.2.2.2.2.2.2.1, (ke_con R l 2 c t 4).2.2.2.2.2.2.2.2.1)) : ∀ d i, i + d = 4 → wY_access_97 post (nI c) (nI m) 0 (nI q) (nI l) (d + 1) (nI i) W S R O mem ops oa ob len ((ke_con R l 2 c t i).1) ((ke_con R l 2 c t i).2.1) ((ke_con R l 2 c t i).2.2.1) ((ke_con R l 2 c t i).2.2.2.1) ((ke_con R l 2 c t i).2.2.2.2.2.2.2.2.2) ((ke_con R l 2 c t i).2.2.2.2.1) res ((ke_con R l 2 c t i).2.2.2.2.2.1) ((ke_con R l 2 c t i).2.2.2.2.2.2.1) ((ke_con R l 2 c t i).2.2.2.2.2.2.2.1) ((ke_con R l 2 c t i).2.2.2.2.2.2.2.2.1) := by
  have hm6 : (nI m).toNatClampNeg = m := nI_clamp (by omega)
  intro d
  induction d with
  | zero =>
    intro i hi
    have e : i = 4 := by omega
    subst e
    generalize ke_con R l 2 c t 4 = u at hp ⊢
    refine br_t (nI_le (Nat.le_refl 4) (by decide)) ⟨ke_v17 hc hl, br_t rfl ⟨ke_v17 hc hl, nm_r (e' := upd u.2.2.2.1 (c * 17 + l) (u.2.2.2.1 (c * 17 + l) ||| 1)) (by rw [ke_c17 hc hl]) (br_t rfl ⟨ke_v64 hc hm64, ?_⟩)⟩⟩
    by_cases z : u.2.2.2.2.1 (c * 64 + m) = 0
    · rw [if_pos z] at hp
      refine br_t (by rw [ke_c64 hc hm64]; exact z) ⟨vp_in_nI hm64 (by omega), ?_⟩
      rw [hm6]
      exact ⟨ke_v4 hc hq4, nm_r (e' := upd u.2.2.1 (c * 4 + q) (mem m)) (by rw [ke_c4 hc hq4]) ⟨ke_i4 hc, ke_i4 hc, nm_r (e' := upd u.2.1 c (u.2.1 c + 1)) (by rw [ke_k4 hc]) hp⟩⟩
    · rw [if_neg z] at hp
      refine br_f (by rw [ke_c64 hc hm64]; exact z) ⟨ke_v64 hc hm64, ?_⟩
      rw [ke_c64 hc hm64]
      exact ⟨ke_v4 hc hq4, nm_r (e' := upd u.2.2.1 (c * 4 + q) (u.2.2.2.2.2.2.2.2.2 (c * 64 + m))) (by rw [ke_c4 hc hq4]) ⟨ke_i4 hc, ke_i4 hc, nm_r (e' := upd u.2.1 c (u.2.1 c + 1)) (by rw [ke_k4 hc]) hp⟩⟩
  | succ d ih =>
    intro i hi
    have hi4 : i < 4 := by omega
    have h1 := ih (i + 1) (by omega)
    refine br_f (nI_ge (b := 4) (by omega) (by decide)) ?_
    by_cases e1 : i = c
    · have e : ke_con R l 2 c t (i + 1) = ke_con R l 2 c t i := if_neg (fun y => y.1 e1)
      rw [e] at h1
      exact br_t (by rw [e1]) (nm_r (nI_1 i) h1)
    · refine br_f (fun z => e1 ((nI_eq (by omega) (by omega)).mp z)) ⟨ke_i4 hi4, ?_⟩
      by_cases z : (ke_con R l 2 c t i).1 i = 2
      · refine br_t (by rw [ke_k4 hi4]; exact z) ⟨ke_v17 hi4 hl, nm_r (e' := (ke_con R l 2 c t i).2.2.2.1 (i * 17 + l)) (by rw [ke_c17 hi4 hl]) ?_⟩
        by_cases y : (ke_con R l 2 c t i).2.2.2.1 (i * 17 + l) &&& 2 = 0
        · have e : ke_con R l 2 c t (i + 1) = ke_con R l 2 c t i := if_neg (fun x => x.2.2 y)
          rw [e] at h1
          exact br_t rfl (br_t rfl (br_t y (nm_r (nI_1 i) h1)))
        · have e : ke_con R l 2 c t (i + 1) = ke_ab R i 1 0 (ke_con R l 2 c t i) := if_pos ⟨e1, z, y⟩
          rw [e] at h1
          refine br_t rfl (br_t rfl (br_f y ?_))
          unfold wY_access_155
          refine ke_Yab hi4 (by decide) ?_
          exact nm_r (nI_1 i) h1
      · have e : ke_con R l 2 c t (i + 1) = ke_con R l 2 c t i := if_neg (fun x => z x.2.1)
        rw [e] at h1
        exact br_f (by rw [ke_k4 hi4]; exact z) (nm_r (nI_1 i) h1)
theorem ke_and3 {x : Int32} {n : Nat} (hn : n ≤ 3) (hx : x = nI n) : x &&& 3 = 0 ↔ x = 0 := by
  have : n = 0 ∨ n = 1 ∨ n = 2 ∨ n = 3 := by omega
  rcases this with e | e | e | e <;> subst e <;> subst hx <;> decide
theorem ke_Y97s {post : Int32 → SY → Prop} {t : ke_T} {l m q : Nat} (hc : c < 4) (hl : l < 17) (hm64 : m < 64) (hq4 : q < 4) {bx : ke_F} (hI : ke_I bx t) (hp : post 4 (W, S, R, O, mem, ops, oa, ob, len, (ke_con R l 3 c t 4).1, upd (ke_con R l 3 c t 4).2.1 c ((ke_con R l 3 c t 4).2.1 c + 1), (ke_con R l 3 c t 4).2.2.1, upd (ke_con R l 3 c t 4).2.2.2.1 (c * 17 + l) ((ke_con R l 3 c t 4).2.2.2.1 (c * 17 + l) ||| 2), upd (ke_con R l 3 c t 4).2.2.2.2.2.2.2.2.2 (c * 64 + m) ((ke_con R l 3 c t 4).2.2.1 (c * 4 + q)), upd (ke_con R l 3 c t 4).2.2.2.2.1 (c * 64 + m) 1, res, (ke_con R l 3 c t 4).2.2.2.2.2.1, (ke_con R l 3 c t 4).2.2.2.2.2.2.1, (ke_con R l 3 c t 4).2.2.2.2.2.2.2.1, (ke_con R l 3 c t 4).2.2.2.2.2.2.2.2.1)) : ∀ d i, i + d = 4 → wY_access_97 post (nI c) (nI m) 1 (nI q) (nI l) (d + 1) (nI i) W S R O mem ops oa ob len ((ke_con R l 3 c t i).1) ((ke_con R l 3 c t i).2.1) ((ke_con R l 3 c t i).2.2.1) ((ke_con R l 3 c t i).2.2.2.1) ((ke_con R l 3 c t i).2.2.2.2.2.2.2.2.2) ((ke_con R l 3 c t i).2.2.2.2.1) res ((ke_con R l 3 c t i).2.2.2.2.2.1) ((ke_con R l 3 c t i).2.2.2.2.2.2.1) ((ke_con R l 3 c t i).2.2.2.2.2.2.2.1) ((ke_con R l 3 c t i).2.2.2.2.2.2.2.2.1) := by
  have hm6 : (nI m).toNatClampNeg = m := nI_clamp (by omega)
  intro d
  induction d with
  | zero =>
    intro i hi
    have e : i = 4 := by omega
    subst e
    generalize ke_con R l 3 c t 4 = u at hp ⊢
    refine br_t (nI_le (Nat.le_refl 4) (by decide)) ⟨ke_v17 hc hl, br_f (by decide) ⟨ke_v17 hc hl, nm_r (e' := upd u.2.2.2.1 (c * 17 + l) (u.2.2.2.1 (c * 17 + l) ||| 2)) (by rw [ke_c17 hc hl]) (br_f (by decide) ?_)⟩⟩
    refine ⟨ke_v4 hc hq4, ke_v64 hc hm64, nm_r (e' := upd u.2.2.2.2.2.2.2.2.2 (c * 64 + m) (u.2.2.1 (c * 4 + q))) (by rw [ke_c64 hc hm64, ke_c4 hc hq4]) ?_⟩
    refine ⟨ke_v64 hc hm64, nm_r (e' := upd u.2.2.2.2.1 (c * 64 + m) 1) (by rw [ke_c64 hc hm64, ke_b_1]) ?_⟩
    exact ⟨ke_i4 hc, ke_i4 hc, nm_r (e' := upd u.2.1 c (u.2.1 c + 1)) (by rw [ke_k4 hc]) hp⟩
  | succ d ih =>
    intro i hi
    have hi4 : i < 4 := by omega
    have h1 := ih (i + 1) (by omega)
    refine br_f (nI_ge (b := 4) (by omega) (by decide)) ?_
    by_cases e1 : i = c
    · have e : ke_con R l 3 c t (i + 1) = ke_con R l 3 c t i := if_neg (fun y => y.1 e1)
      rw [e] at h1
      exact br_t (by rw [e1]) (nm_r (nI_1 i) h1)
    · refine br_f (fun z => e1 ((nI_eq (by omega) (by omega)).mp z)) ⟨ke_i4 hi4, ?_⟩
      by_cases z : (ke_con R l 3 c t i).1 i = 2
      · refine br_t (by rw [ke_k4 hi4]; exact z) ⟨ke_v17 hi4 hl, nm_r (e' := (ke_con R l 3 c t i).2.2.2.1 (i * 17 + l)) (by rw [ke_c17 hi4 hl]) ?_⟩
        obtain ⟨n, hn, en⟩ := (ke_con_I hI R l 3 c i).2.2.1 (i * 17 + l)
        have h30 := ke_and3 hn en
        by_cases y : (ke_con R l 3 c t i).2.2.2.1 (i * 17 + l) = 0
        · have e : ke_con R l 3 c t (i + 1) = ke_con R l 3 c t i := if_neg (fun x => x.2.2 (h30.mpr y))
          rw [e] at h1
          exact br_f (by decide) (br_t y (br_f (by decide) (nm_r (nI_1 i) h1)))
        · have e : ke_con R l 3 c t (i + 1) = ke_ab R i 1 0 (ke_con R l 3 c t i) := if_pos ⟨e1, z, fun x => y (h30.mp x)⟩
          rw [e] at h1
          refine br_f (by decide) (br_f y ?_)
          unfold wY_access_155
          refine ke_Yab hi4 (by decide) ?_
          exact nm_r (nI_1 i) h1
      · have e : ke_con R l 3 c t (i + 1) = ke_con R l 3 c t i := if_neg (fun x => z x.2.1)
        rw [e] at h1
        exact br_f (by rw [ke_k4 hi4]; exact z) (nm_r (nI_1 i) h1)
theorem ke_Y34 {post : Int32 → SY → Prop} {d s l m q : Nat} {z : Int32} (hc : c < 4) (hS : S = nI d) (h1 : 1 ≤ d) (h4 : d ≤ 4) (hs : s < 4) (h0 : nI (ke_cnt fp d s (c * 17) 17) < W → ∃ n, wY_access_97 post (nI c) (nI m) z (nI q) (nI l) n 0 W S R O mem ops oa ob len st pc reg fp yb hb res att ca co cn) (hq : ¬ nI (ke_cnt fp d s (c * 17) 17) < W → post 5 (W, S, R, O, mem, ops, oa, ob, len, upd st c (ke_as R 2 (att c + 1)), upd pc c 0, ke_fill reg (c * 4) 4, ke_fill fp (c * 17) 17, ke_fill yb (c * 64) 64, ke_fill hb (c * 64) 64, res, upd att c (att c + 1), upd ca c 2, upd co c 0, upd cn (c * 3 + 2) (cn (c * 3 + 2) + 1))) : ∀ e i, i + e = 17 → wY_access_34 post (nI c) (nI m) z (nI q) (nI l) (nI s) W S R O mem ops oa ob len st pc reg fp yb hb res att ca co cn (e + 1) (nI (ke_cnt fp d s (c * 17) i)) (nI i) := by
  intro e
  induction e with
  | zero =>
    intro i hi
    have e : i = 17 := by omega
    subst e
    refine br_t (nI_le (Nat.le_refl 17) (by decide)) (br_c h0 (fun h => ?_))
    exact ke_Yab hc (by decide) (hq h)
  | succ e ih =>
    intro i hi
    have hh := ih (i + 1) (by omega)
    refine br_f (nI_ge (b := 17) (by omega) (by decide)) ⟨ke_v17 hc (by omega), ?_⟩
    have hsl : ke_set d i < 4 := Nat.lt_of_lt_of_le (ke_set_lt h1) h4
    by_cases y : fp (c * 17 + i) = 0
    · have e2 : ke_cnt fp d s (c * 17) (i + 1) = ke_cnt fp d s (c * 17) i := if_neg (fun x => x.1 y)
      rw [e2] at hh
      exact br_t (by rw [ke_c17 hc (by omega)]; exact y) (nm_r (nI_1 i) hh)
    · refine br_f (by rw [ke_c17 hc (by omega)]; exact y) (ke_Yse hS h1 h4 (by omega) ?_)
      by_cases e1 : ke_set d i = s
      · have e2 : ke_cnt fp d s (c * 17) (i + 1) = ke_cnt fp d s (c * 17) i + 1 := if_pos ⟨y, e1⟩
        rw [e2] at hh
        exact br_t (by rw [e1]) (nm_r (nI_1 _) (nm_r (nI_1 i) hh))
      · have e2 : ke_cnt fp d s (c * 17) (i + 1) = ke_cnt fp d s (c * 17) i := if_neg (fun x => e1 x.2)
        rw [e2] at hh
        exact br_f (fun x => e1 ((nI_eq (by omega) (by omega)).mp x)) (nm_r (nI_1 i) hh)
theorem ke_Yac {post : Int32 → SY → Prop} {d l m q : Nat} {z : Int32} (hc : c < 4) (hS : S = nI d) (h1 : 1 ≤ d) (h4 : d ≤ 4) (hm64 : m < 64) (hl : l = m / 4) (h0 : ¬ ke_ov W d fp c l → ∃ n, wY_access_97 post (nI c) (nI m) z (nI q) (nI l) n 0 W S R O mem ops oa ob len st pc reg fp yb hb res att ca co cn) (hq : ke_ov W d fp c l → post 5 (W, S, R, O, mem, ops, oa, ob, len, upd st c (ke_as R 2 (att c + 1)), upd pc c 0, ke_fill reg (c * 4) 4, ke_fill fp (c * 17) 17, ke_fill yb (c * 64) 64, ke_fill hb (c * 64) 64, res, upd att c (att c + 1), upd ca c 2, upd co c 0, upd cn (c * 3 + 2) (cn (c * 3 + 2) + 1))) : wpY_access post (W, S, R, O, mem, ops, oa, ob, len, st, pc, reg, fp, yb, hb, res, att, ca, co, cn) (nI c) (nI m) z (nI q) := by
  have hl16 : l < 17 := by omega
  have hsl : ke_set d l < 4 := Nat.lt_of_lt_of_le (ke_set_lt h1) h4
  refine ⟨ke_n4, nm_r (e' := nI l) (by rw [ke_d4 hm64, hl]) ?_⟩
  refine ke_Yse hS h1 h4 hl16 ?_
  refine ⟨ke_v17 hc hl16, ?_⟩
  by_cases y : fp (c * 17 + l) = 0
  · refine br_t (by rw [ke_c17 hc hl16]; exact y) ⟨18, ?_⟩
    exact ke_Y34 hc hS h1 h4 hsl (fun x => h0 (fun v => v.2 x)) (fun x => hq ⟨y, x⟩) 17 0 rfl
  · exact br_f (by rw [ke_c17 hc hl16]; exact y) (h0 (fun v => y v.1))
theorem ke_U0 {post : Int32 → SY → Prop} (hc : c < 4) (hs : st c = 0) (hp : post 0 (W, S, R, O, mem, ops, oa, ob, len, st, pc, reg, fp, yb, hb, res, att, ca, co, cn)) : wpY_step post (W, S, R, O, mem, ops, oa, ob, len, st, pc, reg, fp, yb, hb, res, att, ca, co, cn) (nI c) := by
  refine br_f (nI_pos (by omega)) (br_t (nI_le (b := 3) (by omega) (by decide)) ⟨ke_i4 hc, nm_r (e' := 0) (by rw [ke_k4 hc, hs]) ?_⟩)
  exact br_t rfl hp
theorem ke_U1 {post : Int32 → SY → Prop} (hc : c < 4) (hs : st c = 1) (hO : O = -1) (hp : post 2 (W, S, R, O, mem, ops, oa, ob, len, upd st c 2, upd pc c 0, ke_fill reg (c * 4) 4, upd (ke_fill fp (c * 17) 17) (c * 17 + 16) 1, ke_fill yb (c * 64) 64, ke_fill hb (c * 64) 64, res, att, ca, co, cn)) : wpY_step post (W, S, R, O, mem, ops, oa, ob, len, st, pc, reg, fp, yb, hb, res, att, ca, co, cn) (nI c) := by
  refine br_f (nI_pos (by omega)) (br_t (nI_le (b := 3) (by omega) (by decide)) ⟨ke_i4 hc, nm_r (e' := 1) (by rw [ke_k4 hc, hs]) ?_⟩)
  refine br_f (by decide) (br_t rfl (br_t hO ⟨ke_i4 hc, nm_r (e' := upd st c 2) (by rw [ke_k4 hc]) ⟨ke_i4 hc, nm_r (e' := upd pc c 0) (by rw [ke_k4 hc]) ?_⟩⟩))
  refine ke_Yrs hc ?_
  refine ke_Ydr hc ?_
  exact ⟨ke_v17 (i := 16) hc (by decide), nm_r (e' := upd (ke_fill fp (c * 17) 17) (c * 17 + 16) 1) (by rw [ke_c17_16 hc]) hp⟩
theorem ke_U1b {post : Int32 → SY → Prop} (hc : c < 4) (hs : st c = 1) (hO : ¬ O = -1) (hp : post 1 (W, S, R, O, mem, ops, oa, ob, len, st, pc, reg, fp, yb, hb, res, att, ca, co, cn)) : wpY_step post (W, S, R, O, mem, ops, oa, ob, len, st, pc, reg, fp, yb, hb, res, att, ca, co, cn) (nI c) := by
  refine br_f (nI_pos (by omega)) (br_t (nI_le (b := 3) (by omega) (by decide)) ⟨ke_i4 hc, nm_r (e' := 1) (by rw [ke_k4 hc, hs]) ?_⟩)
  exact br_f (by decide) (br_t rfl (br_f hO hp))
theorem ke_U3b {post : Int32 → SY → Prop} (hc : c < 4) (hs : st c = 3) (hO : ¬ O = -1) (hp : post 1 (W, S, R, O, mem, ops, oa, ob, len, st, pc, reg, fp, yb, hb, res, att, ca, co, cn)) : wpY_step post (W, S, R, O, mem, ops, oa, ob, len, st, pc, reg, fp, yb, hb, res, att, ca, co, cn) (nI c) := by
  refine br_f (nI_pos (by omega)) (br_t (nI_le (b := 3) (by omega) (by decide)) ⟨ke_i4 hc, nm_r (e' := 3) (by rw [ke_k4 hc, hs]) ?_⟩)
  exact br_f (by decide) (br_f (by decide) (br_t rfl (br_f hO hp)))
theorem ke_Yaq_l {post : Int32 → SY → Prop} {t : ke_T} (hc : c < 4) (h3 : t.1 c = 3) (hp : post 3 (W, S, R, O, mem, ops, oa, ob, len, upd (ke_acq R t 4).1 c 4, upd (ke_acq R t 4).2.1 c 0, ke_fill (ke_acq R t 4).2.2.1 (c * 4) 4, (ke_acq R t 4).2.2.2.1, (ke_acq R t 4).2.2.2.2.2.2.2.2.2, (ke_acq R t 4).2.2.2.2.1, res, (ke_acq R t 4).2.2.2.2.2.1, (ke_acq R t 4).2.2.2.2.2.2.1, (ke_acq R t 4).2.2.2.2.2.2.2.1, (ke_acq R t 4).2.2.2.2.2.2.2.2.1)) : ∀ d i, i + d = 4 → wY_step_100 post (nI c) (d + 1) (nI i) W S R O mem ops oa ob len ((ke_acq R t i).1) ((ke_acq R t i).2.1) ((ke_acq R t i).2.2.1) ((ke_acq R t i).2.2.2.1) ((ke_acq R t i).2.2.2.2.2.2.2.2.2) ((ke_acq R t i).2.2.2.2.1) res ((ke_acq R t i).2.2.2.2.2.1) ((ke_acq R t i).2.2.2.2.2.2.1) ((ke_acq R t i).2.2.2.2.2.2.2.1) ((ke_acq R t i).2.2.2.2.2.2.2.2.1) := by
  intro d
  induction d with
  | zero =>
    intro i hi
    have e : i = 4 := by omega
    subst e
    refine br_t (nI_le (Nat.le_refl 4) (by decide)) ⟨ke_i4 hc, nm_r (e' := upd (ke_acq R t 4).1 c 4) (by rw [ke_k4 hc]) ⟨ke_i4 hc, nm_r (e' := upd (ke_acq R t 4).2.1 c 0) (by rw [ke_k4 hc]) ?_⟩⟩
    exact ke_Yrs hc hp
  | succ d ih =>
    intro i hi
    have hi4 : i < 4 := by omega
    have h1 := ih (i + 1) (by omega)
    refine br_f (nI_ge (b := 4) (by omega) (by decide)) ?_
    by_cases e1 : i = c
    · have e : ke_acq R t (i + 1) = ke_acq R t i := if_neg (by rw [e1, ke_acq_st h3]; decide)
      rw [e] at h1
      exact br_t (by rw [e1]) (nm_r (nI_1 i) h1)
    · refine br_f (fun z => e1 ((nI_eq (by omega) (by omega)).mp z)) ⟨ke_i4 hi4, ?_⟩
      by_cases z : (ke_acq R t i).1 i = 2
      · have e : ke_acq R t (i + 1) = ke_ab R i 4 0 (ke_acq R t i) := if_pos z
        rw [e] at h1
        refine br_t (by rw [ke_k4 hi4]; exact z) (ke_Yab hi4 (by decide) ?_)
        exact nm_r (nI_1 i) h1
      · have e : ke_acq R t (i + 1) = ke_acq R t i := if_neg z
        rw [e] at h1
        exact br_f (by rw [ke_k4 hi4]; exact z) (nm_r (nI_1 i) h1)
theorem ke_U3 {post : Int32 → SY → Prop} (hc : c < 4) (hs : st c = 3) (hO : O = -1) (hp : post 3 (W, S, R, nI c, mem, ops, oa, ob, len, upd (ke_acq R (st, pc, reg, fp, hb, att, ca, co, cn, yb) 4).1 c 4, upd (ke_acq R (st, pc, reg, fp, hb, att, ca, co, cn, yb) 4).2.1 c 0, ke_fill (ke_acq R (st, pc, reg, fp, hb, att, ca, co, cn, yb) 4).2.2.1 (c * 4) 4, (ke_acq R (st, pc, reg, fp, hb, att, ca, co, cn, yb) 4).2.2.2.1, (ke_acq R (st, pc, reg, fp, hb, att, ca, co, cn, yb) 4).2.2.2.2.2.2.2.2.2, (ke_acq R (st, pc, reg, fp, hb, att, ca, co, cn, yb) 4).2.2.2.2.1, res, (ke_acq R (st, pc, reg, fp, hb, att, ca, co, cn, yb) 4).2.2.2.2.2.1, (ke_acq R (st, pc, reg, fp, hb, att, ca, co, cn, yb) 4).2.2.2.2.2.2.1, (ke_acq R (st, pc, reg, fp, hb, att, ca, co, cn, yb) 4).2.2.2.2.2.2.2.1, (ke_acq R (st, pc, reg, fp, hb, att, ca, co, cn, yb) 4).2.2.2.2.2.2.2.2.1)) : wpY_step post (W, S, R, O, mem, ops, oa, ob, len, st, pc, reg, fp, yb, hb, res, att, ca, co, cn) (nI c) := by
  refine br_f (nI_pos (by omega)) (br_t (nI_le (b := 3) (by omega) (by decide)) ⟨ke_i4 hc, nm_r (e' := 3) (by rw [ke_k4 hc, hs]) ?_⟩)
  refine br_f (by decide) (br_f (by decide) (br_t rfl (br_t hO ⟨5, ?_⟩)))
  exact ke_Yaq_l (t := (st, pc, reg, fp, hb, att, ca, co, cn, yb)) hc hs hp 4 0 rfl
theorem ke_Yct_l {post : Int32 → SY → Prop} (hc : c < 4) (hp : post 6 (W, S, R, O, ke_mrg mem hb yb (c * 64) 64, ops, oa, ob, len, st, pc, reg, ke_fill fp (c * 17) 17, ke_fill yb (c * 64) 64, ke_fill hb (c * 64) 64, res, att, ca, co, upd cn (c * 3 + 0) (cn (c * 3 + 0) + 1))) : ∀ d i, i + d = 64 → wY_step_223 post (nI c) W S R O (d + 1) (nI i) (ke_mrg mem hb yb (c * 64) i) ops oa ob len st pc reg fp yb hb res att ca co cn := by
  intro d
  induction d with
  | zero =>
    intro i hi
    have e : i = 64 := by omega
    subst e
    refine br_t (nI_le (Nat.le_refl 64) (by decide)) (ke_Ydr hc ?_)
    exact ⟨ke_v3 (i := 0) hc (by decide), ke_v3 (i := 0) hc (by decide), nm_r (e' := upd cn (c * 3 + 0) (cn (c * 3 + 0) + 1)) (by rw [ke_c3_0 hc]) hp⟩
  | succ d ih =>
    intro i hi
    refine br_f (nI_ge (b := 64) (by omega) (by decide)) ⟨ke_v64 hc (by omega), ?_⟩
    have h1 := ih (i + 1) (by omega)
    by_cases z : hb (c * 64 + i) = 0
    · have e : ke_mrg mem hb yb (c * 64) (i + 1) = ke_mrg mem hb yb (c * 64) i := if_pos z
      rw [e] at h1
      exact br_t (by rw [ke_c64 hc (by omega)]; exact z) (nm_r (nI_1 i) h1)
    · have e : ke_mrg mem hb yb (c * 64) (i + 1) = upd (ke_mrg mem hb yb (c * 64) i) i (yb (c * 64 + i)) := if_neg z
      rw [e] at h1
      exact br_f (by rw [ke_c64 hc (by omega)]; exact z) ⟨ke_v64 hc (by omega), vp_in_nI (by omega) (by omega), nm_r (e' := upd (ke_mrg mem hb yb (c * 64) i) i (yb (c * 64 + i))) (by rw [ke_c64 hc (by omega), nI_clamp (by omega)]) (nm_r (nI_1 i) h1)⟩
theorem ke_Y174c {post : Int32 → SY → Prop} (hc : c < 4) (hp : post 6 (W, S, R, O, ke_mrg mem hb yb (c * 64) 64, ops, oa, ob, len, upd st c 0, pc, reg, ke_fill fp (c * 17) 17, ke_fill yb (c * 64) 64, ke_fill hb (c * 64) 64, ke_copy res reg (c * 4) 4, att, ca, co, upd cn (c * 3 + 0) (cn (c * 3 + 0) + 1))) : ∀ d i, i + d = 4 → wY_step_174 post (nI c) 2 W S R O (d + 1) (nI i) mem ops oa ob len st pc reg fp yb hb (ke_copy res reg (c * 4) i) att ca co cn := by
  intro d
  induction d with
  | zero =>
    intro i hi
    have e : i = 4 := by omega
    subst e
    refine br_t (nI_le (Nat.le_refl 4) (by decide)) ⟨ke_i4 hc, nm_r (e' := upd st c 0) (by rw [ke_k4 hc]) ?_⟩
    refine br_t rfl ⟨65, ?_⟩
    exact ke_Yct_l hc hp 64 0 rfl
  | succ d ih =>
    intro i hi
    refine br_f (nI_ge (b := 4) (by omega) (by decide)) ⟨ke_v4 hc (by omega), ke_v4 hc (by omega), nm_r (e' := ke_copy res reg (c * 4) (i + 1)) ?_ (nm_r (nI_1 i) ?_)⟩
    · rw [ke_c4 hc (by omega)]; rfl
    · exact ih (i + 1) (by omega)
theorem ke_Y174r {post : Int32 → SY → Prop} (hc : c < 4) (hp : post 7 (W, S, R, -1, mem, ops, oa, ob, len, upd st c 0, pc, reg, fp, yb, hb, ke_copy res reg (c * 4) 4, att, ca, co, upd cn (c * 3 + 1) (cn (c * 3 + 1) + 1))) : ∀ d i, i + d = 4 → wY_step_174 post (nI c) 4 W S R O (d + 1) (nI i) mem ops oa ob len st pc reg fp yb hb (ke_copy res reg (c * 4) i) att ca co cn := by
  intro d
  induction d with
  | zero =>
    intro i hi
    have e : i = 4 := by omega
    subst e
    refine br_t (nI_le (Nat.le_refl 4) (by decide)) ⟨ke_i4 hc, nm_r (e' := upd st c 0) (by rw [ke_k4 hc]) ?_⟩
    exact br_f (by decide) ⟨ke_v3 (i := 1) hc (by decide), ke_v3 (i := 1) hc (by decide), nm_r (e' := upd cn (c * 3 + 1) (cn (c * 3 + 1) + 1)) (by rw [ke_c3_1 hc]) hp⟩
  | succ d ih =>
    intro i hi
    refine br_f (nI_ge (b := 4) (by omega) (by decide)) ⟨ke_v4 hc (by omega), ke_v4 hc (by omega), nm_r (e' := ke_copy res reg (c * 4) (i + 1)) ?_ (nm_r (nI_1 i) ?_)⟩
    · rw [ke_c4 hc (by omega)]; rfl
    · exact ih (i + 1) (by omega)
theorem ke_U2e {post : Int32 → SY → Prop} (hc : c < 4) (hs : st c = 2) (hl : ¬ pc c < len c) (hp : post 6 (W, S, R, O, ke_mrg mem hb yb (c * 64) 64, ops, oa, ob, len, upd st c 0, pc, reg, ke_fill fp (c * 17) 17, ke_fill yb (c * 64) 64, ke_fill hb (c * 64) 64, ke_copy res reg (c * 4) 4, att, ca, co, upd cn (c * 3 + 0) (cn (c * 3 + 0) + 1))) : wpY_step post (W, S, R, O, mem, ops, oa, ob, len, st, pc, reg, fp, yb, hb, res, att, ca, co, cn) (nI c) := by
  refine br_f (nI_pos (by omega)) (br_t (nI_le (b := 3) (by omega) (by decide)) ⟨ke_i4 hc, nm_r (e' := 2) (by rw [ke_k4 hc, hs]) ?_⟩)
  refine br_f (by decide) (br_f (by decide) (br_f (by decide) ⟨ke_i4 hc, nm_r (e' := pc c) (by rw [ke_k4 hc]) ⟨ke_i4 hc, br_f (by rw [ke_k4 hc]; exact hl) ⟨5, ?_⟩⟩⟩))
  exact ke_Y174c hc hp 4 0 rfl
theorem ke_U4e {post : Int32 → SY → Prop} (hc : c < 4) (hs : st c = 4) (hl : ¬ pc c < len c) (hp : post 7 (W, S, R, -1, mem, ops, oa, ob, len, upd st c 0, pc, reg, fp, yb, hb, ke_copy res reg (c * 4) 4, att, ca, co, upd cn (c * 3 + 1) (cn (c * 3 + 1) + 1))) : wpY_step post (W, S, R, O, mem, ops, oa, ob, len, st, pc, reg, fp, yb, hb, res, att, ca, co, cn) (nI c) := by
  refine br_f (nI_pos (by omega)) (br_t (nI_le (b := 3) (by omega) (by decide)) ⟨ke_i4 hc, nm_r (e' := 4) (by rw [ke_k4 hc, hs]) ?_⟩)
  refine br_f (by decide) (br_f (by decide) (br_f (by decide) ⟨ke_i4 hc, nm_r (e' := pc c) (by rw [ke_k4 hc]) ⟨ke_i4 hc, br_f (by rw [ke_k4 hc]; exact hl) ⟨5, ?_⟩⟩⟩))
  exact ke_Y174r hc hp 4 0 rfl
theorem ke_E12 {post : Int32 → SY → Prop} {p q i L : Nat} {b : Int32} (hc : c < 4) (ho : ops (c * 16 + i) = nI p) (eq : oa (c * 16 + i) = nI q) (eb : ob (c * 16 + i) = b) (hi : pc c = nI i) (hL : len c = nI L) (hL16 : L ≤ 16) (hiL : i < L) (hok : ke_Ok (nI p) (nI q) b) (hp9 : p < 9) (hq4 : q < 4) (hs : st c = 2) (hpp : p = 1 ∨ p = 5) (h : wY_step_439 post (nI c) 2 (nI i) (nI p) (nI q) b (nI (ke_ad p b c reg)) 0 W S R O mem ops oa ob len st pc reg fp yb hb res att ca co cn) : wpY_step post (W, S, R, O, mem, ops, oa, ob, len, st, pc, reg, fp, yb, hb, res, att, ca, co, cn) (nI c) := by
  have eA : (nI (c * 16 + i)).toNatClampNeg = c * 16 + i := nI_clamp (by omega)
  have hA : vp_in (nI (c * 16 + i)) 64 := vp_in_nI (by omega) (by omega)
  have hlt : nI i < len (nI c).toNatClampNeg := by rw [ke_k4 hc, hL]; exact nI_lt hiL (by omega)
  refine br_f (nI_pos (by omega)) (br_t (nI_le (b := 3) (by omega) (by decide)) ⟨ke_i4 hc, nm_r (e' := 2) (by rw [ke_k4 hc, hs]) ?_⟩)
  refine br_f (by decide) (br_f (by decide) (br_f (by decide) ⟨ke_i4 hc, nm_r (e' := nI i) (by rw [ke_k4 hc, hi]) ⟨ke_i4 hc, br_t hlt ?_⟩⟩))
  refine nm_r (e' := nI (c * 16 + i)) (by rw [ke_a15 (by omega), ke_x16]) ⟨hA, nm_r (e' := nI p) (by rw [eA, ho]) ⟨hA, nm_r (e' := nI q) (by rw [eA, eq]) ⟨hA, nm_r (e' := b) (by rw [eA, eb]) ?_⟩⟩⟩
  rcases hpp with rfl | rfl
  · skip
    obtain ⟨m, hm, em⟩ := ke_Ok1 hok (by omega) (by omega)
    have ea : ke_ad 1 b c reg = m := by unfold ke_ad; rw [if_neg (by omega), em, nI_clamp (by omega)]
    rw [ea] at h
    exact br_t rfl (nm_r (e' := nI m) (by rw [em, ke_a63 hm]) (br_f (by decide) (br_f (by decide) (br_f (by decide) (br_f (by decide) h)))))
  · skip
    obtain ⟨m, hm, em⟩ := ke_Ok3 hok (by omega) (by omega)
    have ea : nI (ke_ad 5 b c reg) = reg (nI c * 4 + (b &&& 3)).toNatClampNeg &&& 63 := by
      unfold ke_ad; rw [if_pos (by omega), ke_nn, em, ke_a3 hm, ke_c4 hc hm, nI_clamp (show m < 2 ^ 31 by omega)]
    have hv : vp_in (nI c * 4 + (b &&& 3)) 16 := by rw [em, ke_a3 hm]; exact ke_v4 hc hm
    rw [ea] at h
    exact br_f (by decide) (br_f (by decide) (br_t rfl ⟨hv, nm_e (br_f (by decide) (br_f (by decide) h))⟩))
theorem ke_E22 {post : Int32 → SY → Prop} {p q i L : Nat} {b : Int32} (hc : c < 4) (ho : ops (c * 16 + i) = nI p) (eq : oa (c * 16 + i) = nI q) (eb : ob (c * 16 + i) = b) (hi : pc c = nI i) (hL : len c = nI L) (hL16 : L ≤ 16) (hiL : i < L) (hok : ke_Ok (nI p) (nI q) b) (hp9 : p < 9) (hq4 : q < 4) (hs : st c = 2) (hpp : p = 2 ∨ p = 6) (h : wY_step_439 post (nI c) 2 (nI i) (nI p) (nI q) b (nI (ke_ad p b c reg)) 1 W S R O mem ops oa ob len st pc reg fp yb hb res att ca co cn) : wpY_step post (W, S, R, O, mem, ops, oa, ob, len, st, pc, reg, fp, yb, hb, res, att, ca, co, cn) (nI c) := by
  have eA : (nI (c * 16 + i)).toNatClampNeg = c * 16 + i := nI_clamp (by omega)
  have hA : vp_in (nI (c * 16 + i)) 64 := vp_in_nI (by omega) (by omega)
  have hlt : nI i < len (nI c).toNatClampNeg := by rw [ke_k4 hc, hL]; exact nI_lt hiL (by omega)
  refine br_f (nI_pos (by omega)) (br_t (nI_le (b := 3) (by omega) (by decide)) ⟨ke_i4 hc, nm_r (e' := 2) (by rw [ke_k4 hc, hs]) ?_⟩)
  refine br_f (by decide) (br_f (by decide) (br_f (by decide) ⟨ke_i4 hc, nm_r (e' := nI i) (by rw [ke_k4 hc, hi]) ⟨ke_i4 hc, br_t hlt ?_⟩⟩))
  refine nm_r (e' := nI (c * 16 + i)) (by rw [ke_a15 (by omega), ke_x16]) ⟨hA, nm_r (e' := nI p) (by rw [eA, ho]) ⟨hA, nm_r (e' := nI q) (by rw [eA, eq]) ⟨hA, nm_r (e' := b) (by rw [eA, eb]) ?_⟩⟩⟩
  rcases hpp with rfl | rfl
  · skip
    obtain ⟨m, hm, em⟩ := ke_Ok1 hok (by omega) (by omega)
    have ea : ke_ad 2 b c reg = m := by unfold ke_ad; rw [if_neg (by omega), em, nI_clamp (by omega)]
    rw [ea] at h
    exact br_f (by decide) (br_t rfl (nm_r (e' := nI m) (by rw [em, ke_a63 hm]) (br_f (by decide) (br_f (by decide) (br_t rfl h)))))
  · skip
    obtain ⟨m, hm, em⟩ := ke_Ok3 hok (by omega) (by omega)
    have ea : nI (ke_ad 6 b c reg) = reg (nI c * 4 + (b &&& 3)).toNatClampNeg &&& 63 := by
      unfold ke_ad; rw [if_pos (by omega), ke_nn, em, ke_a3 hm, ke_c4 hc hm, nI_clamp (show m < 2 ^ 31 by omega)]
    have hv : vp_in (nI c * 4 + (b &&& 3)) 16 := by rw [em, ke_a3 hm]; exact ke_v4 hc hm
    rw [ea] at h
    exact br_f (by decide) (br_f (by decide) (br_f (by decide) (br_t rfl ⟨hv, nm_e (br_f (by decide) (br_t rfl h))⟩)))
theorem ke_E02 {post : Int32 → SY → Prop} {p q i L : Nat} {b : Int32} (hc : c < 4) (ho : ops (c * 16 + i) = nI p) (eq : oa (c * 16 + i) = nI q) (eb : ob (c * 16 + i) = b) (hi : pc c = nI i) (hL : len c = nI L) (hL16 : L ≤ 16) (hiL : i < L) (hok : ke_Ok (nI p) (nI q) b) (hp9 : p < 9) (hq4 : q < 4) (hs : st c = 2) (hpp : p = 0 ∨ p = 3 ∨ p = 4 ∨ p = 7 ∨ p = 8) (h : wY_step_439 post (nI c) 2 (nI i) (nI p) (nI q) b (-1) 0 W S R O mem ops oa ob len st pc reg fp yb hb res att ca co cn) : wpY_step post (W, S, R, O, mem, ops, oa, ob, len, st, pc, reg, fp, yb, hb, res, att, ca, co, cn) (nI c) := by
  have eA : (nI (c * 16 + i)).toNatClampNeg = c * 16 + i := nI_clamp (by omega)
  have hA : vp_in (nI (c * 16 + i)) 64 := vp_in_nI (by omega) (by omega)
  have hlt : nI i < len (nI c).toNatClampNeg := by rw [ke_k4 hc, hL]; exact nI_lt hiL (by omega)
  refine br_f (nI_pos (by omega)) (br_t (nI_le (b := 3) (by omega) (by decide)) ⟨ke_i4 hc, nm_r (e' := 2) (by rw [ke_k4 hc, hs]) ?_⟩)
  refine br_f (by decide) (br_f (by decide) (br_f (by decide) ⟨ke_i4 hc, nm_r (e' := nI i) (by rw [ke_k4 hc, hi]) ⟨ke_i4 hc, br_t hlt ?_⟩⟩))
  refine nm_r (e' := nI (c * 16 + i)) (by rw [ke_a15 (by omega), ke_x16]) ⟨hA, nm_r (e' := nI p) (by rw [eA, ho]) ⟨hA, nm_r (e' := nI q) (by rw [eA, eq]) ⟨hA, nm_r (e' := b) (by rw [eA, eb]) ?_⟩⟩⟩
  rcases hpp with rfl | rfl | rfl | rfl | rfl
  · exact br_f (by decide) (br_f (by decide) (br_f (by decide) (br_f (by decide) (br_f (by decide) (br_f (by decide) h)))))
  · exact br_f (by decide) (br_f (by decide) (br_f (by decide) (br_f (by decide) (br_f (by decide) (br_f (by decide) h)))))
  · exact br_f (by decide) (br_f (by decide) (br_f (by decide) (br_f (by decide) (br_f (by decide) (br_f (by decide) h)))))
  · exact br_f (by decide) (br_f (by decide) (br_f (by decide) (br_f (by decide) (br_f (by decide) (br_f (by decide) h)))))
  · exact br_f (by decide) (br_f (by decide) (br_f (by decide) (br_f (by decide) (br_f (by decide) (br_f (by decide) h)))))
theorem ke_E14 {post : Int32 → SY → Prop} {p q i L : Nat} {b : Int32} (hc : c < 4) (ho : ops (c * 16 + i) = nI p) (eq : oa (c * 16 + i) = nI q) (eb : ob (c * 16 + i) = b) (hi : pc c = nI i) (hL : len c = nI L) (hL16 : L ≤ 16) (hiL : i < L) (hok : ke_Ok (nI p) (nI q) b) (hp9 : p < 9) (hq4 : q < 4) (hs : st c = 4) (hpp : p = 1 ∨ p = 5) (h : wY_step_439 post (nI c) 4 (nI i) (nI p) (nI q) b (nI (ke_ad p b c reg)) 0 W S R O mem ops oa ob len st pc reg fp yb hb res att ca co cn) : wpY_step post (W, S, R, O, mem, ops, oa, ob, len, st, pc, reg, fp, yb, hb, res, att, ca, co, cn) (nI c) := by
  have eA : (nI (c * 16 + i)).toNatClampNeg = c * 16 + i := nI_clamp (by omega)
  have hA : vp_in (nI (c * 16 + i)) 64 := vp_in_nI (by omega) (by omega)
  have hlt : nI i < len (nI c).toNatClampNeg := by rw [ke_k4 hc, hL]; exact nI_lt hiL (by omega)
  refine br_f (nI_pos (by omega)) (br_t (nI_le (b := 3) (by omega) (by decide)) ⟨ke_i4 hc, nm_r (e' := 4) (by rw [ke_k4 hc, hs]) ?_⟩)
  refine br_f (by decide) (br_f (by decide) (br_f (by decide) ⟨ke_i4 hc, nm_r (e' := nI i) (by rw [ke_k4 hc, hi]) ⟨ke_i4 hc, br_t hlt ?_⟩⟩))
  refine nm_r (e' := nI (c * 16 + i)) (by rw [ke_a15 (by omega), ke_x16]) ⟨hA, nm_r (e' := nI p) (by rw [eA, ho]) ⟨hA, nm_r (e' := nI q) (by rw [eA, eq]) ⟨hA, nm_r (e' := b) (by rw [eA, eb]) ?_⟩⟩⟩
  rcases hpp with rfl | rfl
  · skip
    obtain ⟨m, hm, em⟩ := ke_Ok1 hok (by omega) (by omega)
    have ea : ke_ad 1 b c reg = m := by unfold ke_ad; rw [if_neg (by omega), em, nI_clamp (by omega)]
    rw [ea] at h
    exact br_t rfl (nm_r (e' := nI m) (by rw [em, ke_a63 hm]) (br_f (by decide) (br_f (by decide) (br_f (by decide) (br_f (by decide) h)))))
  · skip
    obtain ⟨m, hm, em⟩ := ke_Ok3 hok (by omega) (by omega)
    have ea : nI (ke_ad 5 b c reg) = reg (nI c * 4 + (b &&& 3)).toNatClampNeg &&& 63 := by
      unfold ke_ad; rw [if_pos (by omega), ke_nn, em, ke_a3 hm, ke_c4 hc hm, nI_clamp (show m < 2 ^ 31 by omega)]
    have hv : vp_in (nI c * 4 + (b &&& 3)) 16 := by rw [em, ke_a3 hm]; exact ke_v4 hc hm
    rw [ea] at h
    exact br_f (by decide) (br_f (by decide) (br_t rfl ⟨hv, nm_e (br_f (by decide) (br_f (by decide) h))⟩))
theorem ke_E24 {post : Int32 → SY → Prop} {p q i L : Nat} {b : Int32} (hc : c < 4) (ho : ops (c * 16 + i) = nI p) (eq : oa (c * 16 + i) = nI q) (eb : ob (c * 16 + i) = b) (hi : pc c = nI i) (hL : len c = nI L) (hL16 : L ≤ 16) (hiL : i < L) (hok : ke_Ok (nI p) (nI q) b) (hp9 : p < 9) (hq4 : q < 4) (hs : st c = 4) (hpp : p = 2 ∨ p = 6) (h : wY_step_439 post (nI c) 4 (nI i) (nI p) (nI q) b (nI (ke_ad p b c reg)) 1 W S R O mem ops oa ob len st pc reg fp yb hb res att ca co cn) : wpY_step post (W, S, R, O, mem, ops, oa, ob, len, st, pc, reg, fp, yb, hb, res, att, ca, co, cn) (nI c) := by
  have eA : (nI (c * 16 + i)).toNatClampNeg = c * 16 + i := nI_clamp (by omega)
  have hA : vp_in (nI (c * 16 + i)) 64 := vp_in_nI (by omega) (by omega)
  have hlt : nI i < len (nI c).toNatClampNeg := by rw [ke_k4 hc, hL]; exact nI_lt hiL (by omega)
  refine br_f (nI_pos (by omega)) (br_t (nI_le (b := 3) (by omega) (by decide)) ⟨ke_i4 hc, nm_r (e' := 4) (by rw [ke_k4 hc, hs]) ?_⟩)
  refine br_f (by decide) (br_f (by decide) (br_f (by decide) ⟨ke_i4 hc, nm_r (e' := nI i) (by rw [ke_k4 hc, hi]) ⟨ke_i4 hc, br_t hlt ?_⟩⟩))
  refine nm_r (e' := nI (c * 16 + i)) (by rw [ke_a15 (by omega), ke_x16]) ⟨hA, nm_r (e' := nI p) (by rw [eA, ho]) ⟨hA, nm_r (e' := nI q) (by rw [eA, eq]) ⟨hA, nm_r (e' := b) (by rw [eA, eb]) ?_⟩⟩⟩
  rcases hpp with rfl | rfl
  · skip
    obtain ⟨m, hm, em⟩ := ke_Ok1 hok (by omega) (by omega)
    have ea : ke_ad 2 b c reg = m := by unfold ke_ad; rw [if_neg (by omega), em, nI_clamp (by omega)]
    rw [ea] at h
    exact br_f (by decide) (br_t rfl (nm_r (e' := nI m) (by rw [em, ke_a63 hm]) (br_f (by decide) (br_f (by decide) (br_t rfl h)))))
  · skip
    obtain ⟨m, hm, em⟩ := ke_Ok3 hok (by omega) (by omega)
    have ea : nI (ke_ad 6 b c reg) = reg (nI c * 4 + (b &&& 3)).toNatClampNeg &&& 63 := by
      unfold ke_ad; rw [if_pos (by omega), ke_nn, em, ke_a3 hm, ke_c4 hc hm, nI_clamp (show m < 2 ^ 31 by omega)]
    have hv : vp_in (nI c * 4 + (b &&& 3)) 16 := by rw [em, ke_a3 hm]; exact ke_v4 hc hm
    rw [ea] at h
    exact br_f (by decide) (br_f (by decide) (br_f (by decide) (br_t rfl ⟨hv, nm_e (br_f (by decide) (br_t rfl h))⟩)))
theorem ke_E04 {post : Int32 → SY → Prop} {p q i L : Nat} {b : Int32} (hc : c < 4) (ho : ops (c * 16 + i) = nI p) (eq : oa (c * 16 + i) = nI q) (eb : ob (c * 16 + i) = b) (hi : pc c = nI i) (hL : len c = nI L) (hL16 : L ≤ 16) (hiL : i < L) (hok : ke_Ok (nI p) (nI q) b) (hp9 : p < 9) (hq4 : q < 4) (hs : st c = 4) (hpp : p = 0 ∨ p = 3 ∨ p = 4 ∨ p = 7 ∨ p = 8) (h : wY_step_439 post (nI c) 4 (nI i) (nI p) (nI q) b (-1) 0 W S R O mem ops oa ob len st pc reg fp yb hb res att ca co cn) : wpY_step post (W, S, R, O, mem, ops, oa, ob, len, st, pc, reg, fp, yb, hb, res, att, ca, co, cn) (nI c) := by
  have eA : (nI (c * 16 + i)).toNatClampNeg = c * 16 + i := nI_clamp (by omega)
  have hA : vp_in (nI (c * 16 + i)) 64 := vp_in_nI (by omega) (by omega)
  have hlt : nI i < len (nI c).toNatClampNeg := by rw [ke_k4 hc, hL]; exact nI_lt hiL (by omega)
  refine br_f (nI_pos (by omega)) (br_t (nI_le (b := 3) (by omega) (by decide)) ⟨ke_i4 hc, nm_r (e' := 4) (by rw [ke_k4 hc, hs]) ?_⟩)
  refine br_f (by decide) (br_f (by decide) (br_f (by decide) ⟨ke_i4 hc, nm_r (e' := nI i) (by rw [ke_k4 hc, hi]) ⟨ke_i4 hc, br_t hlt ?_⟩⟩))
  refine nm_r (e' := nI (c * 16 + i)) (by rw [ke_a15 (by omega), ke_x16]) ⟨hA, nm_r (e' := nI p) (by rw [eA, ho]) ⟨hA, nm_r (e' := nI q) (by rw [eA, eq]) ⟨hA, nm_r (e' := b) (by rw [eA, eb]) ?_⟩⟩⟩
  rcases hpp with rfl | rfl | rfl | rfl | rfl
  · exact br_f (by decide) (br_f (by decide) (br_f (by decide) (br_f (by decide) (br_f (by decide) (br_f (by decide) h)))))
  · exact br_f (by decide) (br_f (by decide) (br_f (by decide) (br_f (by decide) (br_f (by decide) (br_f (by decide) h)))))
  · exact br_f (by decide) (br_f (by decide) (br_f (by decide) (br_f (by decide) (br_f (by decide) (br_f (by decide) h)))))
  · exact br_f (by decide) (br_f (by decide) (br_f (by decide) (br_f (by decide) (br_f (by decide) (br_f (by decide) h)))))
  · exact br_f (by decide) (br_f (by decide) (br_f (by decide) (br_f (by decide) (br_f (by decide) (br_f (by decide) h)))))
theorem ke_U27 {post : Int32 → SY → Prop} {p q i L : Nat} {b : Int32} (hc : c < 4) (ho : ops (c * 16 + i) = nI p) (eq : oa (c * 16 + i) = nI q) (eb : ob (c * 16 + i) = b) (hi : pc c = nI i) (hL : len c = nI L) (hL16 : L ≤ 16) (hiL : i < L) (hok : ke_Ok (nI p) (nI q) b) (hp9 : p < 9) (hq4 : q < 4) (hs : st c = 2) (hpp : p = 7) (hp : post 5 (W, S, R, O, mem, ops, oa, ob, len, upd st c (ke_as R 3 (att c + 1)), upd pc c 0, ke_fill reg (c * 4) 4, ke_fill fp (c * 17) 17, ke_fill yb (c * 64) 64, ke_fill hb (c * 64) 64, res, upd att c (att c + 1), upd ca c 3, upd co c b, upd cn (c * 3 + 2) (cn (c * 3 + 2) + 1))) : wpY_step post (W, S, R, O, mem, ops, oa, ob, len, st, pc, reg, fp, yb, hb, res, att, ca, co, cn) (nI c) := by
  refine ke_E02 hc ho eq eb hi hL hL16 hiL hok hp9 hq4 hs (by omega) ?_
  subst hpp
  refine br_t rfl (br_t rfl ?_)
  exact ke_Yab3 (k := 3) hc hp
theorem ke_U2x {post : Int32 → SY → Prop} {p q i L : Nat} {b : Int32} (hc : c < 4) (ho : ops (c * 16 + i) = nI p) (eq : oa (c * 16 + i) = nI q) (eb : ob (c * 16 + i) = b) (hi : pc c = nI i) (hL : len c = nI L) (hL16 : L ≤ 16) (hiL : i < L) (hok : ke_Ok (nI p) (nI q) b) (hp9 : p < 9) (hq4 : q < 4) (hs : st c = 2) (hpp : ¬ (p = 1 ∨ p = 2 ∨ p = 5 ∨ p = 6 ∨ p = 7)) (hp : post 4 (W, S, R, O, mem, ops, oa, ob, len, st, upd pc c (nI (ke_xp p q b c L i reg)), ke_xr p q b c reg, fp, yb, hb, res, att, ca, co, cn)) : wpY_step post (W, S, R, O, mem, ops, oa, ob, len, st, pc, reg, fp, yb, hb, res, att, ca, co, cn) (nI c) := by
  refine ke_E02 hc ho eq eb hi hL hL16 hiL hok hp9 hq4 hs (by omega) ?_
  refine br_t rfl (br_f (fun z => by have := (nI_eq (a := p) (b := 7) (by omega) (by decide)).mp z; omega) (br_t (by decide) ?_))
  exact ke_Ysi hc hi hL hL16 hiL hok (by omega) hq4 hp
theorem ke_U4x {post : Int32 → SY → Prop} {p q i L : Nat} {b : Int32} (hc : c < 4) (ho : ops (c * 16 + i) = nI p) (eq : oa (c * 16 + i) = nI q) (eb : ob (c * 16 + i) = b) (hi : pc c = nI i) (hL : len c = nI L) (hL16 : L ≤ 16) (hiL : i < L) (hok : ke_Ok (nI p) (nI q) b) (hp9 : p < 9) (hq4 : q < 4) (hs : st c = 4) (hpp : ¬ (p = 1 ∨ p = 2 ∨ p = 5 ∨ p = 6)) (hp : post 4 (W, S, R, O, mem, ops, oa, ob, len, st, upd pc c (nI (ke_xp p q b c L i reg)), ke_xr p q b c reg, fp, yb, hb, res, att, ca, co, cn)) : wpY_step post (W, S, R, O, mem, ops, oa, ob, len, st, pc, reg, fp, yb, hb, res, att, ca, co, cn) (nI c) := by
  refine ke_E04 hc ho eq eb hi hL hL16 hiL hok hp9 hq4 hs (by omega) ?_
  refine br_f (by decide) ?_
  by_cases h7 : p = 7
  · subst h7
    exact br_t rfl ⟨ke_i4 hc, nm_r (e' := upd pc c (nI (i + 1))) (by rw [ke_k4 hc, nI_1]) hp⟩
  · refine br_f (fun z => by have := (nI_eq (a := p) (b := 7) (by omega) (by decide)).mp z; omega) (br_t (by decide) ?_)
    exact ke_Ysi hc hi hL hL16 hiL hok (by omega) hq4 hp
theorem ke_U2lo {post : Int32 → SY → Prop} {d m l : Nat} {p q i L : Nat} {b : Int32} (hc : c < 4) (ho : ops (c * 16 + i) = nI p) (eq : oa (c * 16 + i) = nI q) (eb : ob (c * 16 + i) = b) (hi : pc c = nI i) (hL : len c = nI L) (hL16 : L ≤ 16) (hiL : i < L) (hok : ke_Ok (nI p) (nI q) b) (hp9 : p < 9) (hq4 : q < 4) (hs : st c = 2) (hpp : p = 1 ∨ p = 5) (hS : S = nI d) (h1 : 1 ≤ d) (h4 : d ≤ 4) (hm : m = ke_ad p b c reg) (hl : l = m / 4) (hov : ke_ov W d fp c l) (hp : post 5 (W, S, R, O, mem, ops, oa, ob, len, upd st c (ke_as R 2 (att c + 1)), upd pc c 0, ke_fill reg (c * 4) 4, ke_fill fp (c * 17) 17, ke_fill yb (c * 64) 64, ke_fill hb (c * 64) 64, res, upd att c (att c + 1), upd ca c 2, upd co c 0, upd cn (c * 3 + 2) (cn (c * 3 + 2) + 1))) : wpY_step post (W, S, R, O, mem, ops, oa, ob, len, st, pc, reg, fp, yb, hb, res, att, ca, co, cn) (nI c) := by
  have hm64 : m < 64 := by rw [hm]; exact ke_ad_lt c reg hok (by omega)
  refine ke_E12 hc ho eq eb hi hL hL16 hiL hok hp9 hq4 hs hpp ?_
  rw [← hm]
  refine br_t rfl (br_f (fun z => by have := (nI_eq (a := p) (b := 7) (by omega) (by decide)).mp z; omega) (br_f (nI_pos (by omega)) ?_))
  exact ke_Yac hc hS h1 h4 hm64 hl (fun h => absurd hov h) (fun _ => hp)
theorem ke_U2l {post : Int32 → SY → Prop} {d m l : Nat} {p q i L : Nat} {b : Int32} (hc : c < 4) (ho : ops (c * 16 + i) = nI p) (eq : oa (c * 16 + i) = nI q) (eb : ob (c * 16 + i) = b) (hi : pc c = nI i) (hL : len c = nI L) (hL16 : L ≤ 16) (hiL : i < L) (hok : ke_Ok (nI p) (nI q) b) (hp9 : p < 9) (hq4 : q < 4) (hs : st c = 2) (hpp : p = 1 ∨ p = 5) (hS : S = nI d) (h1 : 1 ≤ d) (h4 : d ≤ 4) (hm : m = ke_ad p b c reg) (hl : l = m / 4) (hov : ¬ ke_ov W d fp c l) (hp : post 4 (W, S, R, O, mem, ops, oa, ob, len, (ke_con R l 2 c (st, pc, reg, fp, hb, att, ca, co, cn, yb) 4).1, upd (ke_con R l 2 c (st, pc, reg, fp, hb, att, ca, co, cn, yb) 4).2.1 c ((ke_con R l 2 c (st, pc, reg, fp, hb, att, ca, co, cn, yb) 4).2.1 c + 1), upd (ke_con R l 2 c (st, pc, reg, fp, hb, att, ca, co, cn, yb) 4).2.2.1 (c * 4 + q) (if (ke_con R l 2 c (st, pc, reg, fp, hb, att, ca, co, cn, yb) 4).2.2.2.2.1 (c * 64 + m) = 0 then mem m else (ke_con R l 2 c (st, pc, reg, fp, hb, att, ca, co, cn, yb) 4).2.2.2.2.2.2.2.2.2 (c * 64 + m)), upd (ke_con R l 2 c (st, pc, reg, fp, hb, att, ca, co, cn, yb) 4).2.2.2.1 (c * 17 + l) ((ke_con R l 2 c (st, pc, reg, fp, hb, att, ca, co, cn, yb) 4).2.2.2.1 (c * 17 + l) ||| 1), (ke_con R l 2 c (st, pc, reg, fp, hb, att, ca, co, cn, yb) 4).2.2.2.2.2.2.2.2.2, (ke_con R l 2 c (st, pc, reg, fp, hb, att, ca, co, cn, yb) 4).2.2.2.2.1, res, (ke_con R l 2 c (st, pc, reg, fp, hb, att, ca, co, cn, yb) 4).2.2.2.2.2.1, (ke_con R l 2 c (st, pc, reg, fp, hb, att, ca, co, cn, yb) 4).2.2.2.2.2.2.1, (ke_con R l 2 c (st, pc, reg, fp, hb, att, ca, co, cn, yb) 4).2.2.2.2.2.2.2.1, (ke_con R l 2 c (st, pc, reg, fp, hb, att, ca, co, cn, yb) 4).2.2.2.2.2.2.2.2.1)) : wpY_step post (W, S, R, O, mem, ops, oa, ob, len, st, pc, reg, fp, yb, hb, res, att, ca, co, cn) (nI c) := by
  have hm64 : m < 64 := by rw [hm]; exact ke_ad_lt c reg hok (by omega)
  refine ke_E12 hc ho eq eb hi hL hL16 hiL hok hp9 hq4 hs hpp ?_
  rw [← hm]
  refine br_t rfl (br_f (fun z => by have := (nI_eq (a := p) (b := 7) (by omega) (by decide)).mp z; omega) (br_f (nI_pos (by omega)) ?_))
  refine ke_Yac hc hS h1 h4 hm64 hl (fun _ => ⟨5, ?_⟩) (fun h => absurd h hov)
  exact ke_Y97l (t := (st, pc, reg, fp, hb, att, ca, co, cn, yb)) hc (by omega) hm64 hq4 hp 4 0 rfl
theorem ke_U2so {post : Int32 → SY → Prop} {d m l : Nat} {p q i L : Nat} {b : Int32} (hc : c < 4) (ho : ops (c * 16 + i) = nI p) (eq : oa (c * 16 + i) = nI q) (eb : ob (c * 16 + i) = b) (hi : pc c = nI i) (hL : len c = nI L) (hL16 : L ≤ 16) (hiL : i < L) (hok : ke_Ok (nI p) (nI q) b) (hp9 : p < 9) (hq4 : q < 4) (hs : st c = 2) (hpp : p = 2 ∨ p = 6) (hS : S = nI d) (h1 : 1 ≤ d) (h4 : d ≤ 4) (hm : m = ke_ad p b c reg) (hl : l = m / 4) (hov : ke_ov W d fp c l) (hp : post 5 (W, S, R, O, mem, ops, oa, ob, len, upd st c (ke_as R 2 (att c + 1)), upd pc c 0, ke_fill reg (c * 4) 4, ke_fill fp (c * 17) 17, ke_fill yb (c * 64) 64, ke_fill hb (c * 64) 64, res, upd att c (att c + 1), upd ca c 2, upd co c 0, upd cn (c * 3 + 2) (cn (c * 3 + 2) + 1))) : wpY_step post (W, S, R, O, mem, ops, oa, ob, len, st, pc, reg, fp, yb, hb, res, att, ca, co, cn) (nI c) := by
  have hm64 : m < 64 := by rw [hm]; exact ke_ad_lt c reg hok (by omega)
  refine ke_E22 hc ho eq eb hi hL hL16 hiL hok hp9 hq4 hs hpp ?_
  rw [← hm]
  refine br_t rfl (br_f (fun z => by have := (nI_eq (a := p) (b := 7) (by omega) (by decide)).mp z; omega) (br_f (nI_pos (by omega)) ?_))
  exact ke_Yac hc hS h1 h4 hm64 hl (fun h => absurd hov h) (fun _ => hp)
theorem ke_U2s {post : Int32 → SY → Prop} {d m l : Nat} {p q i L : Nat} {b : Int32} (hc : c < 4) (ho : ops (c * 16 + i) = nI p) (eq : oa (c * 16 + i) = nI q) (eb : ob (c * 16 + i) = b) (hi : pc c = nI i) (hL : len c = nI L) (hL16 : L ≤ 16) (hiL : i < L) (hok : ke_Ok (nI p) (nI q) b) (hp9 : p < 9) (hq4 : q < 4) (hs : st c = 2) (hpp : p = 2 ∨ p = 6) (hS : S = nI d) (h1 : 1 ≤ d) (h4 : d ≤ 4) (hm : m = ke_ad p b c reg) (hl : l = m / 4) {bx : ke_F} (hI : ke_I bx (st, pc, reg, fp, hb, att, ca, co, cn, yb)) (hov : ¬ ke_ov W d fp c l) (hp : post 4 (W, S, R, O, mem, ops, oa, ob, len, (ke_con R l 3 c (st, pc, reg, fp, hb, att, ca, co, cn, yb) 4).1, upd (ke_con R l 3 c (st, pc, reg, fp, hb, att, ca, co, cn, yb) 4).2.1 c ((ke_con R l 3 c (st, pc, reg, fp, hb, att, ca, co, cn, yb) 4).2.1 c + 1), (ke_con R l 3 c (st, pc, reg, fp, hb, att, ca, co, cn, yb) 4).2.2.1, upd (ke_con R l 3 c (st, pc, reg, fp, hb, att, ca, co, cn, yb) 4).2.2.2.1 (c * 17 + l) ((ke_con R l 3 c (st, pc, reg, fp, hb, att, ca, co, cn, yb) 4).2.2.2.1 (c * 17 + l) ||| 2), upd (ke_con R l 3 c (st, pc, reg, fp, hb, att, ca, co, cn, yb) 4).2.2.2.2.2.2.2.2.2 (c * 64 + m) ((ke_con R l 3 c (st, pc, reg, fp, hb, att, ca, co, cn, yb) 4).2.2.1 (c * 4 + q)), upd (ke_con R l 3 c (st, pc, reg, fp, hb, att, ca, co, cn, yb) 4).2.2.2.2.1 (c * 64 + m) 1, res, (ke_con R l 3 c (st, pc, reg, fp, hb, att, ca, co, cn, yb) 4).2.2.2.2.2.1, (ke_con R l 3 c (st, pc, reg, fp, hb, att, ca, co, cn, yb) 4).2.2.2.2.2.2.1, (ke_con R l 3 c (st, pc, reg, fp, hb, att, ca, co, cn, yb) 4).2.2.2.2.2.2.2.1, (ke_con R l 3 c (st, pc, reg, fp, hb, att, ca, co, cn, yb) 4).2.2.2.2.2.2.2.2.1)) : wpY_step post (W, S, R, O, mem, ops, oa, ob, len, st, pc, reg, fp, yb, hb, res, att, ca, co, cn) (nI c) := by
  have hm64 : m < 64 := by rw [hm]; exact ke_ad_lt c reg hok (by omega)
  refine ke_E22 hc ho eq eb hi hL hL16 hiL hok hp9 hq4 hs hpp ?_
  rw [← hm]
  refine br_t rfl (br_f (fun z => by have := (nI_eq (a := p) (b := 7) (by omega) (by decide)).mp z; omega) (br_f (nI_pos (by omega)) ?_))
  refine ke_Yac hc hS h1 h4 hm64 hl (fun _ => ⟨5, ?_⟩) (fun h => absurd h hov)
  exact ke_Y97s (t := (st, pc, reg, fp, hb, att, ca, co, cn, yb)) hc (by omega) hm64 hq4 hI hp 4 0 rfl
theorem ke_U4l {post : Int32 → SY → Prop} {p q i L : Nat} {b : Int32} (hc : c < 4) (ho : ops (c * 16 + i) = nI p) (eq : oa (c * 16 + i) = nI q) (eb : ob (c * 16 + i) = b) (hi : pc c = nI i) (hL : len c = nI L) (hL16 : L ≤ 16) (hiL : i < L) (hok : ke_Ok (nI p) (nI q) b) (hp9 : p < 9) (hq4 : q < 4) (hs : st c = 4) (hpp : p = 1 ∨ p = 5) (hp : post 4 (W, S, R, O, mem, ops, oa, ob, len, st, upd pc c (pc c + 1), upd reg (c * 4 + q) (mem (ke_ad p b c reg)), fp, yb, hb, res, att, ca, co, cn)) : wpY_step post (W, S, R, O, mem, ops, oa, ob, len, st, pc, reg, fp, yb, hb, res, att, ca, co, cn) (nI c) := by
  have hm64 : ke_ad p b c reg < 64 := ke_ad_lt c reg hok (by omega)
  have hm6 : (nI (ke_ad p b c reg)).toNatClampNeg = ke_ad p b c reg := nI_clamp (by omega)
  refine ke_E14 hc ho eq eb hi hL hL16 hiL hok hp9 hq4 hs hpp ?_
  refine br_f (by decide) (br_f (fun z => by have := (nI_eq (a := p) (b := 7) (by omega) (by decide)).mp z; omega) (br_f (nI_pos (by omega)) ?_))
  exact br_t rfl ⟨vp_in_nI hm64 (by omega), ke_v4 hc hq4, nm_r (e' := upd reg (c * 4 + q) (mem (ke_ad p b c reg))) (by rw [ke_c4 hc hq4, hm6]) ⟨ke_i4 hc, nm_r (e' := upd pc c (pc c + 1)) (by rw [ke_k4 hc, hi]) hp⟩⟩
theorem ke_U4s {post : Int32 → SY → Prop} {p q i L : Nat} {b : Int32} (hc : c < 4) (ho : ops (c * 16 + i) = nI p) (eq : oa (c * 16 + i) = nI q) (eb : ob (c * 16 + i) = b) (hi : pc c = nI i) (hL : len c = nI L) (hL16 : L ≤ 16) (hiL : i < L) (hok : ke_Ok (nI p) (nI q) b) (hp9 : p < 9) (hq4 : q < 4) (hs : st c = 4) (hpp : p = 2 ∨ p = 6) (hp : post 4 (W, S, R, O, upd mem (ke_ad p b c reg) (reg (c * 4 + q)), ops, oa, ob, len, st, upd pc c (pc c + 1), reg, fp, yb, hb, res, att, ca, co, cn)) : wpY_step post (W, S, R, O, mem, ops, oa, ob, len, st, pc, reg, fp, yb, hb, res, att, ca, co, cn) (nI c) := by
  have hm64 : ke_ad p b c reg < 64 := ke_ad_lt c reg hok (by omega)
  have hm6 : (nI (ke_ad p b c reg)).toNatClampNeg = ke_ad p b c reg := nI_clamp (by omega)
  refine ke_E24 hc ho eq eb hi hL hL16 hiL hok hp9 hq4 hs hpp ?_
  refine br_f (by decide) (br_f (fun z => by have := (nI_eq (a := p) (b := 7) (by omega) (by decide)).mp z; omega) (br_f (nI_pos (by omega)) ?_))
  exact br_f (by decide) ⟨ke_v4 hc hq4, vp_in_nI hm64 (by omega), nm_r (e' := upd mem (ke_ad p b c reg) (reg (c * 4 + q))) (by rw [ke_c4 hc hq4, hm6]) ⟨ke_i4 hc, nm_r (e' := upd pc c (pc c + 1)) (by rw [ke_k4 hc, hi]) hp⟩⟩
end
end
section
/-! the ends of ranges -/
theorem ke_ne {x : Int32} {n m : Nat} (h : x < 0 ∨ nI n ≤ x) (hm : m < n) (hn : n < 2 ^ 31) : ¬ x = nI m := by
  intro e
  subst e
  rcases h with h | h
  · exact nI_pos (by omega) h
  · exact nI_ge hm hn h
theorem ke_hi {x : Int32} {n : Nat} (h : nI (n + 1) ≤ x) (hn : n + 1 < 2 ^ 31) : ¬ x < 0 ∧ ¬ x ≤ nI n ∧ nI n < x := by
  have h1 : (nI (n + 1)).toInt = ((n + 1 : Nat) : Int) := nI_toInt hn
  have h2 : (nI n).toInt = (n : Int) := nI_toInt (by omega)
  have h3 : (nI (n + 1)).toInt ≤ x.toInt := Int32.le_iff_toInt_le.mp h
  have h0 : (0 : Int32).toInt = 0 := by decide
  refine ⟨fun z => ?_, fun z => ?_, ?_⟩
  · have := Int32.lt_iff_toInt_lt.mp z
    omega
  · have := Int32.le_iff_toInt_le.mp z
    omega
  · apply Int32.lt_iff_toInt_lt.mpr
    omega
theorem ke_o1 {P A : Prop} {x y : Int32} (k : Nat) (hx : x < 0 ∨ nI (k + 1) ≤ x) (h : P) (hk : k + 1 < 2 ^ 31 := by omega) (hy : y = nI k := by rfl) : (x < 0 → P) ∧ (¬ x < 0 → ((x ≤ y → A) ∧ (¬ x ≤ y → P))) := by
  subst hy
  rcases hx with hx | hx
  · exact br_t hx h
  · exact br_f (ke_hi hx hk).1 (br_f (ke_hi hx hk).2.1 h)
theorem ke_o2 {P A : Prop} {x y : Int32} (k : Nat) (hx : x < 0 ∨ nI (k + 1) ≤ x) (h : P) (hk : k + 1 < 2 ^ 31 := by omega) (hy : y = nI k := by rfl) : (x < 0 → P) ∧ (¬ x < 0 → ((y < x → P) ∧ (¬ y < x → A))) := by
  subst hy
  rcases hx with hx | hx
  · exact br_t hx h
  · exact br_f (ke_hi hx hk).1 (br_t (ke_hi hx hk).2.2 h)
theorem ke_o3 {P A : Prop} {x y : Int32} (k : Nat) (hx : x < 0 ∨ nI (k + 1) ≤ x) (h : P) (hk : k + 1 < 2 ^ 31 := by omega) (hy : y = nI (k + 1) := by rfl) : (x < 0 → P) ∧ (¬ x < 0 → ((y ≤ x → P) ∧ (¬ y ≤ x → A))) := by
  subst hy
  rcases hx with hx | hx
  · exact br_t hx h
  · exact br_f (ke_hi hx hk).1 (br_t hx h)
theorem ke_g1 {P Q A : Prop} {y : Int32} (k : Nat) {c : Nat} (hc : c < k + 1) (h : A) (hk : k + 1 < 2 ^ 31 := by omega) (hy : y = nI k := by rfl) : (nI c < 0 → P) ∧ (¬ nI c < 0 → ((nI c ≤ y → A) ∧ (¬ nI c ≤ y → Q))) := by
  subst hy
  exact br_f (nI_pos (by omega)) (br_t (nI_le (by omega) (by omega)) h)
theorem ke_g2 {P Q A : Prop} {y : Int32} (k : Nat) {c : Nat} (hc : c < k + 1) (h : A) (hk : k + 1 < 2 ^ 31 := by omega) (hy : y = nI k := by rfl) : (nI c < 0 → P) ∧ (¬ nI c < 0 → ((y < nI c → Q) ∧ (¬ y < nI c → A))) := by
  subst hy
  exact br_f (nI_pos (by omega)) (br_f (nI_nlt (by omega) (by omega)) h)
theorem ke_g3 {P Q A : Prop} {y : Int32} (k : Nat) {c : Nat} (hc : c < k + 1) (h : A) (hk : k + 1 < 2 ^ 31 := by omega) (hy : y = nI (k + 1) := by rfl) : (nI c < 0 → P) ∧ (¬ nI c < 0 → ((y ≤ nI c → Q) ∧ (¬ y ≤ nI c → A))) := by
  subst hy
  exact br_f (nI_pos (by omega)) (br_f (nI_ge hc hk) h)
theorem ke_ix (x : Int32) (n : Nat) (hn : n < 2 ^ 31) : (x < 0 ∨ nI n ≤ x) ∨ ∃ j : Nat, j < n ∧ x = nI j := by
  rcases pk_ix x hn with h | h | h
  · exact Or.inl (Or.inl h)
  · exact Or.inl (Or.inr h)
  · exact Or.inr h
section
variable {W S R O : Int32} {mem ops oa ob len st pc reg res fp bv yb hb att ca co cn : Nat → Int32} {c : Nat}
def ke_R (S : Int32) (ops oa ob len bv : ke_F) (t : ke_T) : Prop := (∃ d, 1 ≤ d ∧ d ≤ 4 ∧ S = nI d) ∧ ke_Pg ops oa ob len ∧ ke_I bv t
/-- the two states hold the same, but for the buffered values, which agree where a word is buffered -/
def i_Rel (_ : Nat) (u : SX) (v : SY) : Prop := ∃ (W S R O : Int32) (mem ops oa ob len st pc reg res fp bv yb hb att ca co cn : Nat → Int32), u = (W, S, R, O, mem, ops, oa, ob, len, st, pc, reg, res, fp, bv, hb, att, ca, co, cn) ∧ v = (W, S, R, O, mem, ops, oa, ob, len, st, pc, reg, fp, yb, hb, res, att, ca, co, cn) ∧ ke_R S ops oa ob len bv (st, pc, reg, fp, hb, att, ca, co, cn, yb)
theorem i_up {k : Nat} {u : SX} {v : SY} (h : i_Rel k u v) : i_Rel (k + 5) u v := h
theorem ke_mk {k : Nat} (h : ke_R S ops oa ob len bv (st, pc, reg, fp, hb, att, ca, co, cn, yb)) : i_Rel k (W, S, R, O, mem, ops, oa, ob, len, st, pc, reg, res, fp, bv, hb, att, ca, co, cn) (W, S, R, O, mem, ops, oa, ob, len, st, pc, reg, fp, yb, hb, res, att, ca, co, cn) := ⟨W, S, R, O, mem, ops, oa, ob, len, st, pc, reg, res, fp, bv, yb, hb, att, ca, co, cn, rfl, rfl, h⟩
def ke_cv (x lo hi : Int32) : Int32 := if lo ≤ x then (if x ≤ hi then x else hi) else lo
theorem ke_cs {A : Int32 → Prop} {x lo hi : Int32} (h : A (ke_cv x lo hi)) : (lo ≤ x → ((x ≤ hi → A x) ∧ (¬ x ≤ hi → A hi))) ∧ (¬ lo ≤ x → A lo) := by
  unfold ke_cv at h
  by_cases h1 : lo ≤ x
  · rw [if_pos h1] at h
    by_cases h2 : x ≤ hi
    · rw [if_pos h2] at h
      exact br_t h1 (br_t h2 h)
    · rw [if_neg h2] at h
      exact br_t h1 (br_f h2 h)
  · rw [if_neg h1] at h
    exact br_f h1 h
theorem ke_cv14 (x : Int32) : ∃ d, 1 ≤ d ∧ d ≤ 4 ∧ ke_cv x 1 4 = nI d := by
  unfold ke_cv
  by_cases h1 : (1 : Int32) ≤ x
  · rw [if_pos h1]
    by_cases h2 : x ≤ 4
    · rw [if_pos h2]
      rcases ke_ix x 5 (by decide) with h | ⟨j, hj, rfl⟩
      · exfalso
        rcases h with h | h
        · have a := Int32.lt_iff_toInt_lt.mp h
          have b := Int32.le_iff_toInt_le.mp h1
          have c0 : (0 : Int32).toInt = 0 := by decide
          have c1 : (1 : Int32).toInt = 1 := by decide
          omega
        · exact (ke_hi (n := 4) h (by decide)).2.1 h2
      · refine ⟨j, ?_, by omega, rfl⟩
        by_cases hz : j = 0
        · subst hz; exact absurd h1 (by decide)
        · omega
    · rw [if_neg h2]; exact ⟨4, by omega, by omega, rfl⟩
  · rw [if_neg h1]; exact ⟨1, by omega, by omega, rfl⟩
theorem ke_Yin {post : SY → Prop} {x y z : Int32} (hp : post (ke_cv x 1 4, ke_cv y 1 4, ke_cv z 0 7, -1, (fun _ => 0), (fun _ => 0), (fun _ => 0), (fun _ => 0), (fun _ => 0), (fun _ => 0), (fun _ => 0), (fun _ => 0), (fun _ => 0), (fun _ => 0), (fun _ => 0), (fun _ => 0), (fun _ => 0), (fun _ => 0), (fun _ => 0), (fun _ => 0))) : wpY_init post x y z := by
  unfold wpY_init
  refine ke_cs (A := fun r => wY_init_148 post y z r 0 0 0 0 (fun _ => 0) (fun _ => 0) (fun _ => 0) (fun _ => 0) (fun _ => 0) (fun _ => 0) (fun _ => 0) (fun _ => 0) (fun _ => 0) (fun _ => 0) (fun _ => 0) (fun _ => 0) (fun _ => 0) (fun _ => 0) (fun _ => 0) (fun _ => 0) ) ?_
  unfold wY_init_148
  refine ke_cs (A := fun r => wY_init_171 post z r (ke_cv x 1 4) 0 0 0 (fun _ => 0) (fun _ => 0) (fun _ => 0) (fun _ => 0) (fun _ => 0) (fun _ => 0) (fun _ => 0) (fun _ => 0) (fun _ => 0) (fun _ => 0) (fun _ => 0) (fun _ => 0) (fun _ => 0) (fun _ => 0) (fun _ => 0) (fun _ => 0) ) ?_
  unfold wY_init_171
  exact ke_cs (A := fun r => post (ke_cv x 1 4, ke_cv y 1 4, r, -1, (fun _ => 0), (fun _ => 0), (fun _ => 0), (fun _ => 0), (fun _ => 0), (fun _ => 0), (fun _ => 0), (fun _ => 0), (fun _ => 0), (fun _ => 0), (fun _ => 0), (fun _ => 0), (fun _ => 0), (fun _ => 0), (fun _ => 0), (fun _ => 0))) hp
theorem ke_Xcl {post : Int32 → Prop} {x lo hi : Int32} (h : post (ke_cv x lo hi)) : wpX_clamp post x lo hi := ke_cs (A := post) h
theorem i_vc0 (k0 : Int32) (k1 : Int32) (k2 : Int32) : wpX_init (fun u => wpY_init (fun v => i_Rel 3 u v) k0 k1 k2) k0 k1 k2 := by
  unfold wpX_init
  refine ke_Xcl ?_
  refine ke_Xcl ?_
  refine ke_Xcl ?_
  refine ke_Yin ?_
  exact ke_mk ⟨ke_cv14 k1, ke_Pg_0 _ _ _, ke_N_0 4, ke_N_0 16, ke_N_0 3, fun _ _ => rfl⟩
end
end
section
theorem i_vc_state {k : Nat} {u : SX} {v : SY} (I : i_Rel k u v) (hk : k + 5 ≤ 2563) (v1 : Int32) : wpX_state (fun r => wpY_state (fun r' => r' = r ∧ i_Rel (k + 5) u v) v v1) u v1 := by
  obtain ⟨W, S, R, O, mem, ops, oa, ob, len, st, pc, reg, res, fp, bv, yb, hb, att, ca, co, cn, rfl, rfl, hR⟩ := I
  unfold wpX_state
  rcases ke_ix v1 4 (by decide) with h | ⟨c, hc, rfl⟩
  · refine ke_o3 3 h ?_
    refine br_t rfl ?_
    exact ke_o1 3 h ⟨rfl, ke_mk hR⟩
  · refine ke_co1 hc ?_
    refine br_f (by decide) ⟨ke_i4 hc, ?_⟩
    exact ke_g1 3 hc ⟨ke_i4 hc, ⟨rfl, ke_mk hR⟩⟩
theorem i_vc_pc {k : Nat} {u : SX} {v : SY} (I : i_Rel k u v) (hk : k + 5 ≤ 2563) (v1 : Int32) : wpX_pc (fun r => wpY_pc (fun r' => r' = r ∧ i_Rel (k + 5) u v) v v1) u v1 := by
  obtain ⟨W, S, R, O, mem, ops, oa, ob, len, st, pc, reg, res, fp, bv, yb, hb, att, ca, co, cn, rfl, rfl, hR⟩ := I
  unfold wpX_pc
  rcases ke_ix v1 4 (by decide) with h | ⟨c, hc, rfl⟩
  · refine ke_o3 3 h ?_
    refine br_t rfl ?_
    exact ke_o1 3 h ⟨rfl, ke_mk hR⟩
  · refine ke_co1 hc ?_
    refine br_f (by decide) ⟨ke_i4 hc, ?_⟩
    exact ke_g1 3 hc ⟨ke_i4 hc, ⟨rfl, ke_mk hR⟩⟩
theorem i_vc_attempts {k : Nat} {u : SX} {v : SY} (I : i_Rel k u v) (hk : k + 5 ≤ 2563) (v1 : Int32) : wpX_attempts (fun r => wpY_attempts (fun r' => r' = r ∧ i_Rel (k + 5) u v) v v1) u v1 := by
  obtain ⟨W, S, R, O, mem, ops, oa, ob, len, st, pc, reg, res, fp, bv, yb, hb, att, ca, co, cn, rfl, rfl, hR⟩ := I
  unfold wpX_attempts
  rcases ke_ix v1 4 (by decide) with h | ⟨c, hc, rfl⟩
  · refine ke_o3 3 h ?_
    refine br_t rfl ?_
    exact ke_o1 3 h ⟨rfl, ke_mk hR⟩
  · refine ke_co1 hc ?_
    refine br_f (by decide) ⟨ke_i4 hc, ?_⟩
    exact ke_g1 3 hc ⟨ke_i4 hc, ⟨rfl, ke_mk hR⟩⟩
theorem i_vc_lastCause {k : Nat} {u : SX} {v : SY} (I : i_Rel k u v) (hk : k + 5 ≤ 2563) (v1 : Int32) : wpX_lastCause (fun r => wpY_lastCause (fun r' => r' = r ∧ i_Rel (k + 5) u v) v v1) u v1 := by
  obtain ⟨W, S, R, O, mem, ops, oa, ob, len, st, pc, reg, res, fp, bv, yb, hb, att, ca, co, cn, rfl, rfl, hR⟩ := I
  unfold wpX_lastCause
  rcases ke_ix v1 4 (by decide) with h | ⟨c, hc, rfl⟩
  · refine ke_o3 3 h ?_
    refine br_t rfl ?_
    exact ke_o1 3 h ⟨rfl, ke_mk hR⟩
  · refine ke_co1 hc ?_
    refine br_f (by decide) ⟨ke_i4 hc, ?_⟩
    exact ke_g1 3 hc ⟨ke_i4 hc, ⟨rfl, ke_mk hR⟩⟩
theorem i_vc_abortCode {k : Nat} {u : SX} {v : SY} (I : i_Rel k u v) (hk : k + 5 ≤ 2563) (v1 : Int32) : wpX_abortCode (fun r => wpY_abortCode (fun r' => r' = r ∧ i_Rel (k + 5) u v) v v1) u v1 := by
  obtain ⟨W, S, R, O, mem, ops, oa, ob, len, st, pc, reg, res, fp, bv, yb, hb, att, ca, co, cn, rfl, rfl, hR⟩ := I
  unfold wpX_abortCode
  rcases ke_ix v1 4 (by decide) with h | ⟨c, hc, rfl⟩
  · refine ke_o3 3 h ?_
    refine br_t rfl ?_
    exact ke_o1 3 h ⟨rfl, ke_mk hR⟩
  · refine ke_co1 hc ?_
    refine br_f (by decide) ⟨ke_i4 hc, ?_⟩
    exact ke_g1 3 hc ⟨ke_i4 hc, ⟨rfl, ke_mk hR⟩⟩
theorem i_vc_peek {k : Nat} {u : SX} {v : SY} (I : i_Rel k u v) (hk : k + 5 ≤ 2563) (v1 : Int32) : wpX_peek (fun r => wpY_peek (fun r' => r' = r ∧ i_Rel (k + 5) u v) v v1) u v1 := by
  obtain ⟨W, S, R, O, mem, ops, oa, ob, len, st, pc, reg, res, fp, bv, yb, hb, att, ca, co, cn, rfl, rfl, hR⟩ := I
  unfold wpX_peek
  rcases ke_ix v1 64 (by decide) with h | ⟨c, hc, rfl⟩
  · refine ke_o3 63 h ?_
    refine br_t rfl ?_
    exact ke_o1 63 h ⟨rfl, ke_mk hR⟩
  · refine ke_g3 63 hc ?_
    refine br_f (by decide) ⟨vp_in_nI hc (by decide), ?_⟩
    exact ke_g1 63 hc ⟨vp_in_nI hc (by decide), ⟨rfl, ke_mk hR⟩⟩
theorem i_vc_reg {k : Nat} {u : SX} {v : SY} (I : i_Rel k u v) (hk : k + 5 ≤ 2563) (v1 : Int32) (v2 : Int32) : wpX_reg (fun r => wpY_reg (fun r' => r' = r ∧ i_Rel (k + 5) u v) v v1 v2) u v1 v2 := by
  obtain ⟨W, S, R, O, mem, ops, oa, ob, len, st, pc, reg, res, fp, bv, yb, hb, att, ca, co, cn, rfl, rfl, hR⟩ := I
  unfold wpX_reg
  rcases ke_ix v1 4 (by decide) with h | ⟨c, hc, rfl⟩
  · refine ke_o3 3 h ?_
    refine br_t rfl ?_
    exact ke_o2 3 h ⟨rfl, ke_mk hR⟩
  · refine ke_co1 hc ?_
    refine br_f (by decide) ?_
    rcases ke_ix v2 4 (by decide) with h | ⟨d, hd, rfl⟩
    · refine ke_o3 3 h ?_
      refine br_t rfl ?_
      exact ke_g2 3 hc (ke_o1 3 h ⟨rfl, ke_mk hR⟩)
    · refine ke_g3 3 hd ?_
      refine br_f (by decide) ⟨ke_v4 hc hd, ?_⟩
      exact ke_g2 3 hc (ke_g1 3 hd ⟨ke_v4 hc hd, ⟨rfl, ke_mk hR⟩⟩)
theorem i_vc_result {k : Nat} {u : SX} {v : SY} (I : i_Rel k u v) (hk : k + 5 ≤ 2563) (v1 : Int32) (v2 : Int32) : wpX_result (fun r => wpY_result (fun r' => r' = r ∧ i_Rel (k + 5) u v) v v1 v2) u v1 v2 := by
  obtain ⟨W, S, R, O, mem, ops, oa, ob, len, st, pc, reg, res, fp, bv, yb, hb, att, ca, co, cn, rfl, rfl, hR⟩ := I
  unfold wpX_result
  rcases ke_ix v1 4 (by decide) with h | ⟨c, hc, rfl⟩
  · refine ke_o3 3 h ?_
    refine br_t rfl ?_
    exact ke_o2 3 h ⟨rfl, ke_mk hR⟩
  · refine ke_co1 hc ?_
    refine br_f (by decide) ?_
    rcases ke_ix v2 4 (by decide) with h | ⟨d, hd, rfl⟩
    · refine ke_o3 3 h ?_
      refine br_t rfl ?_
      exact ke_g2 3 hc (ke_o1 3 h ⟨rfl, ke_mk hR⟩)
    · refine ke_g3 3 hd ?_
      refine br_f (by decide) ⟨ke_v4 hc hd, ?_⟩
      exact ke_g2 3 hc (ke_g1 3 hd ⟨ke_v4 hc hd, ⟨rfl, ke_mk hR⟩⟩)
theorem i_vc_count {k : Nat} {u : SX} {v : SY} (I : i_Rel k u v) (hk : k + 5 ≤ 2563) (v1 : Int32) (v2 : Int32) : wpX_count (fun r => wpY_count (fun r' => r' = r ∧ i_Rel (k + 5) u v) v v1 v2) u v1 v2 := by
  obtain ⟨W, S, R, O, mem, ops, oa, ob, len, st, pc, reg, res, fp, bv, yb, hb, att, ca, co, cn, rfl, rfl, hR⟩ := I
  unfold wpX_count
  rcases ke_ix v2 3 (by decide) with h | ⟨d, hd, rfl⟩
  · refine ke_o3 2 h ?_
    rcases ke_ix v1 4 (by decide) with h' | ⟨c, hc, rfl⟩
    · refine ke_o3 3 h' ?_
      refine br_t rfl ?_
      exact ke_o2 3 h' ⟨rfl, ke_mk hR⟩
    · refine ke_g3 3 hc ?_
      refine br_f (by decide) (br_t rfl ?_)
      exact ke_g2 3 hc (ke_o1 2 h ⟨rfl, ke_mk hR⟩)
  · refine ke_g3 2 hd ?_
    rcases ke_ix v1 4 (by decide) with h' | ⟨c, hc, rfl⟩
    · refine ke_o3 3 h' ?_
      refine br_t rfl ?_
      exact ke_o2 3 h' ⟨rfl, ke_mk hR⟩
    · refine ke_g3 3 hc ?_
      refine br_f (by decide) (br_f (by decide) ⟨ke_v3 hc hd, ?_⟩)
      exact ke_g2 3 hc (ke_g1 2 hd ⟨ke_v3 hc hd, ⟨rfl, ke_mk hR⟩⟩)
theorem i_vc_lineState {k : Nat} {u : SX} {v : SY} (I : i_Rel k u v) (hk : k + 5 ≤ 2563) (v1 : Int32) (v2 : Int32) : wpX_lineState (fun r => wpY_lineState (fun r' => r' = r ∧ i_Rel (k + 5) u v) v v1 v2) u v1 v2 := by
  obtain ⟨W, S, R, O, mem, ops, oa, ob, len, st, pc, reg, res, fp, bv, yb, hb, att, ca, co, cn, rfl, rfl, hR⟩ := I
  unfold wpX_lineState
  rcases ke_ix v2 17 (by decide) with h | ⟨d, hd, rfl⟩
  · refine ke_o3 16 h ?_
    rcases ke_ix v1 4 (by decide) with h' | ⟨c, hc, rfl⟩
    · refine ke_o3 3 h' ?_
      refine br_t rfl ?_
      exact ke_o2 3 h' ⟨rfl, ke_mk hR⟩
    · refine ke_g3 3 hc ?_
      refine br_f (by decide) (br_t rfl ?_)
      exact ke_g2 3 hc (ke_o1 16 h ⟨rfl, ke_mk hR⟩)
  · refine ke_g3 16 hd ?_
    rcases ke_ix v1 4 (by decide) with h' | ⟨c, hc, rfl⟩
    · refine ke_o3 3 h' ?_
      refine br_t rfl ?_
      exact ke_o2 3 h' ⟨rfl, ke_mk hR⟩
    · refine ke_g3 3 hc ?_
      refine br_f (by decide) (br_f (by decide) ⟨ke_v17 hc hd, ?_⟩)
      exact ke_g2 3 hc (ke_g1 16 hd ⟨ke_v17 hc hd, ⟨rfl, ke_mk hR⟩⟩)
theorem i_vc_lockOwner {k : Nat} {u : SX} {v : SY} (I : i_Rel k u v) (hk : k + 5 ≤ 2563) : wpX_lockOwner (fun r => wpY_lockOwner (fun r' => r' = r ∧ i_Rel (k + 5) u v) v) u := by
  obtain ⟨W, S, R, O, mem, ops, oa, ob, len, st, pc, reg, res, fp, bv, yb, hb, att, ca, co, cn, rfl, rfl, hR⟩ := I
  exact ⟨rfl, ke_mk hR⟩
end
section
section
variable {W S R O : Int32} {mem ops oa ob len st pc reg res fp bv yb hb att ca co cn : Nat → Int32} {c : Nat}
theorem ke_nOa {o a b : Int32} (h : a < 0 ∨ nI 4 ≤ a) : ¬ ke_Ok o a b := by
  intro z
  obtain ⟨p, q, h1, h2, e1, e2, _⟩ := z
  exact ke_ne h h2 (by decide) e2
theorem ke_nOo {o a b : Int32} (h : o < 0 ∨ nI 9 ≤ o) : ¬ ke_Ok o a b := by
  intro z
  obtain ⟨p, q, h1, h2, e1, e2, _⟩ := z
  exact ke_ne h h1 (by decide) e1
theorem ke_nO1 {p q : Nat} {b : Int32} (hp : p = 1 ∨ p = 2) (h : b < 0 ∨ nI 64 ≤ b) : ¬ ke_Ok (nI p) (nI q) b := by
  intro z
  obtain ⟨m, hm, e⟩ := ke_Ok1 z (by omega) hp
  exact ke_ne h hm (by decide) e
theorem ke_nO3 {p q : Nat} {b : Int32} (hp : p = 3 ∨ p = 5 ∨ p = 6) (h : b < 0 ∨ nI 4 ≤ b) : ¬ ke_Ok (nI p) (nI q) b := by
  intro z
  obtain ⟨m, hm, e⟩ := ke_Ok3 z (by omega) hp
  exact ke_ne h hm (by decide) e
theorem ke_nO8 {q : Nat} {b : Int32} (h : b < 0 ∨ nI 17 ≤ b ∨ b = nI 0) : ¬ ke_Ok (nI 8) (nI q) b := by
  intro z
  obtain ⟨m, hm1, hm, e⟩ := ke_Ok8 z (by omega) rfl
  rcases h with h | h | h
  · exact ke_ne (n := 17) (Or.inl h) (by omega) (by decide) e
  · exact ke_ne (n := 17) (Or.inr h) (by omega) (by decide) e
  · have := (nI_eq (by omega) (by omega)).mp (h.symm.trans e)
    omega
theorem ke_lt1 {b : Int32} (h : b < 0) : b < 1 := by
  apply Int32.lt_iff_toInt_lt.mpr
  have a := Int32.lt_iff_toInt_lt.mp h
  have c0 : (0 : Int32).toInt = 0 := by decide
  have c1 : (1 : Int32).toInt = 1 := by decide
  omega
theorem ke_nlt1 {b : Int32} (h : ¬ b < 0) (h0 : ¬ b = 0) : ¬ b < 1 := by
  intro z
  obtain ⟨j, hj, rfl⟩ := nI_of h
  have := (nI_ltI hj (by decide)).mp (show nI j < nI 1 from z)
  have e : j = 0 := by omega
  subst e
  exact h0 rfl
theorem ke_Xii {post : Int32 → Prop} {o a b : Int32} (h1 : ke_Ok o a b → post 1) (h0 : ¬ ke_Ok o a b → post 0) : wpX_isInstruction post o a b := by
  unfold wpX_isInstruction
  rcases ke_ix a 4 (by decide) with h | ⟨q, hq, rfl⟩
  · refine ke_o3 3 h ?_
    exact br_t rfl (h0 (ke_nOa h))
  refine ke_g3 3 hq ?_
  refine br_f (by decide) ?_
  rcases ke_ix o 9 (by decide) with h | ⟨p, hp, rfl⟩
  · exact ke_o2 8 h (h0 (ke_nOo h))
  have hpp : p = 0 ∨ p = 1 ∨ p = 2 ∨ p = 3 ∨ p = 4 ∨ p = 5 ∨ p = 6 ∨ p = 7 ∨ p = 8 := by omega
  rcases hpp with rfl | rfl | rfl | rfl | rfl | rfl | rfl | rfl | rfl
  · exact br_f (by decide) (br_f (by decide) (br_t rfl (h1 ⟨0, q, by decide, hq, rfl, rfl, (fun z => absurd z (by decide)), (fun z => absurd z (by decide)), (fun z => absurd z (by decide))⟩)))
  · refine br_f (by decide) (br_f (by decide) (br_f (by decide) (br_t rfl (?_))))
    rcases ke_ix b 64 (by decide) with h | ⟨m, hm, rfl⟩
    · exact ke_o3 63 h ⟨rfl, h0 (ke_nO1 (by omega) h)⟩
    · exact ke_g3 63 hm ⟨rfl, h1 ⟨1, q, by decide, hq, rfl, rfl, (fun _ => ⟨m, hm, rfl⟩), (fun z => absurd z (by decide)), (fun z => absurd z (by decide))⟩⟩
  · refine br_f (by decide) (br_f (by decide) (br_f (by decide) (br_f (by decide) (br_t rfl (?_)))))
    rcases ke_ix b 64 (by decide) with h | ⟨m, hm, rfl⟩
    · exact ke_o3 63 h ⟨rfl, h0 (ke_nO1 (by omega) h)⟩
    · exact ke_g3 63 hm ⟨rfl, h1 ⟨2, q, by decide, hq, rfl, rfl, (fun _ => ⟨m, hm, rfl⟩), (fun z => absurd z (by decide)), (fun z => absurd z (by decide))⟩⟩
  · refine br_f (by decide) (br_f (by decide) (br_f (by decide) (br_f (by decide) (br_f (by decide) (br_t rfl (?_))))))
    rcases ke_ix b 4 (by decide) with h | ⟨m, hm, rfl⟩
    · exact ke_o3 3 h ⟨rfl, h0 (ke_nO3 (by omega) h)⟩
    · exact ke_g3 3 hm ⟨rfl, h1 ⟨3, q, by decide, hq, rfl, rfl, (fun z => absurd z (by decide)), (fun _ => ⟨m, hm, rfl⟩), (fun z => absurd z (by decide))⟩⟩
  · exact br_f (by decide) (br_f (by decide) (br_f (by decide) (br_f (by decide) (br_f (by decide) (br_f (by decide) (br_t rfl (h1 ⟨4, q, by decide, hq, rfl, rfl, (fun z => absurd z (by decide)), (fun z => absurd z (by decide)), (fun z => absurd z (by decide))⟩)))))))
  · refine br_f (by decide) (br_f (by decide) (br_f (by decide) (br_f (by decide) (br_f (by decide) (br_f (by decide) (br_f (by decide) (br_t rfl (?_))))))))
    rcases ke_ix b 4 (by decide) with h | ⟨m, hm, rfl⟩
    · exact ke_o3 3 h ⟨rfl, h0 (ke_nO3 (by omega) h)⟩
    · exact ke_g3 3 hm ⟨rfl, h1 ⟨5, q, by decide, hq, rfl, rfl, (fun z => absurd z (by decide)), (fun _ => ⟨m, hm, rfl⟩), (fun z => absurd z (by decide))⟩⟩
  · refine br_f (by decide) (br_f (by decide) (br_f (by decide) (br_f (by decide) (br_f (by decide) (br_f (by decide) (br_f (by decide) (br_f (by decide) (br_t rfl (?_)))))))))
    rcases ke_ix b 4 (by decide) with h | ⟨m, hm, rfl⟩
    · exact ke_o3 3 h ⟨rfl, h0 (ke_nO3 (by omega) h)⟩
    · exact ke_g3 3 hm ⟨rfl, h1 ⟨6, q, by decide, hq, rfl, rfl, (fun z => absurd z (by decide)), (fun _ => ⟨m, hm, rfl⟩), (fun z => absurd z (by decide))⟩⟩
  · exact br_f (by decide) (br_f (by decide) (br_f (by decide) (br_f (by decide) (br_f (by decide) (br_f (by decide) (br_f (by decide) (br_f (by decide) (br_f (by decide) (br_t rfl (h1 ⟨7, q, by decide, hq, rfl, rfl, (fun z => absurd z (by decide)), (fun z => absurd z (by decide)), (fun z => absurd z (by decide))⟩))))))))))
  · refine br_f (by decide) (br_f (by decide) (br_f (by decide) (br_f (by decide) (br_f (by decide) (br_f (by decide) (br_f (by decide) (br_f (by decide) (br_f (by decide) (br_f (by decide) (br_t rfl (?_)))))))))))
    rcases ke_ix b 17 (by decide) with h | ⟨m, hm, rfl⟩
    · rcases h with h | h
      · exact br_t (ke_lt1 h) (h0 (ke_nO8 (Or.inl h)))
      · have hh := ke_hi (n := 16) h (by decide)
        refine br_f (ke_nlt1 hh.1 (fun z => ke_ne (n := 17) (m := 0) (Or.inr h) (by decide) (by decide) z)) ?_
        exact br_t hh.2.2 (h0 (ke_nO8 (Or.inr (Or.inl h))))
    · by_cases z : m = 0
      · subst z
        exact br_t (by decide) (h0 (ke_nO8 (Or.inr (Or.inr rfl))))
      · exact br_f (nI_nlt (b := 1) (by omega) (by omega)) (br_f (nI_nlt (a := 16) (by omega) (by decide)) (h1 ⟨8, q, by decide, hq, rfl, rfl, (fun z => absurd z (by decide)), (fun z => absurd z (by decide)), (fun _ => ⟨m, by omega, by omega, rfl⟩)⟩))
theorem ke_Yap {post : Int32 → SY → Prop} {L : Nat} {o a b : Int32} (hc : c < 4) (hs : st c = 0) (hL : len c = nI L) (hL16 : L < 16) (h1 : ke_Ok o a b → wY_append_132 post (nI c) o a b W S R O mem ops oa ob len st pc reg fp yb hb res att ca co cn) (h0 : ¬ ke_Ok o a b → post (-1) (W, S, R, O, mem, ops, oa, ob, len, st, pc, reg, fp, yb, hb, res, att, ca, co, cn)) : wpY_append post (W, S, R, O, mem, ops, oa, ob, len, st, pc, reg, fp, yb, hb, res, att, ca, co, cn) (nI c) o a b := by
  refine ke_g1 3 hc ⟨ke_i4 hc, br_t (by rw [ke_k4 hc]; exact hs) ⟨ke_i4 hc, br_t (by rw [ke_k4 hc, hL]; exact nI_lt (b := 16) hL16 (by decide)) ?_⟩⟩
  rcases ke_ix o 9 (by decide) with h | ⟨p, hp, rfl⟩
  · exact ke_o1 8 h (h0 (ke_nOo h))
  refine ke_g1 8 hp ?_
  rcases ke_ix a 4 (by decide) with h | ⟨q, hq, rfl⟩
  · exact ke_o1 3 h (h0 (ke_nOa h))
  refine ke_g1 3 hq ?_
  have hpp : p = 0 ∨ p = 1 ∨ p = 2 ∨ p = 3 ∨ p = 4 ∨ p = 5 ∨ p = 6 ∨ p = 7 ∨ p = 8 := by omega
  rcases hpp with rfl | rfl | rfl | rfl | rfl | rfl | rfl | rfl | rfl
  · exact br_f (by decide) (br_f (by decide) (br_f (by decide) (br_f (by decide) (br_f (by decide) (br_f (by decide) (h1 ⟨0, q, by decide, hq, rfl, rfl, (fun z => absurd z (by decide)), (fun z => absurd z (by decide)), (fun z => absurd z (by decide))⟩))))))
  · refine br_t rfl ?_
    rcases ke_ix b 64 (by decide) with h | ⟨m, hm, rfl⟩
    · exact ke_o1 63 h (h0 (ke_nO1 (by omega) h))
    · exact ke_g1 63 hm (br_f (by decide) (br_f (by decide) (br_f (by decide) (br_f (by decide) (h1 ⟨1, q, by decide, hq, rfl, rfl, (fun _ => ⟨m, hm, rfl⟩), (fun z => absurd z (by decide)), (fun z => absurd z (by decide))⟩)))))
  · refine br_f (by decide) (br_t rfl ?_)
    rcases ke_ix b 64 (by decide) with h | ⟨m, hm, rfl⟩
    · exact ke_o1 63 h (h0 (ke_nO1 (by omega) h))
    · exact ke_g1 63 hm (br_f (by decide) (br_f (by decide) (br_f (by decide) (br_f (by decide) (h1 ⟨2, q, by decide, hq, rfl, rfl, (fun _ => ⟨m, hm, rfl⟩), (fun z => absurd z (by decide)), (fun z => absurd z (by decide))⟩)))))
  · refine br_f (by decide) (br_f (by decide) (br_t rfl ?_))
    rcases ke_ix b 4 (by decide) with h | ⟨m, hm, rfl⟩
    · exact ke_o1 3 h (h0 (ke_nO3 (by omega) h))
    · exact ke_g1 3 hm (br_f (by decide) (h1 ⟨3, q, by decide, hq, rfl, rfl, (fun z => absurd z (by decide)), (fun _ => ⟨m, hm, rfl⟩), (fun z => absurd z (by decide))⟩))
  · exact br_f (by decide) (br_f (by decide) (br_f (by decide) (br_f (by decide) (br_f (by decide) (br_f (by decide) (h1 ⟨4, q, by decide, hq, rfl, rfl, (fun z => absurd z (by decide)), (fun z => absurd z (by decide)), (fun z => absurd z (by decide))⟩))))))
  · refine br_f (by decide) (br_f (by decide) (br_f (by decide) (br_t rfl ?_)))
    rcases ke_ix b 4 (by decide) with h | ⟨m, hm, rfl⟩
    · exact ke_o1 3 h (h0 (ke_nO3 (by omega) h))
    · exact ke_g1 3 hm (br_f (by decide) (h1 ⟨5, q, by decide, hq, rfl, rfl, (fun z => absurd z (by decide)), (fun _ => ⟨m, hm, rfl⟩), (fun z => absurd z (by decide))⟩))
  · refine br_f (by decide) (br_f (by decide) (br_f (by decide) (br_f (by decide) (br_t rfl ?_))))
    rcases ke_ix b 4 (by decide) with h | ⟨m, hm, rfl⟩
    · exact ke_o1 3 h (h0 (ke_nO3 (by omega) h))
    · exact ke_g1 3 hm (br_f (by decide) (h1 ⟨6, q, by decide, hq, rfl, rfl, (fun z => absurd z (by decide)), (fun _ => ⟨m, hm, rfl⟩), (fun z => absurd z (by decide))⟩))
  · exact br_f (by decide) (br_f (by decide) (br_f (by decide) (br_f (by decide) (br_f (by decide) (br_f (by decide) (h1 ⟨7, q, by decide, hq, rfl, rfl, (fun z => absurd z (by decide)), (fun z => absurd z (by decide)), (fun z => absurd z (by decide))⟩))))))
  · refine br_f (by decide) (br_f (by decide) (br_f (by decide) (br_f (by decide) (br_f (by decide) (br_t rfl ?_)))))
    rcases ke_ix b 17 (by decide) with h | ⟨m, hm, rfl⟩
    · rcases h with h | h
      · exact br_t (ke_lt1 h) (h0 (ke_nO8 (Or.inl h)))
      · have hh := ke_hi (n := 16) h (by decide)
        refine br_f (ke_nlt1 hh.1 (fun z => ke_ne (n := 17) (m := 0) (Or.inr h) (by decide) (by decide) z)) ?_
        exact br_f hh.2.1 (h0 (ke_nO8 (Or.inr (Or.inl h))))
    · by_cases z : m = 0
      · subst z
        exact br_t (by decide) (h0 (ke_nO8 (Or.inr (Or.inr rfl))))
      · exact br_f (nI_nlt (b := 1) (by omega) (by omega)) (br_t (nI_le (b := 16) (by omega) (by decide)) (h1 ⟨8, q, by decide, hq, rfl, rfl, (fun z => absurd z (by decide)), (fun z => absurd z (by decide)), (fun _ => ⟨m, by omega, by omega, rfl⟩)⟩))
end
theorem i_vc_append {k : Nat} {u : SX} {v : SY} (I : i_Rel k u v) (hk : k + 5 ≤ 2563) (v1 : Int32) (v2 : Int32) (v3 : Int32) (v4 : Int32) : wpX_append (fun r u' => wpY_append (fun r' v' => r' = r ∧ i_Rel (k + 5) u' v') v v1 v2 v3 v4) u v1 v2 v3 v4 := by
  obtain ⟨W, S, R, O, mem, ops, oa, ob, len, st, pc, reg, res, fp, bv, yb, hb, att, ca, co, cn, rfl, rfl, hR⟩ := I
  have hRR := hR
  obtain ⟨hS, hP, hI⟩ := hR
  unfold wpX_append
  rcases ke_ix v1 4 (by decide) with h | ⟨c, hc, rfl⟩
  · refine ke_o3 3 h ?_
    refine br_t rfl ?_
    exact ke_o1 3 h ⟨rfl, ke_mk hRR⟩
  refine ke_co1 hc ?_
  refine br_f (by decide) ⟨ke_i4 hc, ?_⟩
  by_cases hs : st c = 0
  · refine br_t (by rw [ke_k4 hc]; exact hs) ⟨ke_i4 hc, ?_⟩
    obtain ⟨L, hL16, hL, hj⟩ := hP c hc
    refine nm_r (e' := nI L) (by rw [ke_k4 hc]; exact hL) ?_
    by_cases h16 : L < 16
    · refine br_f (nI_ge (b := 16) h16 (by decide)) ?_
      refine ke_Xii (fun hok => ?_) (fun hok => ?_)
      · have hA : vp_in (nI (c * 16 + L)) 64 := vp_in_nI (by omega) (by omega)
        have eA : (nI (c * 16 + L)).toNatClampNeg = c * 16 + L := nI_clamp (by omega)
        refine br_f (by decide) (nm_r (e' := nI (c * 16 + L)) (ke_x16 c L) ?_)
        refine ⟨hA, nm_r (e' := upd ops (c * 16 + L) v2) (by rw [eA]) ⟨hA, nm_r (e' := upd oa (c * 16 + L) v3) (by rw [eA]) ⟨hA, nm_r (e' := upd ob (c * 16 + L) v4) (by rw [eA]) ⟨ke_i4 hc, nm_r (e' := upd len c (nI (L + 1))) (by rw [ke_k4 hc, nI_1]) ?_⟩⟩⟩⟩
        refine ke_Yap hc hs hL h16 (fun _ => ?_) (fun h => absurd hok h)
        refine ⟨ke_i4 hc, nm_r (e' := nI (c * 16 + L)) (by rw [ke_k4 hc, hL, ke_x16]) ⟨hA, nm_r (e' := upd ops (c * 16 + L) v2) (by rw [eA]) ⟨hA, nm_r (e' := upd oa (c * 16 + L) v3) (by rw [eA]) ⟨hA, nm_r (e' := upd ob (c * 16 + L) v4) (by rw [eA]) ⟨ke_i4 hc, ke_i4 hc, nm_r (e' := upd len c (nI (L + 1))) (by rw [ke_k4 hc, hL, nI_1]) ⟨ke_i4 hc, ?_, ?_⟩⟩⟩⟩⟩⟩
        · rw [ke_k4 hc, pk_us, nI_1]
        · exact ke_mk ⟨hS, ke_Pg_app hP hc h16 hL hok, hI⟩
      · refine br_t rfl ?_
        exact ke_Yap hc hs hL h16 (fun h => absurd h hok) (fun _ => ⟨rfl, ke_mk hRR⟩)
    · refine br_t (nI_le (a := 16) (by omega) (by omega)) ?_
      exact ke_g1 3 hc ⟨ke_i4 hc, br_t (by rw [ke_k4 hc]; exact hs) ⟨ke_i4 hc, br_f (by rw [ke_k4 hc, hL]; exact nI_nlt (b := 16) (by omega) (by omega)) ⟨rfl, ke_mk hRR⟩⟩⟩
  · refine br_f (by rw [ke_k4 hc]; exact hs) ?_
    exact ke_g1 3 hc ⟨ke_i4 hc, br_f (by rw [ke_k4 hc]; exact hs) ⟨rfl, ke_mk hRR⟩⟩
theorem i_vc_clearProgram {k : Nat} {u : SX} {v : SY} (I : i_Rel k u v) (hk : k + 5 ≤ 2563) (v1 : Int32) : wpX_clearProgram (fun r u' => wpY_clearProgram (fun r' v' => r' = r ∧ i_Rel (k + 5) u' v') v v1) u v1 := by
  obtain ⟨W, S, R, O, mem, ops, oa, ob, len, st, pc, reg, res, fp, bv, yb, hb, att, ca, co, cn, rfl, rfl, hR⟩ := I
  have hRR := hR
  obtain ⟨hS, hP, hI⟩ := hR
  unfold wpX_clearProgram
  rcases ke_ix v1 4 (by decide) with h | ⟨c, hc, rfl⟩
  · refine ke_o3 3 h ?_
    refine br_t rfl ?_
    exact ke_o2 3 h ⟨rfl, ke_mk hRR⟩
  refine ke_co1 hc ?_
  refine br_f (by decide) ⟨ke_i4 hc, ?_⟩
  by_cases hs : st c = 0
  · refine br_t (by rw [ke_k4 hc]; exact hs) ⟨ke_i4 hc, nm_r (e' := upd len c 0) (by rw [ke_k4 hc]) ?_⟩
    exact ke_g2 3 hc ⟨ke_i4 hc, br_t (by rw [ke_k4 hc]; exact hs) ⟨ke_i4 hc, nm_r (e' := upd len c 0) (by rw [ke_k4 hc]) ⟨rfl, ke_mk ⟨hS, ke_Pg_clear hP c, hI⟩⟩⟩⟩
  · refine br_f (by rw [ke_k4 hc]; exact hs) ?_
    exact ke_g2 3 hc ⟨ke_i4 hc, br_f (by rw [ke_k4 hc]; exact hs) ⟨rfl, ke_mk hRR⟩⟩
section
variable {W S R O : Int32} {mem ops oa ob len st pc reg res fp bv yb hb att ca co cn : Nat → Int32} {c : Nat}
theorem ke_Yen {post : Int32 → SY → Prop} (hc : c < 4) (hp : post 1 (W, S, R, O, mem, ops, oa, ob, len, st, pc, ke_fill reg (c * 4) 4, fp, yb, hb, res, upd att c 0, upd ca c 0, upd co c 0, cn)) : ∀ d i, i + d = 4 → wY_enter_45 post (nI c) W S R O (d + 1) (nI i) mem ops oa ob len st pc (ke_fill reg (c * 4) i) fp yb hb res att ca co cn := by
  intro d
  induction d with
  | zero =>
    intro i hi
    have e : i = 4 := by omega
    subst e
    exact br_t (nI_le (Nat.le_refl 4) (by decide)) ⟨ke_i4 hc, nm_r (e' := upd att c 0) (by rw [ke_k4 hc]) ⟨ke_i4 hc, nm_r (e' := upd ca c 0) (by rw [ke_k4 hc]) ⟨ke_i4 hc, nm_r (e' := upd co c 0) (by rw [ke_k4 hc]) hp⟩⟩⟩
  | succ d ih =>
    intro i hi
    refine br_f (nI_ge (b := 4) (by omega) (by decide)) ⟨ke_v4 hc (by omega), nm_r (e' := ke_fill reg (c * 4) (i + 1)) ?_ (nm_r (nI_1 i) ?_)⟩
    · rw [ke_c4 hc (by omega)]; rfl
    · exact ih (i + 1) (by omega)
theorem ke_Xru {post : Int32 → Prop} : ∀ e i, i + e = 4 → ((∃ d, i ≤ d ∧ d < 4 ∧ (st d = 2 ∨ st d = 4)) → post 1) → ((∀ d, i ≤ d → d < 4 → ¬ st d = 2 ∧ ¬ st d = 4) → post 0) → wX_isAnyRunning_2 post W S R O mem ops oa ob len st pc reg res fp bv hb att ca co cn (e + 1) (nI i) := by
  intro e
  induction e with
  | zero =>
    intro i hi h1 h0
    have e : i = 4 := by omega
    subst e
    exact br_t (nI_le (Nat.le_refl 4) (by decide)) (h0 (fun d a b => absurd b (by omega)))
  | succ e ih =>
    intro i hi h1 h0
    have hi4 : i < 4 := by omega
    refine br_f (nI_ge (b := 4) (by omega) (by decide)) ⟨ke_i4 hi4, ?_⟩
    by_cases z2 : st i = 2
    · exact br_t (by rw [ke_k4 hi4]; exact z2) (h1 ⟨i, Nat.le_refl _, hi4, Or.inl z2⟩)
    · refine br_f (by rw [ke_k4 hi4]; exact z2) ⟨ke_i4 hi4, ?_⟩
      by_cases z4 : st i = 4
      · exact br_t (by rw [ke_k4 hi4]; exact z4) (h1 ⟨i, Nat.le_refl _, hi4, Or.inr z4⟩)
      · refine br_f (by rw [ke_k4 hi4]; exact z4) (nm_r (nI_1 i) (ih (i + 1) (by omega) (fun h => ?_) (fun h => ?_)))
        · obtain ⟨d, a, b, x⟩ := h
          exact h1 ⟨d, by omega, b, x⟩
        · apply h0
          intro d a b
          by_cases e : d = i
          · subst e; exact ⟨z2, z4⟩
          · exact h d (by omega) b
theorem ke_Yru {post : Int32 → SY → Prop} {a : Nat} {x : Int32} (ha : a < 64) : ∀ e i, i + e = 4 → ((∃ d, i ≤ d ∧ d < 4 ∧ (st d = 2 ∨ st d = 4)) → post 0 (W, S, R, O, mem, ops, oa, ob, len, st, pc, reg, fp, yb, hb, res, att, ca, co, cn)) → ((∀ d, i ≤ d → d < 4 → ¬ st d = 2 ∧ ¬ st d = 4) → post 1 (W, S, R, O, upd mem a x, ops, oa, ob, len, st, pc, reg, fp, yb, hb, res, att, ca, co, cn)) → wY_poke_14 post (nI a) x W S R O mem ops oa ob len st pc reg fp yb hb res att ca co cn (e + 1) (nI i) := by
  intro e
  induction e with
  | zero =>
    intro i hi h1 h0
    have e : i = 4 := by omega
    subst e
    exact br_t (nI_le (Nat.le_refl 4) (by decide)) ⟨vp_in_nI ha (by decide), nm_r (e' := upd mem a x) (by rw [nI_clamp (by omega)]) (h0 (fun d a b => absurd b (by omega)))⟩
  | succ e ih =>
    intro i hi h1 h0
    have hi4 : i < 4 := by omega
    refine br_f (nI_ge (b := 4) (by omega) (by decide)) ⟨ke_i4 hi4, ?_⟩
    by_cases z2 : st i = 2
    · exact br_t (by rw [ke_k4 hi4]; exact z2) (h1 ⟨i, Nat.le_refl _, hi4, Or.inl z2⟩)
    · refine br_f (by rw [ke_k4 hi4]; exact z2) ⟨ke_i4 hi4, ?_⟩
      by_cases z4 : st i = 4
      · exact br_t (by rw [ke_k4 hi4]; exact z4) (h1 ⟨i, Nat.le_refl _, hi4, Or.inr z4⟩)
      · refine br_f (by rw [ke_k4 hi4]; exact z4) (nm_r (nI_1 i) (ih (i + 1) (by omega) (fun h => ?_) (fun h => ?_)))
        · obtain ⟨d, a, b, x⟩ := h
          exact h1 ⟨d, by omega, b, x⟩
        · apply h0
          intro d a b
          by_cases e : d = i
          · subst e; exact ⟨z2, z4⟩
          · exact h d (by omega) b
end
theorem i_vc_enter {k : Nat} {u : SX} {v : SY} (I : i_Rel k u v) (hk : k + 5 ≤ 2563) (v1 : Int32) : wpX_enter (fun r u' => wpY_enter (fun r' v' => r' = r ∧ i_Rel (k + 5) u' v') v v1) u v1 := by
  obtain ⟨W, S, R, O, mem, ops, oa, ob, len, st, pc, reg, res, fp, bv, yb, hb, att, ca, co, cn, rfl, rfl, hR⟩ := I
  have hRR := hR
  obtain ⟨hS, hP, h4, h16, h3, hag⟩ := hR
  unfold wpX_enter
  rcases ke_ix v1 4 (by decide) with h | ⟨c, hc, rfl⟩
  · refine ke_o3 3 h ?_
    refine br_t rfl ?_
    exact ke_o2 3 h ⟨rfl, ke_mk hRR⟩
  refine ke_co1 hc ?_
  refine br_f (by decide) ⟨ke_i4 hc, ?_⟩
  by_cases hs : st c = 0
  · refine br_t (by rw [ke_k4 hc]; exact hs) ⟨ke_i4 hc, ?_⟩
    by_cases hl : len c = 0
    · refine br_t (by rw [ke_k4 hc]; exact hl) ?_
      exact ke_g2 3 hc ⟨ke_i4 hc, br_t (by rw [ke_k4 hc]; exact hs) ⟨ke_i4 hc, br_t (by rw [ke_k4 hc]; exact hl) ⟨rfl, ke_mk hRR⟩⟩⟩
    · refine br_f (by rw [ke_k4 hc]; exact hl) ⟨ke_i4 hc, nm_r (e' := upd st c 1) (by rw [ke_k4 hc]) ?_⟩
      refine ke_Xrs hc ?_
      refine ⟨ke_i4 hc, nm_r (e' := upd att c 0) (by rw [ke_k4 hc]) ⟨ke_i4 hc, nm_r (e' := upd ca c 0) (by rw [ke_k4 hc]) ⟨ke_i4 hc, nm_r (e' := upd co c 0) (by rw [ke_k4 hc]) ?_⟩⟩⟩
      refine ke_g2 3 hc ⟨ke_i4 hc, br_t (by rw [ke_k4 hc]; exact hs) ⟨ke_i4 hc, br_f (by rw [ke_k4 hc]; exact hl) ⟨ke_i4 hc, nm_r (e' := upd st c 1) (by rw [ke_k4 hc]) ⟨ke_i4 hc, nm_r (e' := upd pc c 0) (by rw [ke_k4 hc]) ⟨5, ?_⟩⟩⟩⟩⟩
      refine ke_Yen hc ?_ 4 0 rfl
      exact ⟨rfl, ke_mk ⟨hS, hP, ke_N_upd (p := 1) h4 (by omega) rfl, ke_N_upd (p := 0) h16 (by omega) rfl, h3, hag⟩⟩
  · refine br_f (by rw [ke_k4 hc]; exact hs) ?_
    exact ke_g2 3 hc ⟨ke_i4 hc, br_f (by rw [ke_k4 hc]; exact hs) ⟨rfl, ke_mk hRR⟩⟩
theorem i_vc_poke {k : Nat} {u : SX} {v : SY} (I : i_Rel k u v) (hk : k + 5 ≤ 2563) (v1 : Int32) (v2 : Int32) : wpX_poke (fun r u' => wpY_poke (fun r' v' => r' = r ∧ i_Rel (k + 5) u' v') v v1 v2) u v1 v2 := by
  obtain ⟨W, S, R, O, mem, ops, oa, ob, len, st, pc, reg, res, fp, bv, yb, hb, att, ca, co, cn, rfl, rfl, hR⟩ := I
  have hRR := hR
  obtain ⟨hS, hP, hI⟩ := hR
  unfold wpX_poke
  rcases ke_ix v1 64 (by decide) with h | ⟨a, ha, rfl⟩
  · refine ke_o3 63 h ?_
    refine br_t rfl ?_
    exact ke_o1 63 h ⟨rfl, ke_mk hRR⟩
  refine ke_g3 63 ha ?_
  refine br_f (by decide) ⟨5, ?_⟩
  refine ke_Xru 4 0 rfl (fun h => ?_) (fun h => ?_)
  · refine br_f (by decide) ?_
    refine ke_g1 63 ha ⟨5, ?_⟩
    refine ke_Yru ha 4 0 rfl (fun _ => ⟨rfl, ke_mk hRR⟩) (fun z => ?_)
    obtain ⟨d, h1, h2, h3⟩ := h
    rcases h3 with h3 | h3
    · exact absurd h3 (z d h1 h2).1
    · exact absurd h3 (z d h1 h2).2
  · refine br_t rfl ⟨vp_in_nI ha (by decide), nm_r (e' := upd mem a v2) (by rw [nI_clamp (by omega)]) ?_⟩
    refine ke_g1 63 ha ⟨5, ?_⟩
    refine ke_Yru ha 4 0 rfl (fun z => ?_) (fun _ => ⟨rfl, ke_mk ⟨hS, hP, hI⟩⟩)
    obtain ⟨d, h1, h2, h3⟩ := z
    rcases h3 with h3 | h3
    · exact absurd h3 (h d h1 h2).1
    · exact absurd h3 (h d h1 h2).2
end
section
theorem ke_xp_le {p q : Nat} {b : Int32} {c L i : Nat} {reg : ke_F} (hok : ke_Ok (nI p) (nI q) b) (hp9 : p < 9) (hiL : i < L) : ke_xp p q b c L i reg ≤ L := by
  unfold ke_xp
  split
  · rename_i z
    split <;> omega
  · omega
theorem ke_or1 {x : Int32} {n : Nat} (hn : n ≤ 3) (hx : x = nI n) : ∃ p, p ≤ 3 ∧ x ||| 1 = nI p := by
  have : n = 0 ∨ n = 1 ∨ n = 2 ∨ n = 3 := by omega
  rcases this with e | e | e | e <;> subst e <;> subst hx
  · exact ⟨1, by decide, by decide⟩
  · exact ⟨1, by decide, by decide⟩
  · exact ⟨3, by decide, by decide⟩
  · exact ⟨3, by decide, by decide⟩
theorem ke_or2 {x : Int32} {n : Nat} (hn : n ≤ 3) (hx : x = nI n) : ∃ p, p ≤ 3 ∧ x ||| 2 = nI p := by
  have : n = 0 ∨ n = 1 ∨ n = 2 ∨ n = 3 := by omega
  rcases this with e | e | e | e <;> subst e <;> subst hx
  · exact ⟨2, by decide, by decide⟩
  · exact ⟨3, by decide, by decide⟩
  · exact ⟨2, by decide, by decide⟩
  · exact ⟨3, by decide, by decide⟩
theorem ke_I_ld {bv : ke_F} {u : ke_T} {c l i k : Nat} {v : Int32} (h : ke_I bv u) (hi : u.2.1 c = nI i) (hi16 : i < 16) : ke_I bv (u.1, upd u.2.1 c (u.2.1 c + 1), upd u.2.2.1 k v, upd u.2.2.2.1 l (u.2.2.2.1 l ||| 1), u.2.2.2.2) := by
  obtain ⟨h1, h2, h3, h4⟩ := h
  obtain ⟨n, hn, en⟩ := h3 l
  obtain ⟨p, hp, ep⟩ := ke_or1 hn en
  exact ⟨h1, ke_N_upd (p := i + 1) h2 (by omega) (by rw [hi, nI_1]), ke_N_upd h3 hp ep, h4⟩
theorem ke_I_sr {bv : ke_F} {u : ke_T} {c l i k : Nat} {v : Int32} (h : ke_I bv u) (hi : u.2.1 c = nI i) (hi16 : i < 16) : ke_I (upd bv k v) (u.1, upd u.2.1 c (u.2.1 c + 1), u.2.2.1, upd u.2.2.2.1 l (u.2.2.2.1 l ||| 2), upd u.2.2.2.2.1 k 1, u.2.2.2.2.2.1, u.2.2.2.2.2.2.1, u.2.2.2.2.2.2.2.1, u.2.2.2.2.2.2.2.2.1, upd u.2.2.2.2.2.2.2.2.2 k v) := by
  obtain ⟨h1, h2, h3, h4⟩ := h
  obtain ⟨n, hn, en⟩ := h3 l
  obtain ⟨p, hp, ep⟩ := ke_or2 hn en
  refine ⟨h1, ke_N_upd (p := i + 1) h2 (by omega) (by rw [hi, nI_1]), ke_N_upd h3 hp ep, ?_⟩
  intro j hj
  by_cases e : j = k
  · subst e
    show upd bv j v j = upd _ j v j
    rw [pk_us, pk_us]
  · have e1 : upd u.2.2.2.2.1 k 1 j = u.2.2.2.2.1 j := pk_un e
    show upd bv k v j = upd _ k v j
    rw [pk_un e, pk_un e]
    exact h4 j (by rw [← e1]; exact hj)
theorem ke_step {k : Nat} {W S R O : Int32} {mem ops oa ob len st pc reg res fp bv yb hb att ca co cn : Nat → Int32} {c : Nat} (hc : c < 4) (hR : ke_R S ops oa ob len bv (st, pc, reg, fp, hb, att, ca, co, cn, yb)) : wpX_step (fun r u' => wpY_step (fun r' v' => r' = r ∧ i_Rel (k + 5) u' v') (W, S, R, O, mem, ops, oa, ob, len, st, pc, reg, fp, yb, hb, res, att, ca, co, cn) (nI c)) (W, S, R, O, mem, ops, oa, ob, len, st, pc, reg, res, fp, bv, hb, att, ca, co, cn) (nI c) := by
  have hRR := hR
  obtain ⟨hS, hP, hI⟩ := hR
  have hII := hI
  obtain ⟨h4, h16, h3, hag⟩ := hI
  obtain ⟨q, hq, hs⟩ := h4 c
  obtain ⟨i, hi16, hi⟩ := h16 c
  obtain ⟨L, hL16, hL, hj⟩ := hP c hc
  have hs : st c = nI q := hs
  have hi : pc c = nI i := hi
  have hqq : q = 0 ∨ q = 1 ∨ q = 3 ∨ q = 2 ∨ q = 4 := by omega
  rcases hqq with rfl | rfl | rfl | rfl | rfl
  · exact ke_T0 hc hs (ke_U0 hc hs ⟨rfl, ke_mk hRR⟩)
  · by_cases hO : O = -1
    · exact ke_T1 hc hs hO (ke_U1 hc hs hO ⟨rfl, ke_mk ⟨hS, hP, ke_N_upd (p := 2) h4 (by omega) rfl, ke_N_upd (p := 0) h16 (by omega) rfl, ke_N_upd (p := 1) (ke_N_fill h3 _ _) (by omega) rfl, ke_fill_agree hag _ _⟩⟩)
    · exact ke_T1b hc hs hO (ke_U1b hc hs hO ⟨rfl, ke_mk hRR⟩)
  · by_cases hO : O = -1
    · have hA := ke_acq_I hII R 4
      refine ke_T3 (yb := yb) hc hs hO (ke_U3 hc hs hO ⟨rfl, ?_⟩)
      generalize ke_acq R (st, pc, reg, fp, hb, att, ca, co, cn, yb) 4 = u at hA ⊢
      obtain ⟨a1, a2, a3, a4⟩ := hA
      exact ke_mk ⟨hS, hP, ke_N_upd (p := 4) a1 (by omega) rfl, ke_N_upd (p := 0) a2 (by omega) rfl, a3, a4⟩
    · exact ke_T3b hc hs hO (ke_U3b hc hs hO ⟨rfl, ke_mk hRR⟩)
  · by_cases hiL : i < L
    · have hok := hj i hiL
      have hok2 := hok
      obtain ⟨p, q, hp9, hq4, ho, eq, _⟩ := hok2
      rw [ho, eq] at hok
      by_cases hp7 : p = 7
      · exact ke_T27 hc ho eq rfl hi hL hL16 hiL hok hp9 hq4 hs hp7 (ke_U27 hc ho eq rfl hi hL hL16 hiL hok hp9 hq4 hs hp7 ⟨rfl, ke_mk ⟨hS, hP, ke_ab_I hII R c 3 _⟩⟩)
      by_cases hpl : p = 1 ∨ p = 5
      · obtain ⟨d, hd1, hd4, eS⟩ := hS
        by_cases hov : ke_ov W d fp c (ke_ad p (ob (c * 16 + i)) c reg / 4)
        · exact ke_T2ol hc ho eq rfl hi hL hL16 hiL hok hp9 hq4 hs hpl eS hd1 hd4 rfl rfl hov (ke_U2lo hc ho eq rfl hi hL hL16 hiL hok hp9 hq4 hs hpl eS hd1 hd4 rfl rfl hov ⟨rfl, ke_mk ⟨⟨d, hd1, hd4, eS⟩, hP, ke_ab_I hII R c 2 0⟩⟩)
        · have hC := ke_con_I hII R (ke_ad p (ob (c * 16 + i)) c reg / 4) 2 c 4
          have hpc : (ke_con R (ke_ad p (ob (c * 16 + i)) c reg / 4) 2 c (st, pc, reg, fp, hb, att, ca, co, cn, yb) 4).2.1 c = nI i := (ke_con_pc R _ 2 c (st, pc, reg, fp, hb, att, ca, co, cn, yb) 4).trans hi
          refine ke_T2l (yb := yb) hc ho eq rfl hi hL hL16 hiL hok hp9 hq4 hs hpl eS hd1 hd4 rfl rfl hov (ke_U2l hc ho eq rfl hi hL hL16 hiL hok hp9 hq4 hs hpl eS hd1 hd4 rfl rfl hov ⟨rfl, ?_⟩)
          generalize ke_con R (ke_ad p (ob (c * 16 + i)) c reg / 4) 2 c (st, pc, reg, fp, hb, att, ca, co, cn, yb) 4 = u at hC hpc ⊢
          have e : (if u.2.2.2.2.1 (c * 64 + ke_ad p (ob (c * 16 + i)) c reg) = 0 then mem (ke_ad p (ob (c * 16 + i)) c reg) else u.2.2.2.2.2.2.2.2.2 (c * 64 + ke_ad p (ob (c * 16 + i)) c reg)) = (if u.2.2.2.2.1 (c * 64 + ke_ad p (ob (c * 16 + i)) c reg) = 0 then mem (ke_ad p (ob (c * 16 + i)) c reg) else bv (c * 64 + ke_ad p (ob (c * 16 + i)) c reg)) := by
            split
            · rfl
            · rename_i z
              exact (hC.2.2.2 _ z).symm
          rw [e]
          exact ke_mk ⟨⟨d, hd1, hd4, eS⟩, hP, ke_I_ld hC hpc (by omega)⟩
      by_cases hps : p = 2 ∨ p = 6
      · obtain ⟨d, hd1, hd4, eS⟩ := hS
        by_cases hov : ke_ov W d fp c (ke_ad p (ob (c * 16 + i)) c reg / 4)
        · exact ke_T2os hc ho eq rfl hi hL hL16 hiL hok hp9 hq4 hs hps eS hd1 hd4 rfl rfl hov (ke_U2so hc ho eq rfl hi hL hL16 hiL hok hp9 hq4 hs hps eS hd1 hd4 rfl rfl hov ⟨rfl, ke_mk ⟨⟨d, hd1, hd4, eS⟩, hP, ke_ab_I hII R c 2 0⟩⟩)
        · have hC := ke_con_I hII R (ke_ad p (ob (c * 16 + i)) c reg / 4) 3 c 4
          have hpc : (ke_con R (ke_ad p (ob (c * 16 + i)) c reg / 4) 3 c (st, pc, reg, fp, hb, att, ca, co, cn, yb) 4).2.1 c = nI i := (ke_con_pc R _ 3 c (st, pc, reg, fp, hb, att, ca, co, cn, yb) 4).trans hi
          refine ke_T2s (yb := yb) hc ho eq rfl hi hL hL16 hiL hok hp9 hq4 hs hps eS hd1 hd4 rfl rfl hov (ke_U2s hc ho eq rfl hi hL hL16 hiL hok hp9 hq4 hs hps eS hd1 hd4 rfl rfl hII hov ⟨rfl, ?_⟩)
          generalize ke_con R (ke_ad p (ob (c * 16 + i)) c reg / 4) 3 c (st, pc, reg, fp, hb, att, ca, co, cn, yb) 4 = u at hC hpc ⊢
          exact ke_mk ⟨⟨d, hd1, hd4, eS⟩, hP, ke_I_sr hC hpc (by omega)⟩
      exact ke_T2x hc ho eq rfl hi hL hL16 hiL hok hp9 hq4 hs (by omega) (ke_U2x hc ho eq rfl hi hL hL16 hiL hok hp9 hq4 hs (by omega) ⟨rfl, ke_mk ⟨hS, hP, h4, ke_N_upd h16 (Nat.le_trans (ke_xp_le hok hp9 hiL) hL16) rfl, h3, hag⟩⟩)
    · have hl : ¬ pc c < len c := by rw [hi, hL]; exact nI_nlt (by omega) (by omega)
      refine ke_T2e hc hs hl (ke_U2e hc hs hl ⟨rfl, ?_⟩)
      rw [← ke_mrg_agree hag]
      exact ke_mk ⟨hS, hP, ke_N_upd (p := 0) h4 (by omega) rfl, h16, ke_N_fill h3 _ _, ke_fill_agree hag _ _⟩
  · by_cases hiL : i < L
    · have hok := hj i hiL
      have hok2 := hok
      obtain ⟨p, q, hp9, hq4, ho, eq, _⟩ := hok2
      rw [ho, eq] at hok
      by_cases hpl : p = 1 ∨ p = 5
      · exact ke_T4l hc ho eq rfl hi hL hL16 hiL hok hp9 hq4 hs hpl (ke_U4l hc ho eq rfl hi hL hL16 hiL hok hp9 hq4 hs hpl ⟨rfl, ke_mk ⟨hS, hP, h4, ke_N_upd (p := i + 1) h16 (by omega) (by rw [hi, nI_1]), h3, hag⟩⟩)
      by_cases hps : p = 2 ∨ p = 6
      · exact ke_T4s hc ho eq rfl hi hL hL16 hiL hok hp9 hq4 hs hps (ke_U4s hc ho eq rfl hi hL hL16 hiL hok hp9 hq4 hs hps ⟨rfl, ke_mk ⟨hS, hP, h4, ke_N_upd (p := i + 1) h16 (by omega) (by rw [hi, nI_1]), h3, hag⟩⟩)
      exact ke_T4x hc ho eq rfl hi hL hL16 hiL hok hp9 hq4 hs (by omega) (ke_U4x hc ho eq rfl hi hL hL16 hiL hok hp9 hq4 hs (by omega) ⟨rfl, ke_mk ⟨hS, hP, h4, ke_N_upd h16 (Nat.le_trans (ke_xp_le hok hp9 hiL) hL16) rfl, h3, hag⟩⟩)
    · have hl : ¬ pc c < len c := by rw [hi, hL]; exact nI_nlt (by omega) (by omega)
      exact ke_T4e hc hs hl (ke_U4e hc hs hl ⟨rfl, ke_mk ⟨hS, hP, ke_N_upd (p := 0) h4 (by omega) rfl, h16, h3, hag⟩⟩)
end
section
theorem i_vc_step {k : Nat} {u : SX} {v : SY} (I : i_Rel k u v) (hk : k + 5 ≤ 2563) (v1 : Int32) : wpX_step (fun r u' => wpY_step (fun r' v' => r' = r ∧ i_Rel (k + 5) u' v') v v1) u v1 := by
  obtain ⟨W, S, R, O, mem, ops, oa, ob, len, st, pc, reg, res, fp, bv, yb, hb, att, ca, co, cn, rfl, rfl, hR⟩ := I
  rcases ke_ix v1 4 (by decide) with h | ⟨c, hc, rfl⟩
  · unfold wpX_step
    refine ke_o3 3 h ?_
    refine br_t rfl ?_
    exact ke_o1 3 h ⟨rfl, ke_mk hR⟩
  · exact ke_step hc hR
end
