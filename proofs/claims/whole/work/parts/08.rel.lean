/-! the ends of ranges -/
theorem ke_ne {x : Int32} {n m : Nat} (h : x < 0 ∨ nI n ≤ x) (hm : m < n) (hn : n < 2 ^ 31) : ¬ x = nI m := by
  intro e
  subst e
  rcases h with h | h
  · exact nI_pos (by omega) h
  · exact nI_ge hm hn h
theorem ke_hi {x : Int32} {n : Nat} (h : nI (n + 1) ≤ x) (hn : n + 1 < 2 ^ 31) : ¬ x < 0 ∧ ¬ x ≤ nI n ∧ nI n < x := by
  have h1 : (nI (n + 1)).toInt = ((n + 1 : Nat) : Int) := nI_toInt hn
  have h2 : (nI n).toInt = (n : Int) := nI_toInt (by omega)
  have h3 : (nI (n + 1)).toInt ≤ x.toInt := Int32.le_iff_toInt_le.mp h
  have h0 : (0 : Int32).toInt = 0 := by decide
  refine ⟨fun z => ?_, fun z => ?_, ?_⟩
  · have := Int32.lt_iff_toInt_lt.mp z
    omega
  · have := Int32.le_iff_toInt_le.mp z
    omega
  · apply Int32.lt_iff_toInt_lt.mpr
    omega
theorem ke_o1 {P A : Prop} {x y : Int32} (k : Nat) (hx : x < 0 ∨ nI (k + 1) ≤ x) (h : P) (hk : k + 1 < 2 ^ 31 := by omega) (hy : y = nI k := by rfl) : (x < 0 → P) ∧ (¬ x < 0 → ((x ≤ y → A) ∧ (¬ x ≤ y → P))) := by
  subst hy
  rcases hx with hx | hx
  · exact br_t hx h
  · exact br_f (ke_hi hx hk).1 (br_f (ke_hi hx hk).2.1 h)
theorem ke_o2 {P A : Prop} {x y : Int32} (k : Nat) (hx : x < 0 ∨ nI (k + 1) ≤ x) (h : P) (hk : k + 1 < 2 ^ 31 := by omega) (hy : y = nI k := by rfl) : (x < 0 → P) ∧ (¬ x < 0 → ((y < x → P) ∧ (¬ y < x → A))) := by
  subst hy
  rcases hx with hx | hx
  · exact br_t hx h
  · exact br_f (ke_hi hx hk).1 (br_t (ke_hi hx hk).2.2 h)
theorem ke_o3 {P A : Prop} {x y : Int32} (k : Nat) (hx : x < 0 ∨ nI (k + 1) ≤ x) (h : P) (hk : k + 1 < 2 ^ 31 := by omega) (hy : y = nI (k + 1) := by rfl) : (x < 0 → P) ∧ (¬ x < 0 → ((y ≤ x → P) ∧ (¬ y ≤ x → A))) := by
  subst hy
  rcases hx with hx | hx
  · exact br_t hx h
  · exact br_f (ke_hi hx hk).1 (br_t hx h)
theorem ke_g1 {P Q A : Prop} {y : Int32} (k : Nat) {c : Nat} (hc : c < k + 1) (h : A) (hk : k + 1 < 2 ^ 31 := by omega) (hy : y = nI k := by rfl) : (nI c < 0 → P) ∧ (¬ nI c < 0 → ((nI c ≤ y → A) ∧ (¬ nI c ≤ y → Q))) := by
  subst hy
  exact br_f (nI_pos (by omega)) (br_t (nI_le (by omega) (by omega)) h)
theorem ke_g2 {P Q A : Prop} {y : Int32} (k : Nat) {c : Nat} (hc : c < k + 1) (h : A) (hk : k + 1 < 2 ^ 31 := by omega) (hy : y = nI k := by rfl) : (nI c < 0 → P) ∧ (¬ nI c < 0 → ((y < nI c → Q) ∧ (¬ y < nI c → A))) := by
  subst hy
  exact br_f (nI_pos (by omega)) (br_f (nI_nlt (by omega) (by omega)) h)
theorem ke_g3 {P Q A : Prop} {y : Int32} (k : Nat) {c : Nat} (hc : c < k + 1) (h : A) (hk : k + 1 < 2 ^ 31 := by omega) (hy : y = nI (k + 1) := by rfl) : (nI c < 0 → P) ∧ (¬ nI c < 0 → ((y ≤ nI c → Q) ∧ (¬ y ≤ nI c → A))) := by
  subst hy
  exact br_f (nI_pos (by omega)) (br_f (nI_ge hc hk) h)
theorem ke_ix (x : Int32) (n : Nat) (hn : n < 2 ^ 31) : (x < 0 ∨ nI n ≤ x) ∨ ∃ j : Nat, j < n ∧ x = nI j := by
  rcases pk_ix x hn with h | h | h
  · exact Or.inl (Or.inl h)
  · exact Or.inl (Or.inr h)
  · exact Or.inr h
section
variable {W S R O : Int32} {mem ops oa ob len st pc reg res fp bv yb hb att ca co cn : Nat → Int32} {c : Nat}
def ke_R (S : Int32) (ops oa ob len bv : ke_F) (t : ke_T) : Prop := (∃ d, 1 ≤ d ∧ d ≤ 4 ∧ S = nI d) ∧ ke_Pg ops oa ob len ∧ ke_I bv t
/-- the two states hold the same, but for the buffered values, which agree where a word is buffered -/
def i_Rel (_ : Nat) (u : SX) (v : SY) : Prop := ∃ (W S R O : Int32) (mem ops oa ob len st pc reg res fp bv yb hb att ca co cn : Nat → Int32), u = (W, S, R, O, mem, ops, oa, ob, len, st, pc, reg, res, fp, bv, hb, att, ca, co, cn) ∧ v = (W, S, R, O, mem, ops, oa, ob, len, st, pc, reg, fp, yb, hb, res, att, ca, co, cn) ∧ ke_R S ops oa ob len bv (st, pc, reg, fp, hb, att, ca, co, cn, yb)
theorem i_up {k : Nat} {u : SX} {v : SY} (h : i_Rel k u v) : i_Rel (k + 5) u v := h
theorem ke_mk {k : Nat} (h : ke_R S ops oa ob len bv (st, pc, reg, fp, hb, att, ca, co, cn, yb)) : i_Rel k (W, S, R, O, mem, ops, oa, ob, len, st, pc, reg, res, fp, bv, hb, att, ca, co, cn) (W, S, R, O, mem, ops, oa, ob, len, st, pc, reg, fp, yb, hb, res, att, ca, co, cn) := ⟨W, S, R, O, mem, ops, oa, ob, len, st, pc, reg, res, fp, bv, yb, hb, att, ca, co, cn, rfl, rfl, h⟩
def ke_cv (x lo hi : Int32) : Int32 := if lo ≤ x then (if x ≤ hi then x else hi) else lo
theorem ke_cs {A : Int32 → Prop} {x lo hi : Int32} (h : A (ke_cv x lo hi)) : (lo ≤ x → ((x ≤ hi → A x) ∧ (¬ x ≤ hi → A hi))) ∧ (¬ lo ≤ x → A lo) := by
  unfold ke_cv at h
  by_cases h1 : lo ≤ x
  · rw [if_pos h1] at h
    by_cases h2 : x ≤ hi
    · rw [if_pos h2] at h
      exact br_t h1 (br_t h2 h)
    · rw [if_neg h2] at h
      exact br_t h1 (br_f h2 h)
  · rw [if_neg h1] at h
    exact br_f h1 h
theorem ke_cv14 (x : Int32) : ∃ d, 1 ≤ d ∧ d ≤ 4 ∧ ke_cv x 1 4 = nI d := by
  unfold ke_cv
  by_cases h1 : (1 : Int32) ≤ x
  · rw [if_pos h1]
    by_cases h2 : x ≤ 4
    · rw [if_pos h2]
      rcases ke_ix x 5 (by decide) with h | ⟨j, hj, rfl⟩
      · exfalso
        rcases h with h | h
        · have a := Int32.lt_iff_toInt_lt.mp h
          have b := Int32.le_iff_toInt_le.mp h1
          have c0 : (0 : Int32).toInt = 0 := by decide
          have c1 : (1 : Int32).toInt = 1 := by decide
          omega
        · exact (ke_hi (n := 4) h (by decide)).2.1 h2
      · refine ⟨j, ?_, by omega, rfl⟩
        by_cases hz : j = 0
        · subst hz; exact absurd h1 (by decide)
        · omega
    · rw [if_neg h2]; exact ⟨4, by omega, by omega, rfl⟩
  · rw [if_neg h1]; exact ⟨1, by omega, by omega, rfl⟩
theorem ke_Yin {post : SY → Prop} {x y z : Int32} (hp : post (ke_cv x 1 4, ke_cv y 1 4, ke_cv z 0 7, -1, (fun _ => 0), (fun _ => 0), (fun _ => 0), (fun _ => 0), (fun _ => 0), (fun _ => 0), (fun _ => 0), (fun _ => 0), (fun _ => 0), (fun _ => 0), (fun _ => 0), (fun _ => 0), (fun _ => 0), (fun _ => 0), (fun _ => 0), (fun _ => 0))) : wpY_init post x y z := by
  unfold wpY_init
  refine ke_cs (A := fun r => wY_init_148 post y z r 0 0 0 0 (fun _ => 0) (fun _ => 0) (fun _ => 0) (fun _ => 0) (fun _ => 0) (fun _ => 0) (fun _ => 0) (fun _ => 0) (fun _ => 0) (fun _ => 0) (fun _ => 0) (fun _ => 0) (fun _ => 0) (fun _ => 0) (fun _ => 0) (fun _ => 0) ) ?_
  unfold wY_init_148
  refine ke_cs (A := fun r => wY_init_171 post z r (ke_cv x 1 4) 0 0 0 (fun _ => 0) (fun _ => 0) (fun _ => 0) (fun _ => 0) (fun _ => 0) (fun _ => 0) (fun _ => 0) (fun _ => 0) (fun _ => 0) (fun _ => 0) (fun _ => 0) (fun _ => 0) (fun _ => 0) (fun _ => 0) (fun _ => 0) (fun _ => 0) ) ?_
  unfold wY_init_171
  exact ke_cs (A := fun r => post (ke_cv x 1 4, ke_cv y 1 4, r, -1, (fun _ => 0), (fun _ => 0), (fun _ => 0), (fun _ => 0), (fun _ => 0), (fun _ => 0), (fun _ => 0), (fun _ => 0), (fun _ => 0), (fun _ => 0), (fun _ => 0), (fun _ => 0), (fun _ => 0), (fun _ => 0), (fun _ => 0), (fun _ => 0))) hp
theorem ke_Xcl {post : Int32 → Prop} {x lo hi : Int32} (h : post (ke_cv x lo hi)) : wpX_clamp post x lo hi := ke_cs (A := post) h
theorem i_vc0 (k0 : Int32) (k1 : Int32) (k2 : Int32) : wpX_init (fun u => wpY_init (fun v => i_Rel 3 u v) k0 k1 k2) k0 k1 k2 := by
  unfold wpX_init
  refine ke_Xcl ?_
  refine ke_Xcl ?_
  refine ke_Xcl ?_
  refine ke_Yin ?_
  exact ke_mk ⟨ke_cv14 k1, ke_Pg_0 _ _ _, ke_N_0 4, ke_N_0 16, ke_N_0 3, fun _ _ => rfl⟩
end
