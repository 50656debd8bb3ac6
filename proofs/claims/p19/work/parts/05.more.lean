section
variable {W S R O : Int32} {mem ops oa ob len st pc reg res fp bv yb hb att ca co cn : Nat → Int32} {c : Nat}
theorem ke_ne {x : Int32} {n m : Nat} (h : x < 0 ∨ nI n ≤ x) (hm : m < n) (hn : n < 2 ^ 31) : ¬ x = nI m := by
  intro e
  subst e
  rcases h with h | h
  · exact nI_pos (by omega) h
  · exact nI_ge hm hn h
theorem ke_hi {x : Int32} {n : Nat} (h : nI (n + 1) ≤ x) (hn : n + 1 < 2 ^ 31) : ¬ x < 0 ∧ ¬ x ≤ nI n ∧ nI n < x := by
  have h1 : (nI (n + 1)).toInt = ((n + 1 : Nat) : Int) := nI_toInt hn
  have h2 : (nI n).toInt = (n : Int) := nI_toInt (by omega)
  have h3 : (nI (n + 1)).toInt ≤ x.toInt := Int32.le_iff_toInt_le.mp h
  have h0 : (0 : Int32).toInt = 0 := by decide
  refine ⟨fun z => ?_, fun z => ?_, ?_⟩
  · have := Int32.lt_iff_toInt_lt.mp z
    omega
  · have := Int32.le_iff_toInt_le.mp z
    omega
  · apply Int32.lt_iff_toInt_lt.mpr
    omega
theorem ke_o1 {P A : Prop} {x y : Int32} (k : Nat) (hx : x < 0 ∨ nI (k + 1) ≤ x) (h : P) (hk : k + 1 < 2 ^ 31 := by omega) (hy : y = nI k := by rfl) : (x < 0 → P) ∧ (¬ x < 0 → ((x ≤ y → A) ∧ (¬ x ≤ y → P))) := by
  subst hy
  rcases hx with hx | hx
  · exact br_t hx h
  · exact br_f (ke_hi hx hk).1 (br_f (ke_hi hx hk).2.1 h)
theorem ke_o2 {P A : Prop} {x y : Int32} (k : Nat) (hx : x < 0 ∨ nI (k + 1) ≤ x) (h : P) (hk : k + 1 < 2 ^ 31 := by omega) (hy : y = nI k := by rfl) : (x < 0 → P) ∧ (¬ x < 0 → ((y < x → P) ∧ (¬ y < x → A))) := by
  subst hy
  rcases hx with hx | hx
  · exact br_t hx h
  · exact br_f (ke_hi hx hk).1 (br_t (ke_hi hx hk).2.2 h)
theorem ke_o3 {P A : Prop} {x y : Int32} (k : Nat) (hx : x < 0 ∨ nI (k + 1) ≤ x) (h : P) (hk : k + 1 < 2 ^ 31 := by omega) (hy : y = nI (k + 1) := by rfl) : (x < 0 → P) ∧ (¬ x < 0 → ((y ≤ x → P) ∧ (¬ y ≤ x → A))) := by
  subst hy
  rcases hx with hx | hx
  · exact br_t hx h
  · exact br_f (ke_hi hx hk).1 (br_t hx h)
theorem ke_g1 {P Q A : Prop} {y : Int32} (k : Nat) {c : Nat} (hc : c < k + 1) (h : A) (hk : k + 1 < 2 ^ 31 := by omega) (hy : y = nI k := by rfl) : (nI c < 0 → P) ∧ (¬ nI c < 0 → ((nI c ≤ y → A) ∧ (¬ nI c ≤ y → Q))) := by
  subst hy
  exact br_f (nI_pos (by omega)) (br_t (nI_le (by omega) (by omega)) h)
theorem ke_g2 {P Q A : Prop} {y : Int32} (k : Nat) {c : Nat} (hc : c < k + 1) (h : A) (hk : k + 1 < 2 ^ 31 := by omega) (hy : y = nI k := by rfl) : (nI c < 0 → P) ∧ (¬ nI c < 0 → ((y < nI c → Q) ∧ (¬ y < nI c → A))) := by
  subst hy
  exact br_f (nI_pos (by omega)) (br_f (nI_nlt (by omega) (by omega)) h)
theorem ke_g3 {P Q A : Prop} {y : Int32} (k : Nat) {c : Nat} (hc : c < k + 1) (h : A) (hk : k + 1 < 2 ^ 31 := by omega) (hy : y = nI (k + 1) := by rfl) : (nI c < 0 → P) ∧ (¬ nI c < 0 → ((y ≤ nI c → Q) ∧ (¬ y ≤ nI c → A))) := by
  subst hy
  exact br_f (nI_pos (by omega)) (br_f (nI_ge hc hk) h)
theorem ke_ix (x : Int32) (n : Nat) (hn : n < 2 ^ 31) : (x < 0 ∨ nI n ≤ x) ∨ ∃ j : Nat, j < n ∧ x = nI j := by
  rcases pk_ix x hn with h | h | h
  · exact Or.inl (Or.inl h)
  · exact Or.inl (Or.inr h)
  · exact Or.inr h
def ke_cv (x lo hi : Int32) : Int32 := if lo ≤ x then (if x ≤ hi then x else hi) else lo
theorem ke_cs {A : Int32 → Prop} {x lo hi : Int32} (h : A (ke_cv x lo hi)) : (lo ≤ x → ((x ≤ hi → A x) ∧ (¬ x ≤ hi → A hi))) ∧ (¬ lo ≤ x → A lo) := by
  unfold ke_cv at h
  by_cases h1 : lo ≤ x
  · rw [if_pos h1] at h
    by_cases h2 : x ≤ hi
    · rw [if_pos h2] at h
      exact br_t h1 (br_t h2 h)
    · rw [if_neg h2] at h
      exact br_t h1 (br_f h2 h)
  · rw [if_neg h1] at h
    exact br_f h1 h
theorem ke_cv14 (x : Int32) : ∃ d, 1 ≤ d ∧ d ≤ 4 ∧ ke_cv x 1 4 = nI d := by
  unfold ke_cv
  by_cases h1 : (1 : Int32) ≤ x
  · rw [if_pos h1]
    by_cases h2 : x ≤ 4
    · rw [if_pos h2]
      rcases ke_ix x 5 (by decide) with h | ⟨j, hj, rfl⟩
      · exfalso
        rcases h with h | h
        · have a := Int32.lt_iff_toInt_lt.mp h
          have b := Int32.le_iff_toInt_le.mp h1
          have c0 : (0 : Int32).toInt = 0 := by decide
          have c1 : (1 : Int32).toInt = 1 := by decide
          omega
        · exact (ke_hi (n := 4) h (by decide)).2.1 h2
      · refine ⟨j, ?_, by omega, rfl⟩
        by_cases hz : j = 0
        · subst hz; exact absurd h1 (by decide)
        · omega
    · rw [if_neg h2]; exact ⟨4, by omega, by omega, rfl⟩
  · rw [if_neg h1]; exact ⟨1, by omega, by omega, rfl⟩
theorem ke_Xcl {post : Int32 → Prop} {x lo hi : Int32} (h : post (ke_cv x lo hi)) : wpX_clamp post () x lo hi := ke_cs (A := post) h
theorem ke_nOa {o a b : Int32} (h : a < 0 ∨ nI 4 ≤ a) : ¬ ke_Ok o a b := by
  intro z
  obtain ⟨p, q, h1, h2, e1, e2, _⟩ := z
  exact ke_ne h h2 (by decide) e2
theorem ke_nOo {o a b : Int32} (h : o < 0 ∨ nI 9 ≤ o) : ¬ ke_Ok o a b := by
  intro z
  obtain ⟨p, q, h1, h2, e1, e2, _⟩ := z
  exact ke_ne h h1 (by decide) e1
theorem ke_nO1 {p q : Nat} {b : Int32} (hp : p = 1 ∨ p = 2) (h : b < 0 ∨ nI 64 ≤ b) : ¬ ke_Ok (nI p) (nI q) b := by
  intro z
  obtain ⟨m, hm, e⟩ := ke_Ok1 z (by omega) hp
  exact ke_ne h hm (by decide) e
theorem ke_nO3 {p q : Nat} {b : Int32} (hp : p = 3 ∨ p = 5 ∨ p = 6) (h : b < 0 ∨ nI 4 ≤ b) : ¬ ke_Ok (nI p) (nI q) b := by
  intro z
  obtain ⟨m, hm, e⟩ := ke_Ok3 z (by omega) hp
  exact ke_ne h hm (by decide) e
theorem ke_nO8 {q : Nat} {b : Int32} (h : b < 0 ∨ nI 17 ≤ b ∨ b = nI 0) : ¬ ke_Ok (nI 8) (nI q) b := by
  intro z
  obtain ⟨m, hm1, hm, e⟩ := ke_Ok8 z (by omega) rfl
  rcases h with h | h | h
  · exact ke_ne (n := 17) (Or.inl h) (by omega) (by decide) e
  · exact ke_ne (n := 17) (Or.inr h) (by omega) (by decide) e
  · have := (nI_eq (by omega) (by omega)).mp (h.symm.trans e)
    omega
theorem ke_lt1 {b : Int32} (h : b < 0) : b < 1 := by
  apply Int32.lt_iff_toInt_lt.mpr
  have a := Int32.lt_iff_toInt_lt.mp h
  have c0 : (0 : Int32).toInt = 0 := by decide
  have c1 : (1 : Int32).toInt = 1 := by decide
  omega
theorem ke_nlt1 {b : Int32} (h : ¬ b < 0) (h0 : ¬ b = 0) : ¬ b < 1 := by
  intro z
  obtain ⟨j, hj, rfl⟩ := nI_of h
  have := (nI_ltI hj (by decide)).mp (show nI j < nI 1 from z)
  have e : j = 0 := by omega
  subst e
  exact h0 rfl
theorem ke_Xii {post : Int32 → Prop} {o a b : Int32} (h1 : ke_Ok o a b → post 1) (h0 : ¬ ke_Ok o a b → post 0) : wpX_isInstruction post () o a b := by
  unfold wpX_isInstruction
  rcases ke_ix a 4 (by decide) with h | ⟨q, hq, rfl⟩
  · refine ke_o3 3 h ?_
    exact br_t rfl (h0 (ke_nOa h))
  refine ke_g3 3 hq ?_
  refine br_f (by decide) ?_
  rcases ke_ix o 9 (by decide) with h | ⟨p, hp, rfl⟩
  · exact ke_o2 8 h (h0 (ke_nOo h))
  have hpp : p = 0 ∨ p = 1 ∨ p = 2 ∨ p = 3 ∨ p = 4 ∨ p = 5 ∨ p = 6 ∨ p = 7 ∨ p = 8 := by omega
  rcases hpp with rfl | rfl | rfl | rfl | rfl | rfl | rfl | rfl | rfl
  · exact br_f (by decide) (br_f (by decide) (br_t rfl (h1 ⟨0, q, by decide, hq, rfl, rfl, (fun z => absurd z (by decide)), (fun z => absurd z (by decide)), (fun z => absurd z (by decide))⟩)))
  · refine br_f (by decide) (br_f (by decide) (br_f (by decide) (br_t rfl (?_))))
    rcases ke_ix b 64 (by decide) with h | ⟨m, hm, rfl⟩
    · exact ke_o3 63 h ⟨rfl, h0 (ke_nO1 (by omega) h)⟩
    · exact ke_g3 63 hm ⟨rfl, h1 ⟨1, q, by decide, hq, rfl, rfl, (fun _ => ⟨m, hm, rfl⟩), (fun z => absurd z (by decide)), (fun z => absurd z (by decide))⟩⟩
  · refine br_f (by decide) (br_f (by decide) (br_f (by decide) (br_f (by decide) (br_t rfl (?_)))))
    rcases ke_ix b 64 (by decide) with h | ⟨m, hm, rfl⟩
    · exact ke_o3 63 h ⟨rfl, h0 (ke_nO1 (by omega) h)⟩
    · exact ke_g3 63 hm ⟨rfl, h1 ⟨2, q, by decide, hq, rfl, rfl, (fun _ => ⟨m, hm, rfl⟩), (fun z => absurd z (by decide)), (fun z => absurd z (by decide))⟩⟩
  · refine br_f (by decide) (br_f (by decide) (br_f (by decide) (br_f (by decide) (br_f (by decide) (br_t rfl (?_))))))
    rcases ke_ix b 4 (by decide) with h | ⟨m, hm, rfl⟩
    · exact ke_o3 3 h ⟨rfl, h0 (ke_nO3 (by omega) h)⟩
    · exact ke_g3 3 hm ⟨rfl, h1 ⟨3, q, by decide, hq, rfl, rfl, (fun z => absurd z (by decide)), (fun _ => ⟨m, hm, rfl⟩), (fun z => absurd z (by decide))⟩⟩
  · exact br_f (by decide) (br_f (by decide) (br_f (by decide) (br_f (by decide) (br_f (by decide) (br_f (by decide) (br_t rfl (h1 ⟨4, q, by decide, hq, rfl, rfl, (fun z => absurd z (by decide)), (fun z => absurd z (by decide)), (fun z => absurd z (by decide))⟩)))))))
  · refine br_f (by decide) (br_f (by decide) (br_f (by decide) (br_f (by decide) (br_f (by decide) (br_f (by decide) (br_f (by decide) (br_t rfl (?_))))))))
    rcases ke_ix b 4 (by decide) with h | ⟨m, hm, rfl⟩
    · exact ke_o3 3 h ⟨rfl, h0 (ke_nO3 (by omega) h)⟩
    · exact ke_g3 3 hm ⟨rfl, h1 ⟨5, q, by decide, hq, rfl, rfl, (fun z => absurd z (by decide)), (fun _ => ⟨m, hm, rfl⟩), (fun z => absurd z (by decide))⟩⟩
  · refine br_f (by decide) (br_f (by decide) (br_f (by decide) (br_f (by decide) (br_f (by decide) (br_f (by decide) (br_f (by decide) (br_f (by decide) (br_t rfl (?_)))))))))
    rcases ke_ix b 4 (by decide) with h | ⟨m, hm, rfl⟩
    · exact ke_o3 3 h ⟨rfl, h0 (ke_nO3 (by omega) h)⟩
    · exact ke_g3 3 hm ⟨rfl, h1 ⟨6, q, by decide, hq, rfl, rfl, (fun z => absurd z (by decide)), (fun _ => ⟨m, hm, rfl⟩), (fun z => absurd z (by decide))⟩⟩
  · exact br_f (by decide) (br_f (by decide) (br_f (by decide) (br_f (by decide) (br_f (by decide) (br_f (by decide) (br_f (by decide) (br_f (by decide) (br_f (by decide) (br_t rfl (h1 ⟨7, q, by decide, hq, rfl, rfl, (fun z => absurd z (by decide)), (fun z => absurd z (by decide)), (fun z => absurd z (by decide))⟩))))))))))
  · refine br_f (by decide) (br_f (by decide) (br_f (by decide) (br_f (by decide) (br_f (by decide) (br_f (by decide) (br_f (by decide) (br_f (by decide) (br_f (by decide) (br_f (by decide) (br_t rfl (?_)))))))))))
    rcases ke_ix b 17 (by decide) with h | ⟨m, hm, rfl⟩
    · rcases h with h | h
      · exact br_t (ke_lt1 h) (h0 (ke_nO8 (Or.inl h)))
      · have hh := ke_hi (n := 16) h (by decide)
        refine br_f (ke_nlt1 hh.1 (fun z => ke_ne (n := 17) (m := 0) (Or.inr h) (by decide) (by decide) z)) ?_
        exact br_t hh.2.2 (h0 (ke_nO8 (Or.inr (Or.inl h))))
    · by_cases z : m = 0
      · subst z
        exact br_t (by decide) (h0 (ke_nO8 (Or.inr (Or.inr rfl))))
      · exact br_f (nI_nlt (b := 1) (by omega) (by omega)) (br_f (nI_nlt (a := 16) (by omega) (by decide)) (h1 ⟨8, q, by decide, hq, rfl, rfl, (fun z => absurd z (by decide)), (fun z => absurd z (by decide)), (fun _ => ⟨m, by omega, by omega, rfl⟩)⟩))
theorem ke_Xru {post : Int32 → Prop} : ∀ e i, i + e = 4 → ((∃ d, i ≤ d ∧ d < 4 ∧ (st d = 2 ∨ st d = 4)) → post 1) → ((∀ d, i ≤ d → d < 4 → ¬ st d = 2 ∧ ¬ st d = 4) → post 0) → wX_isAnyRunning_2 post W S R O mem ops oa ob len st pc reg res fp bv hb att ca co cn (e + 1) (nI i) := by
  intro e
  induction e with
  | zero =>
    intro i hi h1 h0
    have e : i = 4 := by omega
    subst e
    exact br_t (nI_le (Nat.le_refl 4) (by decide)) (h0 (fun d a b => absurd b (by omega)))
  | succ e ih =>
    intro i hi h1 h0
    have hi4 : i < 4 := by omega
    refine br_f (nI_ge (b := 4) (by omega) (by decide)) ⟨ke_i4 hi4, ?_⟩
    by_cases z2 : st i = 2
    · exact br_t (by rw [ke_k4 hi4]; exact z2) (h1 ⟨i, Nat.le_refl _, hi4, Or.inl z2⟩)
    · refine br_f (by rw [ke_k4 hi4]; exact z2) ⟨ke_i4 hi4, ?_⟩
      by_cases z4 : st i = 4
      · exact br_t (by rw [ke_k4 hi4]; exact z4) (h1 ⟨i, Nat.le_refl _, hi4, Or.inr z4⟩)
      · refine br_f (by rw [ke_k4 hi4]; exact z4) (nm_r (nI_1 i) (ih (i + 1) (by omega) (fun h => ?_) (fun h => ?_)))
        · obtain ⟨d, a, b, x⟩ := h
          exact h1 ⟨d, by omega, b, x⟩
        · apply h0
          intro d a b
          by_cases e : d = i
          · subst e; exact ⟨z2, z4⟩
          · exact h d (by omega) b
theorem ke_xp_le {p q : Nat} {b : Int32} {c L i : Nat} {reg : ke_F} (hok : ke_Ok (nI p) (nI q) b) (hp9 : p < 9) (hiL : i < L) : ke_xp p q b c L i reg ≤ L := by
  unfold ke_xp
  split
  · rename_i z
    split <;> omega
  · omega
theorem ke_or1 {x : Int32} {n : Nat} (hn : n ≤ 3) (hx : x = nI n) : ∃ p, p ≤ 3 ∧ x ||| 1 = nI p := by
  have : n = 0 ∨ n = 1 ∨ n = 2 ∨ n = 3 := by omega
  rcases this with e | e | e | e <;> subst e <;> subst hx
  · exact ⟨1, by decide, by decide⟩
  · exact ⟨1, by decide, by decide⟩
  · exact ⟨3, by decide, by decide⟩
  · exact ⟨3, by decide, by decide⟩
theorem ke_or2 {x : Int32} {n : Nat} (hn : n ≤ 3) (hx : x = nI n) : ∃ p, p ≤ 3 ∧ x ||| 2 = nI p := by
  have : n = 0 ∨ n = 1 ∨ n = 2 ∨ n = 3 := by omega
  rcases this with e | e | e | e <;> subst e <;> subst hx
  · exact ⟨2, by decide, by decide⟩
  · exact ⟨3, by decide, by decide⟩
  · exact ⟨2, by decide, by decide⟩
  · exact ⟨3, by decide, by decide⟩
theorem ke_I_ld {bv : ke_F} {u : ke_T} {c l i k : Nat} {v : Int32} (h : ke_I bv u) (hi : u.2.1 c = nI i) (hi16 : i < 16) : ke_I bv (u.1, upd u.2.1 c (u.2.1 c + 1), upd u.2.2.1 k v, upd u.2.2.2.1 l (u.2.2.2.1 l ||| 1), u.2.2.2.2) := by
  obtain ⟨h1, h2, h3, h4⟩ := h
  obtain ⟨n, hn, en⟩ := h3 l
  obtain ⟨p, hp, ep⟩ := ke_or1 hn en
  exact ⟨h1, ke_N_upd (p := i + 1) h2 (by omega) (by rw [hi, nI_1]), ke_N_upd h3 hp ep, h4⟩
end
