section
variable {W S R O : Int32} {mem ops oa ob len st pc reg res fp bv yb hb att ca co cn : Nat → Int32} {c : Nat}
variable {L : Nat} {xs : Nat → Int32} {post : Int32 → Prop} {kc ks : Nat} {w2 s2 r2 : Int32}
def sq_n (L : Nat) (xs : ke_F) (c i d : Nat) : Nat := if d < c then sq_len L xs d else if d = c then i else 0
def sq_Bd (L : Nat) (xs ops oa ob len : ke_F) (c i : Nat) : Prop := ∀ d, d < 4 → len d = nI (sq_n L xs c i d) ∧ ∀ j, j < sq_n L xs c i d → ops (d * 16 + j) = nI (sq_op L xs d j) ∧ oa (d * 16 + j) = nI (sq_ra L xs d j) ∧ ob (d * 16 + j) = sq_rb L xs d j
theorem sq_Bd_0 (o a b : ke_F) : sq_Bd L xs o a b (fun _ => 0) 0 0 := by
  intro d _
  have e : sq_n L xs 0 0 d = 0 := by
    unfold sq_n
    rw [if_neg (by omega)]
    split <;> rfl
  rw [e]
  exact ⟨nI_0.symm, fun j hj => absurd hj (Nat.not_lt_zero _)⟩
theorem sq_Bd_next (h : sq_Bd L xs ops oa ob len c (sq_len L xs c)) : sq_Bd L xs ops oa ob len (c + 1) 0 := by
  intro d hd
  have e : sq_n L xs (c + 1) 0 d = sq_n L xs c (sq_len L xs c) d := by
    unfold sq_n
    by_cases h1 : d < c
    · rw [if_pos h1, if_pos (by omega)]
    · rw [if_neg h1]
      by_cases h2 : d = c
      · subst h2; rw [if_pos rfl, if_pos (by omega)]
      · rw [if_neg h2, if_neg (by omega)]
        split <;> rfl
  rw [e]
  exact h d hd
theorem sq_Bd_app {i : Nat} (h : sq_Bd L xs ops oa ob len c i) (hc : c < 4) (hi : i < 16) : sq_Bd L xs (upd ops (c * 16 + i) (nI (sq_op L xs c i))) (upd oa (c * 16 + i) (nI (sq_ra L xs c i))) (upd ob (c * 16 + i) (sq_rb L xs c i)) (upd len c (nI (i + 1))) c (i + 1) := by
  intro d hd
  obtain ⟨h1, h2⟩ := h d hd
  by_cases e : d = c
  · subst e
    have e1 : sq_n L xs d i d = i := by unfold sq_n; rw [if_neg (by omega), if_pos rfl]
    have e2 : sq_n L xs d (i + 1) d = i + 1 := by unfold sq_n; rw [if_neg (by omega), if_pos rfl]
    rw [e2]
    rw [e1] at h2
    refine ⟨pk_us, fun j hj => ?_⟩
    by_cases ej : j = i
    · subst ej; rw [pk_us, pk_us, pk_us]; exact ⟨rfl, rfl, rfl⟩
    · have hn : d * 16 + j ≠ d * 16 + i := by omega
      rw [pk_un hn, pk_un hn, pk_un hn]; exact h2 j (by omega)
  · have e1 : sq_n L xs c (i + 1) d = sq_n L xs c i d := by
      unfold sq_n; rw [if_neg e, if_neg e]
    have hle : sq_n L xs c i d ≤ 6 := by
      unfold sq_n
      rw [if_neg e]
      split
      · exact (sq_len_le L xs d).2
      · omega
    rw [e1]
    refine ⟨by rw [pk_un e]; exact h1, fun j hj => ?_⟩
    have hn : d * 16 + j ≠ c * 16 + i := by omega
    rw [pk_un hn, pk_un hn, pk_un hn]; exact h2 j hj
theorem sq_62 {J : Int32 → Int32 → Int32 → Int32 → Int32 → (Nat → Int32) → (Nat → Int32) → (Nat → Int32) → (Nat → Int32) → (Nat → Int32) → (Nat → Int32) → (Nat → Int32) → (Nat → Int32) → (Nat → Int32) → (Nat → Int32) → (Nat → Int32) → (Nat → Int32) → (Nat → Int32) → (Nat → Int32) → (Nat → Int32) → (Nat → Int32) → Int32 → Int32 → Int32 → Int32 → (Nat → Int32) → (Nat → Int32) → (Nat → Int32) → (Nat → Int32) → (Nat → Int32) → (Nat → Int32) → (Nat → Int32) → (Nat → Int32) → (Nat → Int32) → (Nat → Int32) → (Nat → Int32) → (Nat → Int32) → (Nat → Int32) → (Nat → Int32) → (Nat → Int32) → (Nat → Int32) → Prop} (hL : L ≤ 260) (hc : c < 4) (hJ : ∀ ops oa ob len : ke_F, sq_Bd L xs ops oa ob len (c + 1) 0 → J (nI (c + 1)) W S R ((-1)) ((fun _ => 0)) ops oa ob len ((fun _ => 0)) ((fun _ => 0)) ((fun _ => 0)) ((fun _ => 0)) ((fun _ => 0)) ((fun _ => 0)) ((fun _ => 0)) ((fun _ => 0)) ((fun _ => 0)) ((fun _ => 0)) ((fun _ => 0)) w2 s2 r2 (-1) ((fun _ => 0)) (fun _ => 0) (fun _ => 0) (fun _ => 0) (fun _ => 0) (fun _ => 0) (fun _ => 0) (fun _ => 0) (fun _ => 0) (fun _ => 0) (fun _ => 0) (fun _ => 0) (fun _ => 0) (fun _ => 0) (fun _ => 0) (fun _ => 0)) : ∀ e i, i + e = sq_len L xs c → ∀ ops oa ob len : ke_F, sq_Bd L xs ops oa ob len c i → wL_law_62 post L xs J (nI c) (nI (sq_len L xs c)) kc ks (e + 1) (nI i) W S R ((-1)) ((fun _ => 0)) ops oa ob len ((fun _ => 0)) ((fun _ => 0)) ((fun _ => 0)) ((fun _ => 0)) ((fun _ => 0)) ((fun _ => 0)) ((fun _ => 0)) ((fun _ => 0)) ((fun _ => 0)) ((fun _ => 0)) ((fun _ => 0)) w2 s2 r2 (-1) ((fun _ => 0)) (fun _ => 0) (fun _ => 0) (fun _ => 0) (fun _ => 0) (fun _ => 0) (fun _ => 0) (fun _ => 0) (fun _ => 0) (fun _ => 0) (fun _ => 0) (fun _ => 0) (fun _ => 0) (fun _ => 0) (fun _ => 0) (fun _ => 0) := by
  have hlen := sq_len_le L xs c
  intro e
  induction e with
  | zero =>
    intro i hi ops oa ob len hB
    have e : i = sq_len L xs c := by omega
    subst e
    exact br_t (nI_le (Nat.le_refl _) (by omega)) (nm_r (nI_1 c) (hJ _ _ _ _ (sq_Bd_next hB)))
  | succ e ih =>
    intro i hi ops oa ob len hB
    refine br_f (nI_ge (by omega) (by omega)) ?_
    refine sq_Op hL hc (by omega) ?_
    refine sq_Ra hL hc (by omega) ?_
    refine sq_Rb hL hc (by omega) ?_
    have hl : len c = nI i := by
      have h := (hB c hc).1
      have e1 : sq_n L xs c i c = i := by unfold sq_n; rw [if_neg (by omega), if_pos rfl]
      rw [e1] at h
      exact h
    refine ke_Xap hc rfl hl (by omega) (sq_Ok_ke (sq_POk L xs c i)) ?_
    exact br_t (nI_1 i).symm (nm_r (nI_1 i) (ih (i + 1) (by omega) _ _ _ _ (sq_Bd_app hB hc (by omega))))
theorem sq_47 (hL : L ≤ 260) (hM : ∀ n3, n3 ≤ 180 → (∀ t, t < n3 → 80 + t < L) → ∀ ops oa ob len : ke_F, sq_Bd L xs ops oa ob len 4 0 → ∃ fu, wL_law_143 post L xs (nI n3) (nI (n3 + 2400)) kc ks fu 0 W S R ((-1)) ((fun _ => 0)) ops oa ob len ((fun _ => 0)) ((fun _ => 0)) ((fun _ => 0)) ((fun _ => 0)) ((fun _ => 0)) ((fun _ => 0)) ((fun _ => 0)) ((fun _ => 0)) ((fun _ => 0)) ((fun _ => 0)) ((fun _ => 0)) w2 s2 r2 (-1) ((fun _ => 0)) (fun _ => 0) (fun _ => 0) (fun _ => 0) (fun _ => 0) (fun _ => 0) (fun _ => 0) (fun _ => 0) (fun _ => 0) (fun _ => 0) (fun _ => 0) (fun _ => 0) (fun _ => 0) (fun _ => 0) (fun _ => 0) (fun _ => 0)) : ∀ e c, c + e = 4 → ∀ ops oa ob len : ke_F, sq_Bd L xs ops oa ob len c 0 → wL_law_47 post L xs kc ks (e + 1) (nI c) W S R ((-1)) ((fun _ => 0)) ops oa ob len ((fun _ => 0)) ((fun _ => 0)) ((fun _ => 0)) ((fun _ => 0)) ((fun _ => 0)) ((fun _ => 0)) ((fun _ => 0)) ((fun _ => 0)) ((fun _ => 0)) ((fun _ => 0)) ((fun _ => 0)) w2 s2 r2 (-1) ((fun _ => 0)) (fun _ => 0) (fun _ => 0) (fun _ => 0) (fun _ => 0) (fun _ => 0) (fun _ => 0) (fun _ => 0) (fun _ => 0) (fun _ => 0) (fun _ => 0) (fun _ => 0) (fun _ => 0) (fun _ => 0) (fun _ => 0) (fun _ => 0) := by
  intro e
  induction e with
  | zero =>
    intro c hc ops oa ob len hB
    have e : c = 4 := by omega
    subst e
    refine br_t (nI_le (Nat.le_refl 4) (by decide)) ?_
    by_cases h : L ≤ 80
    · exact br_t (nI_le (a := L) (b := 80) h (by decide)) (nm_r (e' := nI (0 + 2400)) (by decide) (hM 0 (by omega) (fun t ht => absurd ht (Nat.not_lt_zero _)) _ _ _ _ hB))
    · have e1 : Int32.ofNat L - 80 = nI (L - 80) := pk_sub (a := L) (b := 80) (by omega)
      have e2 : nI (L - 80) + 2400 = nI (L - 80 + 2400) := nI_add _ 2400
      exact br_f (nI_ge (a := 80) (b := L) (by omega) (by omega)) (nm_r (e' := nI (L - 80)) e1 (nm_r (e' := nI (L - 80 + 2400)) e2 (hM (L - 80) (by omega) (fun t ht => by omega) _ _ _ _ hB)))
  | succ e ih =>
    intro c hc ops oa ob len hB
    have hc4 : c < 4 := by omega
    refine br_f (nI_ge (b := 4) (by omega) (by decide)) ?_
    refine sq_Len hL hc4 ⟨sq_len L xs c + 1, ?_⟩
    exact sq_62 hL hc4 (fun ops oa ob len h => ih (c + 1) (by omega) ops oa ob len h) (sq_len L xs c) 0 (Nat.zero_add _) ops oa ob len hB
end
