section
variable {W S R O : Int32} {mem ops oa ob len st pc reg res fp bv yb hb att ca co cn : Nat → Int32} {c : Nat}
variable {L : Nat} {xs : Nat → Int32} {post : Int32 → Prop} {kc ks : Nat} {w2 s2 r2 : Int32}
variable {J : Int32 → Int32 → Int32 → Int32 → Int32 → (Nat → Int32) → (Nat → Int32) → (Nat → Int32) → (Nat → Int32) → (Nat → Int32) → (Nat → Int32) → (Nat → Int32) → (Nat → Int32) → (Nat → Int32) → (Nat → Int32) → (Nat → Int32) → (Nat → Int32) → (Nat → Int32) → (Nat → Int32) → (Nat → Int32) → (Nat → Int32) → Int32 → Int32 → Int32 → Int32 → (Nat → Int32) → (Nat → Int32) → (Nat → Int32) → (Nat → Int32) → (Nat → Int32) → (Nat → Int32) → (Nat → Int32) → (Nat → Int32) → (Nat → Int32) → (Nat → Int32) → (Nat → Int32) → (Nat → Int32) → (Nat → Int32) → (Nat → Int32) → (Nat → Int32) → (Nat → Int32) → Prop} {y3 y4 y5 : Int32}
theorem sq_sel {post : Int32 → Prop} {r : ke_F} {a : Nat} (ha : a < 4) (h : post (r a)) : wpL_sel post () (nI a) (r 0) (r 1) (r 2) (r 3) := by
  have : a = 0 ∨ a = 1 ∨ a = 2 ∨ a = 3 := by omega
  rcases this with rfl | rfl | rfl | rfl
  · exact br_t rfl h
  · exact br_f (by decide) (br_t rfl h)
  · exact br_f (by decide) (br_f (by decide) (br_t rfl h))
  · exact br_f (by decide) (br_f (by decide) (br_f (by decide) h))
theorem sq_6010 {J6 : Int32 → Int32 → Int32 → Int32 → Int32 → Int32 → Int32 → Int32 → Int32 → Int32 → (Nat → Int32) → (Nat → Int32) → (Nat → Int32) → (Nat → Int32) → (Nat → Int32) → (Nat → Int32) → (Nat → Int32) → (Nat → Int32) → (Nat → Int32) → (Nat → Int32) → (Nat → Int32) → (Nat → Int32) → (Nat → Int32) → (Nat → Int32) → (Nat → Int32) → (Nat → Int32) → Int32 → Int32 → Int32 → Int32 → (Nat → Int32) → (Nat → Int32) → (Nat → Int32) → (Nat → Int32) → (Nat → Int32) → (Nat → Int32) → (Nat → Int32) → (Nat → Int32) → (Nat → Int32) → (Nat → Int32) → (Nat → Int32) → (Nat → Int32) → (Nat → Int32) → (Nat → Int32) → (Nat → Int32) → (Nat → Int32) → Prop} {r M : ke_F} {g : Nat} {y15 y18 y23 : Int32} (h : J6 (r 0) (r 1) (r 2) (r 3) y23 (nI (g + 1)) W S R O mem ops oa ob len st pc reg res fp bv hb att ca co cn w2 s2 r2 (-1) M (fun _ => 0) (fun _ => 0) (fun _ => 0) (fun _ => 0) (fun _ => 0) (fun _ => 0) (fun _ => 0) (fun _ => 0) (fun _ => 0) (fun _ => 0) (fun _ => 0) (fun _ => 0) (fun _ => 0) (fun _ => 0) (fun _ => 0)) : wL_law_601 post L xs J J6 y3 y4 y5 (nI c) (r 0) (r 1) (r 2) (r 3) y15 (nI g) y18 0 0 y23 kc ks W S R O mem ops oa ob len st pc reg res fp bv hb att ca co cn w2 s2 r2 (-1) M (fun _ => 0) (fun _ => 0) (fun _ => 0) (fun _ => 0) (fun _ => 0) (fun _ => 0) (fun _ => 0) (fun _ => 0) (fun _ => 0) (fun _ => 0) (fun _ => 0) (fun _ => 0) (fun _ => 0) (fun _ => 0) (fun _ => 0) := br_t rfl (nm_r (nI_1 g) h)
theorem sq_6011 {J6 : Int32 → Int32 → Int32 → Int32 → Int32 → Int32 → Int32 → Int32 → Int32 → Int32 → (Nat → Int32) → (Nat → Int32) → (Nat → Int32) → (Nat → Int32) → (Nat → Int32) → (Nat → Int32) → (Nat → Int32) → (Nat → Int32) → (Nat → Int32) → (Nat → Int32) → (Nat → Int32) → (Nat → Int32) → (Nat → Int32) → (Nat → Int32) → (Nat → Int32) → (Nat → Int32) → Int32 → Int32 → Int32 → Int32 → (Nat → Int32) → (Nat → Int32) → (Nat → Int32) → (Nat → Int32) → (Nat → Int32) → (Nat → Int32) → (Nat → Int32) → (Nat → Int32) → (Nat → Int32) → (Nat → Int32) → (Nat → Int32) → (Nat → Int32) → (Nat → Int32) → (Nat → Int32) → (Nat → Int32) → (Nat → Int32) → Prop} {r M : ke_F} {g a : Nat} {y15 y23 v : Int32} (ha : a < 4) (h : J6 (upd r a v 0) (upd r a v 1) (upd r a v 2) (upd r a v 3) y23 (nI (g + 1)) W S R O mem ops oa ob len st pc reg res fp bv hb att ca co cn w2 s2 r2 (-1) M (fun _ => 0) (fun _ => 0) (fun _ => 0) (fun _ => 0) (fun _ => 0) (fun _ => 0) (fun _ => 0) (fun _ => 0) (fun _ => 0) (fun _ => 0) (fun _ => 0) (fun _ => 0) (fun _ => 0) (fun _ => 0) (fun _ => 0)) : wL_law_601 post L xs J J6 y3 y4 y5 (nI c) (r 0) (r 1) (r 2) (r 3) y15 (nI g) (nI a) 1 v y23 kc ks W S R O mem ops oa ob len st pc reg res fp bv hb att ca co cn w2 s2 r2 (-1) M (fun _ => 0) (fun _ => 0) (fun _ => 0) (fun _ => 0) (fun _ => 0) (fun _ => 0) (fun _ => 0) (fun _ => 0) (fun _ => 0) (fun _ => 0) (fun _ => 0) (fun _ => 0) (fun _ => 0) (fun _ => 0) (fun _ => 0) := by
  have : a = 0 ∨ a = 1 ∨ a = 2 ∨ a = 3 := by omega
  rcases this with rfl | rfl | rfl | rfl
  · exact br_f (by decide) (br_t rfl (nm_r (nI_1 g) h))
  · exact br_f (by decide) (br_f (by decide) (br_t rfl (nm_r (nI_1 g) h)))
  · exact br_f (by decide) (br_f (by decide) (br_f (by decide) (br_t rfl (nm_r (nI_1 g) h))))
  · exact br_f (by decide) (br_f (by decide) (br_f (by decide) (br_f (by decide) (nm_r (nI_1 g) h))))
theorem sq_st0 : ¬ ∃ d, 0 ≤ d ∧ d < 4 ∧ ((fun _ => 0 : ke_F) d = 2 ∨ (fun _ => 0 : ke_F) d = 4) := by
  intro h
  obtain ⟨d, _, _, h⟩ := h
  rcases h with h | h
  · exact absurd (show (0 : Int32) = 2 from h) (by decide)
  · exact absurd (show (0 : Int32) = 4 from h) (by decide)
theorem sq_rep {Q : ke_F} (hL : L ≤ 260) (hc : c < 4) (hfin : wL_law_658 post L xs J y3 y4 y5 (nI c) ((sq_it (sq_P L xs c) (sq_len L xs c) (sq_z Q) 17).1 0) ((sq_it (sq_P L xs c) (sq_len L xs c) (sq_z Q) 17).1 1) ((sq_it (sq_P L xs c) (sq_len L xs c) (sq_z Q) 17).1 2) ((sq_it (sq_P L xs c) (sq_len L xs c) (sq_z Q) 17).1 3) kc ks W S R O mem ops oa ob len st pc reg res fp bv hb att ca co cn w2 s2 r2 (-1) ((sq_it (sq_P L xs c) (sq_len L xs c) (sq_z Q) 17).2.2) (fun _ => 0) (fun _ => 0) (fun _ => 0) (fun _ => 0) (fun _ => 0) (fun _ => 0) (fun _ => 0) (fun _ => 0) (fun _ => 0) (fun _ => 0) (fun _ => 0) (fun _ => 0) (fun _ => 0) (fun _ => 0) (fun _ => 0)) : ∀ e g, g + e = 17 → wL_law_327 post L xs J y3 y4 y5 (nI c) (nI (sq_len L xs c)) kc ks (e + 1) ((sq_it (sq_P L xs c) (sq_len L xs c) (sq_z Q) g).1 0) ((sq_it (sq_P L xs c) (sq_len L xs c) (sq_z Q) g).1 1) ((sq_it (sq_P L xs c) (sq_len L xs c) (sq_z Q) g).1 2) ((sq_it (sq_P L xs c) (sq_len L xs c) (sq_z Q) g).1 3) (nI (sq_it (sq_P L xs c) (sq_len L xs c) (sq_z Q) g).2.1) (nI g) W S R O mem ops oa ob len st pc reg res fp bv hb att ca co cn w2 s2 r2 (-1) ((sq_it (sq_P L xs c) (sq_len L xs c) (sq_z Q) g).2.2) (fun _ => 0) (fun _ => 0) (fun _ => 0) (fun _ => 0) (fun _ => 0) (fun _ => 0) (fun _ => 0) (fun _ => 0) (fun _ => 0) (fun _ => 0) (fun _ => 0) (fun _ => 0) (fun _ => 0) (fun _ => 0) (fun _ => 0) := by
  have hlen := sq_len_le L xs c
  intro e
  induction e with
  | zero =>
    intro g hg
    have e : g = 17 := by omega
    subst e
    exact br_t (nI_lt (a := 16) (by decide) (by decide)) hfin
  | succ e ih =>
    intro g hg
    refine br_f (nI_nlt (b := g) (a := 16) (by omega) (by decide)) ?_
    by_cases hp : (sq_it (sq_P L xs c) (sq_len L xs c) (sq_z Q) g).2.1 < sq_len L xs c
    · have h1 := ih (g + 1) (by omega)
      have hst : sq_it (sq_P L xs c) (sq_len L xs c) (sq_z Q) (g + 1) = sq_st (sq_P L xs c) (sq_len L xs c) (sq_it (sq_P L xs c) (sq_len L xs c) (sq_z Q) g) := rfl
      rw [hst] at h1
      generalize (sq_it (sq_P L xs c) (sq_len L xs c) (sq_z Q) g) = s at h1 hp ⊢
      obtain ⟨r, p, M⟩ := s
      have hp : p < sq_len L xs c := hp
      refine br_f (nI_ge hp (by omega)) ?_
      have hok := sq_POk L xs c p
      have hs : sq_st (sq_P L xs c) (sq_len L xs c) (r, p, M) = (sq_r (sq_P L xs c p) r M, sq_p (sq_len L xs c) (sq_P L xs c p) r p, sq_m (sq_P L xs c p) r M) := if_pos hp
      rw [hs] at h1
      refine sq_Op hL hc (by omega) ?_
      refine sq_Ra hL hc (by omega) ?_
      refine sq_Rb hL hc (by omega) ?_
      refine sq_sel (r := r) (sq_ra_lt L xs c p) ?_
      refine nm_r (e' := nI (p + 1)) (nI_1 p) ?_
      have hN : sq_len L xs c ≤ 16 := by omega
      unfold sq_P at h1 hok
      generalize sq_op L xs c p = o at h1 hok ⊢
      generalize sq_ra L xs c p = a at h1 hok ⊢
      generalize sq_rb L xs c p = b at h1 hok ⊢
      generalize sq_len L xs c = N at h1 hN hp ⊢
      have ho : o < 9 := hok.1
      have ha : a < 4 := hok.2.1
      have hpp : o = 0 ∨ o = 1 ∨ o = 2 ∨ o = 3 ∨ o = 4 ∨ o = 5 ∨ o = 6 ∨ o = 7 ∨ o = 8 := by omega
      rcases hpp with rfl | rfl | rfl | rfl | rfl | rfl | rfl | rfl | rfl
      · rw [sq_p_1 (i := (0, a, b)) (show ¬ (0 : Nat) = 8 by decide)] at h1
        exact br_t rfl (sq_6011 ha h1)
      · rw [sq_p_1 (i := (1, a, b)) (show ¬ (1 : Nat) = 8 by decide)] at h1
        obtain ⟨m, hm, em⟩ := hok.2.2.1 (Or.inl rfl)
        have em : b = nI m := em
        subst em
        have e : sq_r (1, a, nI m) r M = upd r a (M m) := by
          show upd r a (M (sq_a (1, a, nI m) r)) = _
          have : sq_a (1, a, nI m) r = m := nI_clamp (by omega)
          rw [this]
        rw [e] at h1
        exact br_f (by decide) (br_t rfl (ke_Xpe hm (sq_6011 ha h1)))
      · rw [sq_p_1 (i := (2, a, b)) (show ¬ (2 : Nat) = 8 by decide)] at h1
        obtain ⟨m, hm, em⟩ := hok.2.2.1 (Or.inr rfl)
        have em : b = nI m := em
        subst em
        have e : sq_m (2, a, nI m) r M = upd M m (r a) := by
          show upd M (sq_a (2, a, nI m) r) (r a) = _
          have : sq_a (2, a, nI m) r = m := nI_clamp (by omega)
          rw [this]
        rw [e] at h1
        refine br_f (by decide) (br_f (by decide) (br_t rfl (ke_Xpk hm (fun h => ?_) (fun _ => ?_))))
        · exact absurd h sq_st0
        · exact sq_6010 h1
      · rw [sq_p_1 (i := (3, a, b)) (show ¬ (3 : Nat) = 8 by decide)] at h1
        obtain ⟨m, hm, em⟩ := hok.2.2.2.1 (Or.inl rfl)
        have em : b = nI m := em
        subst em
        have e : sq_r (3, a, nI m) r M = upd r a (r a + r m) := by
          show upd r a (r a + r (nI m).toNatClampNeg) = _
          rw [nI_clamp (by omega)]
        rw [e] at h1
        exact br_f (by decide) (br_f (by decide) (br_f (by decide) (br_t rfl (sq_sel hm (nm_e (sq_6011 ha h1))))))
      · rw [sq_p_1 (i := (4, a, b)) (show ¬ (4 : Nat) = 8 by decide)] at h1
        exact br_f (by decide) (br_f (by decide) (br_f (by decide) (br_f (by decide) (br_t rfl (nm_e (sq_6011 ha h1))))))
      · rw [sq_p_1 (i := (5, a, b)) (show ¬ (5 : Nat) = 8 by decide)] at h1
        obtain ⟨m, hm, em⟩ := hok.2.2.2.1 (Or.inr (Or.inl rfl))
        have em : b = nI m := em
        subst em
        obtain ⟨k, hk, ek⟩ := ke_and63 (r m)
        have e : sq_r (5, a, nI m) r M = upd r a (M k) := by
          show upd r a (M (r (nI m).toNatClampNeg &&& 63).toNatClampNeg) = _
          rw [nI_clamp (show m < 2 ^ 31 by omega), ek, nI_clamp (by omega)]
        rw [e] at h1
        refine br_f (by decide) (br_f (by decide) (br_f (by decide) (br_f (by decide) (br_f (by decide) (br_t rfl (sq_sel hm ?_))))))
        rw [ek]
        exact ke_Xpe hk (sq_6011 ha h1)
      · rw [sq_p_1 (i := (6, a, b)) (show ¬ (6 : Nat) = 8 by decide)] at h1
        obtain ⟨m, hm, em⟩ := hok.2.2.2.1 (Or.inr (Or.inr rfl))
        have em : b = nI m := em
        subst em
        obtain ⟨k, hk, ek⟩ := ke_and63 (r m)
        have e : sq_m (6, a, nI m) r M = upd M k (r a) := by
          show upd M (r (nI m).toNatClampNeg &&& 63).toNatClampNeg (r a) = _
          rw [nI_clamp (show m < 2 ^ 31 by omega), ek, nI_clamp (by omega)]
        rw [e] at h1
        refine br_f (by decide) (br_f (by decide) (br_f (by decide) (br_f (by decide) (br_f (by decide) (br_f (by decide) (br_t rfl (sq_sel hm ?_)))))))
        rw [ek]
        refine ke_Xpk hk (fun h => ?_) (fun _ => ?_)
        · exact absurd h sq_st0
        · exact sq_6010 h1
      · rw [sq_p_1 (i := (7, a, b)) (show ¬ (7 : Nat) = 8 by decide)] at h1
        exact br_f (by decide) (br_f (by decide) (br_f (by decide) (br_f (by decide) (br_f (by decide) (br_f (by decide) (br_f (by decide) (br_f (by decide) (sq_6010 h1))))))))
      · obtain ⟨m, hm1, hm, em⟩ := hok.2.2.2.2 rfl
        have em : b = nI m := em
        subst em
        have eb : nI p + nI m = nI (p + m) := nI_add p m
        refine br_f (by decide) (br_f (by decide) (br_f (by decide) (br_f (by decide) (br_f (by decide) (br_f (by decide) (br_f (by decide) (br_t rfl ?_)))))))
        by_cases z : r a = 0
        · have e : sq_p N (8, a, nI m) r p = p + 1 := if_neg (fun y => y.2 z)
          rw [e] at h1
          exact br_t z (sq_6010 h1)
        · have e : sq_p N (8, a, nI m) r p = if N < p + m then N else p + m := by
            show (if 8 = 8 ∧ ¬ r a = 0 then (if N < p + (nI m).toNatClampNeg then N else p + (nI m).toNatClampNeg) else p + 1) = _
            rw [if_pos ⟨rfl, z⟩, nI_clamp (by omega)]
          rw [e] at h1
          refine br_f z ?_
          by_cases y : N ≤ p + m
          · have e2 : (if N < p + m then N else p + m) = N := by split <;> omega
            rw [e2] at h1
            exact br_t (by rw [eb]; exact nI_le y (by omega)) (sq_6010 h1)
          · have e2 : (if N < p + m then N else p + m) = p + m := by split <;> omega
            rw [e2] at h1
            refine br_f (by rw [eb]; exact nI_ge (by omega) (by omega)) ?_
            rw [eb]
            exact sq_6010 h1
    · have e17 := sq_it_fix (n := g) (Nat.le_of_not_lt hp) (17 - g)
      have eg : g + (17 - g) = 17 := by omega
      rw [eg] at e17
      rw [e17] at hfin
      exact br_t (nI_le (by omega) (by have := sq_it_pc (L := sq_len L xs c) (fun i _ => sq_POk L xs c i) Q g; omega)) hfin
end
