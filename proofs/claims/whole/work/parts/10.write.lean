section
variable {W S R O : Int32} {mem ops oa ob len st pc reg res fp bv yb hb att ca co cn : Nat → Int32} {c : Nat}
theorem ke_nOa {o a b : Int32} (h : a < 0 ∨ nI 4 ≤ a) : ¬ ke_Ok o a b := by
  intro z
  obtain ⟨p, q, h1, h2, e1, e2, _⟩ := z
  exact ke_ne h h2 (by decide) e2
theorem ke_nOo {o a b : Int32} (h : o < 0 ∨ nI 9 ≤ o) : ¬ ke_Ok o a b := by
  intro z
  obtain ⟨p, q, h1, h2, e1, e2, _⟩ := z
  exact ke_ne h h1 (by decide) e1
theorem ke_nO1 {p q : Nat} {b : Int32} (hp : p = 1 ∨ p = 2) (h : b < 0 ∨ nI 64 ≤ b) : ¬ ke_Ok (nI p) (nI q) b := by
  intro z
  obtain ⟨m, hm, e⟩ := ke_Ok1 z (by omega) hp
  exact ke_ne h hm (by decide) e
theorem ke_nO3 {p q : Nat} {b : Int32} (hp : p = 3 ∨ p = 5 ∨ p = 6) (h : b < 0 ∨ nI 4 ≤ b) : ¬ ke_Ok (nI p) (nI q) b := by
  intro z
  obtain ⟨m, hm, e⟩ := ke_Ok3 z (by omega) hp
  exact ke_ne h hm (by decide) e
theorem ke_nO8 {q : Nat} {b : Int32} (h : b < 0 ∨ nI 17 ≤ b ∨ b = nI 0) : ¬ ke_Ok (nI 8) (nI q) b := by
  intro z
  obtain ⟨m, hm1, hm, e⟩ := ke_Ok8 z (by omega) rfl
  rcases h with h | h | h
  · exact ke_ne (n := 17) (Or.inl h) (by omega) (by decide) e
  · exact ke_ne (n := 17) (Or.inr h) (by omega) (by decide) e
  · have := (nI_eq (by omega) (by omega)).mp (h.symm.trans e)
    omega
theorem ke_lt1 {b : Int32} (h : b < 0) : b < 1 := by
  apply Int32.lt_iff_toInt_lt.mpr
  have a := Int32.lt_iff_toInt_lt.mp h
  have c0 : (0 : Int32).toInt = 0 := by decide
  have c1 : (1 : Int32).toInt = 1 := by decide
  omega
theorem ke_nlt1 {b : Int32} (h : ¬ b < 0) (h0 : ¬ b = 0) : ¬ b < 1 := by
  intro z
  obtain ⟨j, hj, rfl⟩ := nI_of h
  have := (nI_ltI hj (by decide)).mp (show nI j < nI 1 from z)
  have e : j = 0 := by omega
  subst e
  exact h0 rfl
theorem ke_Xii {post : Int32 → Prop} {o a b : Int32} (h1 : ke_Ok o a b → post 1) (h0 : ¬ ke_Ok o a b → post 0) : wpX_isInstruction post o a b := by
  unfold wpX_isInstruction
  rcases ke_ix a 4 (by decide) with h | ⟨q, hq, rfl⟩
  · refine ke_o3 3 h ?_
    exact br_t rfl (h0 (ke_nOa h))
  refine ke_g3 3 hq ?_
  refine br_f (by decide) ?_
  rcases ke_ix o 9 (by decide) with h | ⟨p, hp, rfl⟩
  · exact ke_o2 8 h (h0 (ke_nOo h))
  have hpp : p = 0 ∨ p = 1 ∨ p = 2 ∨ p = 3 ∨ p = 4 ∨ p = 5 ∨ p = 6 ∨ p = 7 ∨ p = 8 := by omega
  rcases hpp with rfl | rfl | rfl | rfl | rfl | rfl | rfl | rfl | rfl
  · exact br_f (by decide) (br_f (by decide) (br_t rfl (h1 ⟨0, q, by decide, hq, rfl, rfl, (fun z => absurd z (by decide)), (fun z => absurd z (by decide)), (fun z => absurd z (by decide))⟩)))
  · refine br_f (by decide) (br_f (by decide) (br_f (by decide) (br_t rfl (?_))))
    rcases ke_ix b 64 (by decide) with h | ⟨m, hm, rfl⟩
    · exact ke_o3 63 h ⟨rfl, h0 (ke_nO1 (by omega) h)⟩
    · exact ke_g3 63 hm ⟨rfl, h1 ⟨1, q, by decide, hq, rfl, rfl, (fun _ => ⟨m, hm, rfl⟩), (fun z => absurd z (by decide)), (fun z => absurd z (by decide))⟩⟩
  · refine br_f (by decide) (br_f (by decide) (br_f (by decide) (br_f (by decide) (br_t rfl (?_)))))
    rcases ke_ix b 64 (by decide) with h | ⟨m, hm, rfl⟩
    · exact ke_o3 63 h ⟨rfl, h0 (ke_nO1 (by omega) h)⟩
    · exact ke_g3 63 hm ⟨rfl, h1 ⟨2, q, by decide, hq, rfl, rfl, (fun _ => ⟨m, hm, rfl⟩), (fun z => absurd z (by decide)), (fun z => absurd z (by decide))⟩⟩
  · refine br_f (by decide) (br_f (by decide) (br_f (by decide) (br_f (by decide) (br_f (by decide) (br_t rfl (?_))))))
    rcases ke_ix b 4 (by decide) with h | ⟨m, hm, rfl⟩
    · exact ke_o3 3 h ⟨rfl, h0 (ke_nO3 (by omega) h)⟩
    · exact ke_g3 3 hm ⟨rfl, h1 ⟨3, q, by decide, hq, rfl, rfl, (fun z => absurd z (by decide)), (fun _ => ⟨m, hm, rfl⟩), (fun z => absurd z (by decide))⟩⟩
  · exact br_f (by decide) (br_f (by decide) (br_f (by decide) (br_f (by decide) (br_f (by decide) (br_f (by decide) (br_t rfl (h1 ⟨4, q, by decide, hq, rfl, rfl, (fun z => absurd z (by decide)), (fun z => absurd z (by decide)), (fun z => absurd z (by decide))⟩)))))))
  · refine br_f (by decide) (br_f (by decide) (br_f (by decide) (br_f (by decide) (br_f (by decide) (br_f (by decide) (br_f (by decide) (br_t rfl (?_))))))))
    rcases ke_ix b 4 (by decide) with h | ⟨m, hm, rfl⟩
    · exact ke_o3 3 h ⟨rfl, h0 (ke_nO3 (by omega) h)⟩
    · exact ke_g3 3 hm ⟨rfl, h1 ⟨5, q, by decide, hq, rfl, rfl, (fun z => absurd z (by decide)), (fun _ => ⟨m, hm, rfl⟩), (fun z => absurd z (by decide))⟩⟩
  · refine br_f (by decide) (br_f (by decide) (br_f (by decide) (br_f (by decide) (br_f (by decide) (br_f (by decide) (br_f (by decide) (br_f (by decide) (br_t rfl (?_)))))))))
    rcases ke_ix b 4 (by decide) with h | ⟨m, hm, rfl⟩
    · exact ke_o3 3 h ⟨rfl, h0 (ke_nO3 (by omega) h)⟩
    · exact ke_g3 3 hm ⟨rfl, h1 ⟨6, q, by decide, hq, rfl, rfl, (fun z => absurd z (by decide)), (fun _ => ⟨m, hm, rfl⟩), (fun z => absurd z (by decide))⟩⟩
  · exact br_f (by decide) (br_f (by decide) (br_f (by decide) (br_f (by decide) (br_f (by decide) (br_f (by decide) (br_f (by decide) (br_f (by decide) (br_f (by decide) (br_t rfl (h1 ⟨7, q, by decide, hq, rfl, rfl, (fun z => absurd z (by decide)), (fun z => absurd z (by decide)), (fun z => absurd z (by decide))⟩))))))))))
  · refine br_f (by decide) (br_f (by decide) (br_f (by decide) (br_f (by decide) (br_f (by decide) (br_f (by decide) (br_f (by decide) (br_f (by decide) (br_f (by decide) (br_f (by decide) (br_t rfl (?_)))))))))))
    rcases ke_ix b 17 (by decide) with h | ⟨m, hm, rfl⟩
    · rcases h with h | h
      · exact br_t (ke_lt1 h) (h0 (ke_nO8 (Or.inl h)))
      · have hh := ke_hi (n := 16) h (by decide)
        refine br_f (ke_nlt1 hh.1 (fun z => ke_ne (n := 17) (m := 0) (Or.inr h) (by decide) (by decide) z)) ?_
        exact br_t hh.2.2 (h0 (ke_nO8 (Or.inr (Or.inl h))))
    · by_cases z : m = 0
      · subst z
        exact br_t (by decide) (h0 (ke_nO8 (Or.inr (Or.inr rfl))))
      · exact br_f (nI_nlt (b := 1) (by omega) (by omega)) (br_f (nI_nlt (a := 16) (by omega) (by decide)) (h1 ⟨8, q, by decide, hq, rfl, rfl, (fun z => absurd z (by decide)), (fun z => absurd z (by decide)), (fun _ => ⟨m, by omega, by omega, rfl⟩)⟩))
theorem ke_Yap {post : Int32 → SY → Prop} {L : Nat} {o a b : Int32} (hc : c < 4) (hs : st c = 0) (hL : len c = nI L) (hL16 : L < 16) (h1 : ke_Ok o a b → wY_append_132 post (nI c) o a b W S R O mem ops oa ob len st pc reg fp yb hb res att ca co cn) (h0 : ¬ ke_Ok o a b → post (-1) (W, S, R, O, mem, ops, oa, ob, len, st, pc, reg, fp, yb, hb, res, att, ca, co, cn)) : wpY_append post (W, S, R, O, mem, ops, oa, ob, len, st, pc, reg, fp, yb, hb, res, att, ca, co, cn) (nI c) o a b := by
  refine ke_g1 3 hc ⟨ke_i4 hc, br_t (by rw [ke_k4 hc]; exact hs) ⟨ke_i4 hc, br_t (by rw [ke_k4 hc, hL]; exact nI_lt (b := 16) hL16 (by decide)) ?_⟩⟩
  rcases ke_ix o 9 (by decide) with h | ⟨p, hp, rfl⟩
  · exact ke_o1 8 h (h0 (ke_nOo h))
  refine ke_g1 8 hp ?_
  rcases ke_ix a 4 (by decide) with h | ⟨q, hq, rfl⟩
  · exact ke_o1 3 h (h0 (ke_nOa h))
  refine ke_g1 3 hq ?_
  have hpp : p = 0 ∨ p = 1 ∨ p = 2 ∨ p = 3 ∨ p = 4 ∨ p = 5 ∨ p = 6 ∨ p = 7 ∨ p = 8 := by omega
  rcases hpp with rfl | rfl | rfl | rfl | rfl | rfl | rfl | rfl | rfl
  · exact br_f (by decide) (br_f (by decide) (br_f (by decide) (br_f (by decide) (br_f (by decide) (br_f (by decide) (h1 ⟨0, q, by decide, hq, rfl, rfl, (fun z => absurd z (by decide)), (fun z => absurd z (by decide)), (fun z => absurd z (by decide))⟩))))))
  · refine br_t rfl ?_
    rcases ke_ix b 64 (by decide) with h | ⟨m, hm, rfl⟩
    · exact ke_o1 63 h (h0 (ke_nO1 (by omega) h))
    · exact ke_g1 63 hm (br_f (by decide) (br_f (by decide) (br_f (by decide) (br_f (by decide) (h1 ⟨1, q, by decide, hq, rfl, rfl, (fun _ => ⟨m, hm, rfl⟩), (fun z => absurd z (by decide)), (fun z => absurd z (by decide))⟩)))))
  · refine br_f (by decide) (br_t rfl ?_)
    rcases ke_ix b 64 (by decide) with h | ⟨m, hm, rfl⟩
    · exact ke_o1 63 h (h0 (ke_nO1 (by omega) h))
    · exact ke_g1 63 hm (br_f (by decide) (br_f (by decide) (br_f (by decide) (br_f (by decide) (h1 ⟨2, q, by decide, hq, rfl, rfl, (fun _ => ⟨m, hm, rfl⟩), (fun z => absurd z (by decide)), (fun z => absurd z (by decide))⟩)))))
  · refine br_f (by decide) (br_f (by decide) (br_t rfl ?_))
    rcases ke_ix b 4 (by decide) with h | ⟨m, hm, rfl⟩
    · exact ke_o1 3 h (h0 (ke_nO3 (by omega) h))
    · exact ke_g1 3 hm (br_f (by decide) (h1 ⟨3, q, by decide, hq, rfl, rfl, (fun z => absurd z (by decide)), (fun _ => ⟨m, hm, rfl⟩), (fun z => absurd z (by decide))⟩))
  · exact br_f (by decide) (br_f (by decide) (br_f (by decide) (br_f (by decide) (br_f (by decide) (br_f (by decide) (h1 ⟨4, q, by decide, hq, rfl, rfl, (fun z => absurd z (by decide)), (fun z => absurd z (by decide)), (fun z => absurd z (by decide))⟩))))))
  · refine br_f (by decide) (br_f (by decide) (br_f (by decide) (br_t rfl ?_)))
    rcases ke_ix b 4 (by decide) with h | ⟨m, hm, rfl⟩
    · exact ke_o1 3 h (h0 (ke_nO3 (by omega) h))
    · exact ke_g1 3 hm (br_f (by decide) (h1 ⟨5, q, by decide, hq, rfl, rfl, (fun z => absurd z (by decide)), (fun _ => ⟨m, hm, rfl⟩), (fun z => absurd z (by decide))⟩))
  · refine br_f (by decide) (br_f (by decide) (br_f (by decide) (br_f (by decide) (br_t rfl ?_))))
    rcases ke_ix b 4 (by decide) with h | ⟨m, hm, rfl⟩
    · exact ke_o1 3 h (h0 (ke_nO3 (by omega) h))
    · exact ke_g1 3 hm (br_f (by decide) (h1 ⟨6, q, by decide, hq, rfl, rfl, (fun z => absurd z (by decide)), (fun _ => ⟨m, hm, rfl⟩), (fun z => absurd z (by decide))⟩))
  · exact br_f (by decide) (br_f (by decide) (br_f (by decide) (br_f (by decide) (br_f (by decide) (br_f (by decide) (h1 ⟨7, q, by decide, hq, rfl, rfl, (fun z => absurd z (by decide)), (fun z => absurd z (by decide)), (fun z => absurd z (by decide))⟩))))))
  · refine br_f (by decide) (br_f (by decide) (br_f (by decide) (br_f (by decide) (br_f (by decide) (br_t rfl ?_)))))
    rcases ke_ix b 17 (by decide) with h | ⟨m, hm, rfl⟩
    · rcases h with h | h
      · exact br_t (ke_lt1 h) (h0 (ke_nO8 (Or.inl h)))
      · have hh := ke_hi (n := 16) h (by decide)
        refine br_f (ke_nlt1 hh.1 (fun z => ke_ne (n := 17) (m := 0) (Or.inr h) (by decide) (by decide) z)) ?_
        exact br_f hh.2.1 (h0 (ke_nO8 (Or.inr (Or.inl h))))
    · by_cases z : m = 0
      · subst z
        exact br_t (by decide) (h0 (ke_nO8 (Or.inr (Or.inr rfl))))
      · exact br_f (nI_nlt (b := 1) (by omega) (by omega)) (br_t (nI_le (b := 16) (by omega) (by decide)) (h1 ⟨8, q, by decide, hq, rfl, rfl, (fun z => absurd z (by decide)), (fun z => absurd z (by decide)), (fun _ => ⟨m, by omega, by omega, rfl⟩)⟩))
end
theorem i_vc_append {k : Nat} {u : SX} {v : SY} (I : i_Rel k u v) (hk : k + 5 ≤ 2563) (v1 : Int32) (v2 : Int32) (v3 : Int32) (v4 : Int32) : wpX_append (fun r u' => wpY_append (fun r' v' => r' = r ∧ i_Rel (k + 5) u' v') v v1 v2 v3 v4) u v1 v2 v3 v4 := by
  obtain ⟨W, S, R, O, mem, ops, oa, ob, len, st, pc, reg, res, fp, bv, yb, hb, att, ca, co, cn, rfl, rfl, hR⟩ := I
  have hRR := hR
  obtain ⟨hS, hP, hI⟩ := hR
  unfold wpX_append
  rcases ke_ix v1 4 (by decide) with h | ⟨c, hc, rfl⟩
  · refine ke_o3 3 h ?_
    refine br_t rfl ?_
    exact ke_o1 3 h ⟨rfl, ke_mk hRR⟩
  refine ke_co1 hc ?_
  refine br_f (by decide) ⟨ke_i4 hc, ?_⟩
  by_cases hs : st c = 0
  · refine br_t (by rw [ke_k4 hc]; exact hs) ⟨ke_i4 hc, ?_⟩
    obtain ⟨L, hL16, hL, hj⟩ := hP c hc
    refine nm_r (e' := nI L) (by rw [ke_k4 hc]; exact hL) ?_
    by_cases h16 : L < 16
    · refine br_f (nI_ge (b := 16) h16 (by decide)) ?_
      refine ke_Xii (fun hok => ?_) (fun hok => ?_)
      · have hA : vp_in (nI (c * 16 + L)) 64 := vp_in_nI (by omega) (by omega)
        have eA : (nI (c * 16 + L)).toNatClampNeg = c * 16 + L := nI_clamp (by omega)
        refine br_f (by decide) (nm_r (e' := nI (c * 16 + L)) (ke_x16 c L) ?_)
        refine ⟨hA, nm_r (e' := upd ops (c * 16 + L) v2) (by rw [eA]) ⟨hA, nm_r (e' := upd oa (c * 16 + L) v3) (by rw [eA]) ⟨hA, nm_r (e' := upd ob (c * 16 + L) v4) (by rw [eA]) ⟨ke_i4 hc, nm_r (e' := upd len c (nI (L + 1))) (by rw [ke_k4 hc, nI_1]) ?_⟩⟩⟩⟩
        refine ke_Yap hc hs hL h16 (fun _ => ?_) (fun h => absurd hok h)
        refine ⟨ke_i4 hc, nm_r (e' := nI (c * 16 + L)) (by rw [ke_k4 hc, hL, ke_x16]) ⟨hA, nm_r (e' := upd ops (c * 16 + L) v2) (by rw [eA]) ⟨hA, nm_r (e' := upd oa (c * 16 + L) v3) (by rw [eA]) ⟨hA, nm_r (e' := upd ob (c * 16 + L) v4) (by rw [eA]) ⟨ke_i4 hc, ke_i4 hc, nm_r (e' := upd len c (nI (L + 1))) (by rw [ke_k4 hc, hL, nI_1]) ⟨ke_i4 hc, ?_, ?_⟩⟩⟩⟩⟩⟩
        · rw [ke_k4 hc, pk_us, nI_1]
        · exact ke_mk ⟨hS, ke_Pg_app hP hc h16 hL hok, hI⟩
      · refine br_t rfl ?_
        exact ke_Yap hc hs hL h16 (fun h => absurd h hok) (fun _ => ⟨rfl, ke_mk hRR⟩)
    · refine br_t (nI_le (a := 16) (by omega) (by omega)) ?_
      exact ke_g1 3 hc ⟨ke_i4 hc, br_t (by rw [ke_k4 hc]; exact hs) ⟨ke_i4 hc, br_f (by rw [ke_k4 hc, hL]; exact nI_nlt (b := 16) (by omega) (by omega)) ⟨rfl, ke_mk hRR⟩⟩⟩
  · refine br_f (by rw [ke_k4 hc]; exact hs) ?_
    exact ke_g1 3 hc ⟨ke_i4 hc, br_f (by rw [ke_k4 hc]; exact hs) ⟨rfl, ke_mk hRR⟩⟩
theorem i_vc_clearProgram {k : Nat} {u : SX} {v : SY} (I : i_Rel k u v) (hk : k + 5 ≤ 2563) (v1 : Int32) : wpX_clearProgram (fun r u' => wpY_clearProgram (fun r' v' => r' = r ∧ i_Rel (k + 5) u' v') v v1) u v1 := by
  obtain ⟨W, S, R, O, mem, ops, oa, ob, len, st, pc, reg, res, fp, bv, yb, hb, att, ca, co, cn, rfl, rfl, hR⟩ := I
  have hRR := hR
  obtain ⟨hS, hP, hI⟩ := hR
  unfold wpX_clearProgram
  rcases ke_ix v1 4 (by decide) with h | ⟨c, hc, rfl⟩
  · refine ke_o3 3 h ?_
    refine br_t rfl ?_
    exact ke_o2 3 h ⟨rfl, ke_mk hRR⟩
  refine ke_co1 hc ?_
  refine br_f (by decide) ⟨ke_i4 hc, ?_⟩
  by_cases hs : st c = 0
  · refine br_t (by rw [ke_k4 hc]; exact hs) ⟨ke_i4 hc, nm_r (e' := upd len c 0) (by rw [ke_k4 hc]) ?_⟩
    exact ke_g2 3 hc ⟨ke_i4 hc, br_t (by rw [ke_k4 hc]; exact hs) ⟨ke_i4 hc, nm_r (e' := upd len c 0) (by rw [ke_k4 hc]) ⟨rfl, ke_mk ⟨hS, ke_Pg_clear hP c, hI⟩⟩⟩⟩
  · refine br_f (by rw [ke_k4 hc]; exact hs) ?_
    exact ke_g2 3 hc ⟨ke_i4 hc, br_f (by rw [ke_k4 hc]; exact hs) ⟨rfl, ke_mk hRR⟩⟩
section
variable {W S R O : Int32} {mem ops oa ob len st pc reg res fp bv yb hb att ca co cn : Nat → Int32} {c : Nat}
theorem ke_Yen {post : Int32 → SY → Prop} (hc : c < 4) (hp : post 1 (W, S, R, O, mem, ops, oa, ob, len, st, pc, ke_fill reg (c * 4) 4, fp, yb, hb, res, upd att c 0, upd ca c 0, upd co c 0, cn)) : ∀ d i, i + d = 4 → wY_enter_45 post (nI c) W S R O (d + 1) (nI i) mem ops oa ob len st pc (ke_fill reg (c * 4) i) fp yb hb res att ca co cn := by
  intro d
  induction d with
  | zero =>
    intro i hi
    have e : i = 4 := by omega
    subst e
    exact br_t (nI_le (Nat.le_refl 4) (by decide)) ⟨ke_i4 hc, nm_r (e' := upd att c 0) (by rw [ke_k4 hc]) ⟨ke_i4 hc, nm_r (e' := upd ca c 0) (by rw [ke_k4 hc]) ⟨ke_i4 hc, nm_r (e' := upd co c 0) (by rw [ke_k4 hc]) hp⟩⟩⟩
  | succ d ih =>
    intro i hi
    refine br_f (nI_ge (b := 4) (by omega) (by decide)) ⟨ke_v4 hc (by omega), nm_r (e' := ke_fill reg (c * 4) (i + 1)) ?_ (nm_r (nI_1 i) ?_)⟩
    · rw [ke_c4 hc (by omega)]; rfl
    · exact ih (i + 1) (by omega)
theorem ke_Xru {post : Int32 → Prop} : ∀ e i, i + e = 4 → ((∃ d, i ≤ d ∧ d < 4 ∧ (st d = 2 ∨ st d = 4)) → post 1) → ((∀ d, i ≤ d → d < 4 → ¬ st d = 2 ∧ ¬ st d = 4) → post 0) → wX_isAnyRunning_2 post W S R O mem ops oa ob len st pc reg res fp bv hb att ca co cn (e + 1) (nI i) := by
  intro e
  induction e with
  | zero =>
    intro i hi h1 h0
    have e : i = 4 := by omega
    subst e
    exact br_t (nI_le (Nat.le_refl 4) (by decide)) (h0 (fun d a b => absurd b (by omega)))
  | succ e ih =>
    intro i hi h1 h0
    have hi4 : i < 4 := by omega
    refine br_f (nI_ge (b := 4) (by omega) (by decide)) ⟨ke_i4 hi4, ?_⟩
    by_cases z2 : st i = 2
    · exact br_t (by rw [ke_k4 hi4]; exact z2) (h1 ⟨i, Nat.le_refl _, hi4, Or.inl z2⟩)
    · refine br_f (by rw [ke_k4 hi4]; exact z2) ⟨ke_i4 hi4, ?_⟩
      by_cases z4 : st i = 4
      · exact br_t (by rw [ke_k4 hi4]; exact z4) (h1 ⟨i, Nat.le_refl _, hi4, Or.inr z4⟩)
      · refine br_f (by rw [ke_k4 hi4]; exact z4) (nm_r (nI_1 i) (ih (i + 1) (by omega) (fun h => ?_) (fun h => ?_)))
        · obtain ⟨d, a, b, x⟩ := h
          exact h1 ⟨d, by omega, b, x⟩
        · apply h0
          intro d a b
          by_cases e : d = i
          · subst e; exact ⟨z2, z4⟩
          · exact h d (by omega) b
theorem ke_Yru {post : Int32 → SY → Prop} {a : Nat} {x : Int32} (ha : a < 64) : ∀ e i, i + e = 4 → ((∃ d, i ≤ d ∧ d < 4 ∧ (st d = 2 ∨ st d = 4)) → post 0 (W, S, R, O, mem, ops, oa, ob, len, st, pc, reg, fp, yb, hb, res, att, ca, co, cn)) → ((∀ d, i ≤ d → d < 4 → ¬ st d = 2 ∧ ¬ st d = 4) → post 1 (W, S, R, O, upd mem a x, ops, oa, ob, len, st, pc, reg, fp, yb, hb, res, att, ca, co, cn)) → wY_poke_14 post (nI a) x W S R O mem ops oa ob len st pc reg fp yb hb res att ca co cn (e + 1) (nI i) := by
  intro e
  induction e with
  | zero =>
    intro i hi h1 h0
    have e : i = 4 := by omega
    subst e
    exact br_t (nI_le (Nat.le_refl 4) (by decide)) ⟨vp_in_nI ha (by decide), nm_r (e' := upd mem a x) (by rw [nI_clamp (by omega)]) (h0 (fun d a b => absurd b (by omega)))⟩
  | succ e ih =>
    intro i hi h1 h0
    have hi4 : i < 4 := by omega
    refine br_f (nI_ge (b := 4) (by omega) (by decide)) ⟨ke_i4 hi4, ?_⟩
    by_cases z2 : st i = 2
    · exact br_t (by rw [ke_k4 hi4]; exact z2) (h1 ⟨i, Nat.le_refl _, hi4, Or.inl z2⟩)
    · refine br_f (by rw [ke_k4 hi4]; exact z2) ⟨ke_i4 hi4, ?_⟩
      by_cases z4 : st i = 4
      · exact br_t (by rw [ke_k4 hi4]; exact z4) (h1 ⟨i, Nat.le_refl _, hi4, Or.inr z4⟩)
      · refine br_f (by rw [ke_k4 hi4]; exact z4) (nm_r (nI_1 i) (ih (i + 1) (by omega) (fun h => ?_) (fun h => ?_)))
        · obtain ⟨d, a, b, x⟩ := h
          exact h1 ⟨d, by omega, b, x⟩
        · apply h0
          intro d a b
          by_cases e : d = i
          · subst e; exact ⟨z2, z4⟩
          · exact h d (by omega) b
end
theorem i_vc_enter {k : Nat} {u : SX} {v : SY} (I : i_Rel k u v) (hk : k + 5 ≤ 2563) (v1 : Int32) : wpX_enter (fun r u' => wpY_enter (fun r' v' => r' = r ∧ i_Rel (k + 5) u' v') v v1) u v1 := by
  obtain ⟨W, S, R, O, mem, ops, oa, ob, len, st, pc, reg, res, fp, bv, yb, hb, att, ca, co, cn, rfl, rfl, hR⟩ := I
  have hRR := hR
  obtain ⟨hS, hP, h4, h16, h3, hag⟩ := hR
  unfold wpX_enter
  rcases ke_ix v1 4 (by decide) with h | ⟨c, hc, rfl⟩
  · refine ke_o3 3 h ?_
    refine br_t rfl ?_
    exact ke_o2 3 h ⟨rfl, ke_mk hRR⟩
  refine ke_co1 hc ?_
  refine br_f (by decide) ⟨ke_i4 hc, ?_⟩
  by_cases hs : st c = 0
  · refine br_t (by rw [ke_k4 hc]; exact hs) ⟨ke_i4 hc, ?_⟩
    by_cases hl : len c = 0
    · refine br_t (by rw [ke_k4 hc]; exact hl) ?_
      exact ke_g2 3 hc ⟨ke_i4 hc, br_t (by rw [ke_k4 hc]; exact hs) ⟨ke_i4 hc, br_t (by rw [ke_k4 hc]; exact hl) ⟨rfl, ke_mk hRR⟩⟩⟩
    · refine br_f (by rw [ke_k4 hc]; exact hl) ⟨ke_i4 hc, nm_r (e' := upd st c 1) (by rw [ke_k4 hc]) ?_⟩
      refine ke_Xrs hc ?_
      refine ⟨ke_i4 hc, nm_r (e' := upd att c 0) (by rw [ke_k4 hc]) ⟨ke_i4 hc, nm_r (e' := upd ca c 0) (by rw [ke_k4 hc]) ⟨ke_i4 hc, nm_r (e' := upd co c 0) (by rw [ke_k4 hc]) ?_⟩⟩⟩
      refine ke_g2 3 hc ⟨ke_i4 hc, br_t (by rw [ke_k4 hc]; exact hs) ⟨ke_i4 hc, br_f (by rw [ke_k4 hc]; exact hl) ⟨ke_i4 hc, nm_r (e' := upd st c 1) (by rw [ke_k4 hc]) ⟨ke_i4 hc, nm_r (e' := upd pc c 0) (by rw [ke_k4 hc]) ⟨5, ?_⟩⟩⟩⟩⟩
      refine ke_Yen hc ?_ 4 0 rfl
      exact ⟨rfl, ke_mk ⟨hS, hP, ke_N_upd (p := 1) h4 (by omega) rfl, ke_N_upd (p := 0) h16 (by omega) rfl, h3, hag⟩⟩
  · refine br_f (by rw [ke_k4 hc]; exact hs) ?_
    exact ke_g2 3 hc ⟨ke_i4 hc, br_f (by rw [ke_k4 hc]; exact hs) ⟨rfl, ke_mk hRR⟩⟩
theorem i_vc_poke {k : Nat} {u : SX} {v : SY} (I : i_Rel k u v) (hk : k + 5 ≤ 2563) (v1 : Int32) (v2 : Int32) : wpX_poke (fun r u' => wpY_poke (fun r' v' => r' = r ∧ i_Rel (k + 5) u' v') v v1 v2) u v1 v2 := by
  obtain ⟨W, S, R, O, mem, ops, oa, ob, len, st, pc, reg, res, fp, bv, yb, hb, att, ca, co, cn, rfl, rfl, hR⟩ := I
  have hRR := hR
  obtain ⟨hS, hP, hI⟩ := hR
  unfold wpX_poke
  rcases ke_ix v1 64 (by decide) with h | ⟨a, ha, rfl⟩
  · refine ke_o3 63 h ?_
    refine br_t rfl ?_
    exact ke_o1 63 h ⟨rfl, ke_mk hRR⟩
  refine ke_g3 63 ha ?_
  refine br_f (by decide) ⟨5, ?_⟩
  refine ke_Xru 4 0 rfl (fun h => ?_) (fun h => ?_)
  · refine br_f (by decide) ?_
    refine ke_g1 63 ha ⟨5, ?_⟩
    refine ke_Yru ha 4 0 rfl (fun _ => ⟨rfl, ke_mk hRR⟩) (fun z => ?_)
    obtain ⟨d, h1, h2, h3⟩ := h
    rcases h3 with h3 | h3
    · exact absurd h3 (z d h1 h2).1
    · exact absurd h3 (z d h1 h2).2
  · refine br_t rfl ⟨vp_in_nI ha (by decide), nm_r (e' := upd mem a v2) (by rw [nI_clamp (by omega)]) ?_⟩
    refine ke_g1 63 ha ⟨5, ?_⟩
    refine ke_Yru ha 4 0 rfl (fun z => ?_) (fun _ => ⟨rfl, ke_mk ⟨hS, hP, hI⟩⟩)
    obtain ⟨d, h1, h2, h3⟩ := z
    rcases h3 with h3 | h3
    · exact absurd h3 (h d h1 h2).1
    · exact absurd h3 (h d h1 h2).2
