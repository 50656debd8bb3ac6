theorem ke_xp_le {p q : Nat} {b : Int32} {c L i : Nat} {reg : ke_F} (hok : ke_Ok (nI p) (nI q) b) (hp9 : p < 9) (hiL : i < L) : ke_xp p q b c L i reg ≤ L := by
  unfold ke_xp
  split
  · rename_i z
    split <;> omega
  · omega
theorem ke_or1 {x : Int32} {n : Nat} (hn : n ≤ 3) (hx : x = nI n) : ∃ p, p ≤ 3 ∧ x ||| 1 = nI p := by
  have : n = 0 ∨ n = 1 ∨ n = 2 ∨ n = 3 := by omega
  rcases this with e | e | e | e <;> subst e <;> subst hx
  · exact ⟨1, by decide, by decide⟩
  · exact ⟨1, by decide, by decide⟩
  · exact ⟨3, by decide, by decide⟩
  · exact ⟨3, by decide, by decide⟩
theorem ke_or2 {x : Int32} {n : Nat} (hn : n ≤ 3) (hx : x = nI n) : ∃ p, p ≤ 3 ∧ x ||| 2 = nI p := by
  have : n = 0 ∨ n = 1 ∨ n = 2 ∨ n = 3 := by omega
  rcases this with e | e | e | e <;> subst e <;> subst hx
  · exact ⟨2, by decide, by decide⟩
  · exact ⟨3, by decide, by decide⟩
  · exact ⟨2, by decide, by decide⟩
  · exact ⟨3, by decide, by decide⟩
theorem ke_I_ld {bv : ke_F} {u : ke_T} {c l i k : Nat} {v : Int32} (h : ke_I bv u) (hi : u.2.1 c = nI i) (hi16 : i < 16) : ke_I bv (u.1, upd u.2.1 c (u.2.1 c + 1), upd u.2.2.1 k v, upd u.2.2.2.1 l (u.2.2.2.1 l ||| 1), u.2.2.2.2) := by
  obtain ⟨h1, h2, h3, h4⟩ := h
  obtain ⟨n, hn, en⟩ := h3 l
  obtain ⟨p, hp, ep⟩ := ke_or1 hn en
  exact ⟨h1, ke_N_upd (p := i + 1) h2 (by omega) (by rw [hi, nI_1]), ke_N_upd h3 hp ep, h4⟩
theorem ke_I_sr {bv : ke_F} {u : ke_T} {c l i k : Nat} {v : Int32} (h : ke_I bv u) (hi : u.2.1 c = nI i) (hi16 : i < 16) : ke_I (upd bv k v) (u.1, upd u.2.1 c (u.2.1 c + 1), u.2.2.1, upd u.2.2.2.1 l (u.2.2.2.1 l ||| 2), upd u.2.2.2.2.1 k 1, u.2.2.2.2.2.1, u.2.2.2.2.2.2.1, u.2.2.2.2.2.2.2.1, u.2.2.2.2.2.2.2.2.1, upd u.2.2.2.2.2.2.2.2.2 k v) := by
  obtain ⟨h1, h2, h3, h4⟩ := h
  obtain ⟨n, hn, en⟩ := h3 l
  obtain ⟨p, hp, ep⟩ := ke_or2 hn en
  refine ⟨h1, ke_N_upd (p := i + 1) h2 (by omega) (by rw [hi, nI_1]), ke_N_upd h3 hp ep, ?_⟩
  intro j hj
  by_cases e : j = k
  · subst e
    show upd bv j v j = upd _ j v j
    rw [pk_us, pk_us]
  · have e1 : upd u.2.2.2.2.1 k 1 j = u.2.2.2.2.1 j := pk_un e
    show upd bv k v j = upd _ k v j
    rw [pk_un e, pk_un e]
    exact h4 j (by rw [← e1]; exact hj)
theorem ke_step {k : Nat} {W S R O : Int32} {mem ops oa ob len st pc reg res fp bv yb hb att ca co cn : Nat → Int32} {c : Nat} (hc : c < 4) (hR : ke_R S ops oa ob len bv (st, pc, reg, fp, hb, att, ca, co, cn, yb)) : wpX_step (fun r u' => wpY_step (fun r' v' => r' = r ∧ i_Rel (k + 5) u' v') (W, S, R, O, mem, ops, oa, ob, len, st, pc, reg, fp, yb, hb, res, att, ca, co, cn) (nI c)) (W, S, R, O, mem, ops, oa, ob, len, st, pc, reg, res, fp, bv, hb, att, ca, co, cn) (nI c) := by
  have hRR := hR
  obtain ⟨hS, hP, hI⟩ := hR
  have hII := hI
  obtain ⟨h4, h16, h3, hag⟩ := hI
  obtain ⟨q, hq, hs⟩ := h4 c
  obtain ⟨i, hi16, hi⟩ := h16 c
  obtain ⟨L, hL16, hL, hj⟩ := hP c hc
  have hs : st c = nI q := hs
  have hi : pc c = nI i := hi
  have hqq : q = 0 ∨ q = 1 ∨ q = 3 ∨ q = 2 ∨ q = 4 := by omega
  rcases hqq with rfl | rfl | rfl | rfl | rfl
  · exact ke_T0 hc hs (ke_U0 hc hs ⟨rfl, ke_mk hRR⟩)
  · by_cases hO : O = -1
    · exact ke_T1 hc hs hO (ke_U1 hc hs hO ⟨rfl, ke_mk ⟨hS, hP, ke_N_upd (p := 2) h4 (by omega) rfl, ke_N_upd (p := 0) h16 (by omega) rfl, ke_N_upd (p := 1) (ke_N_fill h3 _ _) (by omega) rfl, ke_fill_agree hag _ _⟩⟩)
    · exact ke_T1b hc hs hO (ke_U1b hc hs hO ⟨rfl, ke_mk hRR⟩)
  · by_cases hO : O = -1
    · have hA := ke_acq_I hII R 4
      refine ke_T3 (yb := yb) hc hs hO (ke_U3 hc hs hO ⟨rfl, ?_⟩)
      generalize ke_acq R (st, pc, reg, fp, hb, att, ca, co, cn, yb) 4 = u at hA ⊢
      obtain ⟨a1, a2, a3, a4⟩ := hA
      exact ke_mk ⟨hS, hP, ke_N_upd (p := 4) a1 (by omega) rfl, ke_N_upd (p := 0) a2 (by omega) rfl, a3, a4⟩
    · exact ke_T3b hc hs hO (ke_U3b hc hs hO ⟨rfl, ke_mk hRR⟩)
  · by_cases hiL : i < L
    · have hok := hj i hiL
      have hok2 := hok
      obtain ⟨p, q, hp9, hq4, ho, eq, _⟩ := hok2
      rw [ho, eq] at hok
      by_cases hp7 : p = 7
      · exact ke_T27 hc ho eq rfl hi hL hL16 hiL hok hp9 hq4 hs hp7 (ke_U27 hc ho eq rfl hi hL hL16 hiL hok hp9 hq4 hs hp7 ⟨rfl, ke_mk ⟨hS, hP, ke_ab_I hII R c 3 _⟩⟩)
      by_cases hpl : p = 1 ∨ p = 5
      · obtain ⟨d, hd1, hd4, eS⟩ := hS
        by_cases hov : ke_ov W d fp c (ke_ad p (ob (c * 16 + i)) c reg / 4)
        · exact ke_T2ol hc ho eq rfl hi hL hL16 hiL hok hp9 hq4 hs hpl eS hd1 hd4 rfl rfl hov (ke_U2lo hc ho eq rfl hi hL hL16 hiL hok hp9 hq4 hs hpl eS hd1 hd4 rfl rfl hov ⟨rfl, ke_mk ⟨⟨d, hd1, hd4, eS⟩, hP, ke_ab_I hII R c 2 0⟩⟩)
        · have hC := ke_con_I hII R (ke_ad p (ob (c * 16 + i)) c reg / 4) 2 c 4
          have hpc : (ke_con R (ke_ad p (ob (c * 16 + i)) c reg / 4) 2 c (st, pc, reg, fp, hb, att, ca, co, cn, yb) 4).2.1 c = nI i := (ke_con_pc R _ 2 c (st, pc, reg, fp, hb, att, ca, co, cn, yb) 4).trans hi
          refine ke_T2l (yb := yb) hc ho eq rfl hi hL hL16 hiL hok hp9 hq4 hs hpl eS hd1 hd4 rfl rfl hov (ke_U2l hc ho eq rfl hi hL hL16 hiL hok hp9 hq4 hs hpl eS hd1 hd4 rfl rfl hov ⟨rfl, ?_⟩)
          generalize ke_con R (ke_ad p (ob (c * 16 + i)) c reg / 4) 2 c (st, pc, reg, fp, hb, att, ca, co, cn, yb) 4 = u at hC hpc ⊢
          have e : (if u.2.2.2.2.1 (c * 64 + ke_ad p (ob (c * 16 + i)) c reg) = 0 then mem (ke_ad p (ob (c * 16 + i)) c reg) else u.2.2.2.2.2.2.2.2.2 (c * 64 + ke_ad p (ob (c * 16 + i)) c reg)) = (if u.2.2.2.2.1 (c * 64 + ke_ad p (ob (c * 16 + i)) c reg) = 0 then mem (ke_ad p (ob (c * 16 + i)) c reg) else bv (c * 64 + ke_ad p (ob (c * 16 + i)) c reg)) := by
            split
            · rfl
            · rename_i z
              exact (hC.2.2.2 _ z).symm
          rw [e]
          exact ke_mk ⟨⟨d, hd1, hd4, eS⟩, hP, ke_I_ld hC hpc (by omega)⟩
      by_cases hps : p = 2 ∨ p = 6
      · obtain ⟨d, hd1, hd4, eS⟩ := hS
        by_cases hov : ke_ov W d fp c (ke_ad p (ob (c * 16 + i)) c reg / 4)
        · exact ke_T2os hc ho eq rfl hi hL hL16 hiL hok hp9 hq4 hs hps eS hd1 hd4 rfl rfl hov (ke_U2so hc ho eq rfl hi hL hL16 hiL hok hp9 hq4 hs hps eS hd1 hd4 rfl rfl hov ⟨rfl, ke_mk ⟨⟨d, hd1, hd4, eS⟩, hP, ke_ab_I hII R c 2 0⟩⟩)
        · have hC := ke_con_I hII R (ke_ad p (ob (c * 16 + i)) c reg / 4) 3 c 4
          have hpc : (ke_con R (ke_ad p (ob (c * 16 + i)) c reg / 4) 3 c (st, pc, reg, fp, hb, att, ca, co, cn, yb) 4).2.1 c = nI i := (ke_con_pc R _ 3 c (st, pc, reg, fp, hb, att, ca, co, cn, yb) 4).trans hi
          refine ke_T2s (yb := yb) hc ho eq rfl hi hL hL16 hiL hok hp9 hq4 hs hps eS hd1 hd4 rfl rfl hov (ke_U2s hc ho eq rfl hi hL hL16 hiL hok hp9 hq4 hs hps eS hd1 hd4 rfl rfl hII hov ⟨rfl, ?_⟩)
          generalize ke_con R (ke_ad p (ob (c * 16 + i)) c reg / 4) 3 c (st, pc, reg, fp, hb, att, ca, co, cn, yb) 4 = u at hC hpc ⊢
          exact ke_mk ⟨⟨d, hd1, hd4, eS⟩, hP, ke_I_sr hC hpc (by omega)⟩
      exact ke_T2x hc ho eq rfl hi hL hL16 hiL hok hp9 hq4 hs (by omega) (ke_U2x hc ho eq rfl hi hL hL16 hiL hok hp9 hq4 hs (by omega) ⟨rfl, ke_mk ⟨hS, hP, h4, ke_N_upd h16 (Nat.le_trans (ke_xp_le hok hp9 hiL) hL16) rfl, h3, hag⟩⟩)
    · have hl : ¬ pc c < len c := by rw [hi, hL]; exact nI_nlt (by omega) (by omega)
      refine ke_T2e hc hs hl (ke_U2e hc hs hl ⟨rfl, ?_⟩)
      rw [← ke_mrg_agree hag]
      exact ke_mk ⟨hS, hP, ke_N_upd (p := 0) h4 (by omega) rfl, h16, ke_N_fill h3 _ _, ke_fill_agree hag _ _⟩
  · by_cases hiL : i < L
    · have hok := hj i hiL
      have hok2 := hok
      obtain ⟨p, q, hp9, hq4, ho, eq, _⟩ := hok2
      rw [ho, eq] at hok
      by_cases hpl : p = 1 ∨ p = 5
      · exact ke_T4l hc ho eq rfl hi hL hL16 hiL hok hp9 hq4 hs hpl (ke_U4l hc ho eq rfl hi hL hL16 hiL hok hp9 hq4 hs hpl ⟨rfl, ke_mk ⟨hS, hP, h4, ke_N_upd (p := i + 1) h16 (by omega) (by rw [hi, nI_1]), h3, hag⟩⟩)
      by_cases hps : p = 2 ∨ p = 6
      · exact ke_T4s hc ho eq rfl hi hL hL16 hiL hok hp9 hq4 hs hps (ke_U4s hc ho eq rfl hi hL hL16 hiL hok hp9 hq4 hs hps ⟨rfl, ke_mk ⟨hS, hP, h4, ke_N_upd (p := i + 1) h16 (by omega) (by rw [hi, nI_1]), h3, hag⟩⟩)
      exact ke_T4x hc ho eq rfl hi hL hL16 hiL hok hp9 hq4 hs (by omega) (ke_U4x hc ho eq rfl hi hL hL16 hiL hok hp9 hq4 hs (by omega) ⟨rfl, ke_mk ⟨hS, hP, h4, ke_N_upd h16 (Nat.le_trans (ke_xp_le hok hp9 hiL) hL16) rfl, h3, hag⟩⟩)
    · have hl : ¬ pc c < len c := by rw [hi, hL]; exact nI_nlt (by omega) (by omega)
      exact ke_T4e hc hs hl (ke_U4e hc hs hl ⟨rfl, ke_mk ⟨hS, hP, ke_N_upd (p := 0) h4 (by omega) rfl, h16, h3, hag⟩⟩)
