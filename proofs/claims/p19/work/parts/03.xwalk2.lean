section
variable {W S R O : Int32} {mem ops oa ob len st pc reg res fp bv yb hb att ca co cn : Nat → Int32} {c : Nat}
theorem ke_X160 {post : St2 → Prop} {j L v : Nat} (hc : c < 4) (hL : len c = nI L) (hL16 : L ≤ 16) (hj : j ≤ 64) (hv : v = if L < j then L else j) (hp : post (W, S, R, O, mem, ops, oa, ob, len, st, upd pc c (nI v), reg, res, fp, bv, hb, att, ca, co, cn)) : wX_executeOnRegisters_160 post (nI c) (nI j) W S R O mem ops oa ob len st pc reg res fp bv hb att ca co cn := by
  refine ⟨ke_i4 hc, ?_⟩
  have hl : len (nI c).toNatClampNeg = nI L := by rw [ke_k4 hc]; exact hL
  by_cases h : L < j
  · rw [hv, if_pos h] at hp
    exact br_f (by rw [hl]; exact nI_ge h (by omega)) ⟨ke_i4 hc, ke_i4 hc, nm_r (e' := upd pc c (nI L)) (by rw [hl, ke_k4 hc]) hp⟩
  · rw [hv, if_neg h] at hp
    exact br_t (by rw [hl]; exact nI_le (by omega) (by omega)) ⟨ke_i4 hc, nm_r (e' := upd pc c (nI j)) (by rw [ke_k4 hc]) hp⟩
theorem ke_Xer {post : St2 → Prop} {a p q i L : Nat} {b : Int32} (hc : c < 4) (ha : a < 64) (ho : ops a = nI p) (eq : oa a = nI q) (eb : ob a = b) (hi : pc c = nI i) (hL : len c = nI L) (hL16 : L ≤ 16) (hiL : i < L) (hok : ke_Ok (nI p) (nI q) b) (hp9 : p < 9) (hq4 : q < 4) (hp : post (W, S, R, O, mem, ops, oa, ob, len, st, upd pc c (nI (ke_xp p q b c L i reg)), ke_xr p q b c reg, res, fp, bv, hb, att, ca, co, cn)) : wpX_executeOnRegisters post (W, S, R, O, mem, ops, oa, ob, len, st, pc, reg, res, fp, bv, hb, att, ca, co, cn) (nI c) (nI a) := by
  have eA : (nI a).toNatClampNeg = a := nI_clamp (by omega)
  have hA : vp_in (nI a) 64 := vp_in_nI ha (by omega)
  refine ⟨hA, nm_r (e' := nI c * 4 + nI q) (by rw [eA, eq]) ⟨hA, nm_r (e' := b) (by rw [eA, eb]) ⟨ke_i4 hc, nm_r (e' := nI (i + 1)) (by rw [ke_k4 hc, hi, nI_1]) ⟨hA, nm_r (e' := nI p) (by rw [eA, ho]) ?_⟩⟩⟩⟩
  have hx : p ≠ 8 → ke_xp p q b c L i reg = if L < i + 1 then L else i + 1 := by
    intro h
    unfold ke_xp
    rw [if_neg (fun z => h z.1), if_neg (by omega)]
  have hpp : p = 0 ∨ p = 1 ∨ p = 2 ∨ p = 3 ∨ p = 4 ∨ p = 5 ∨ p = 6 ∨ p = 7 ∨ p = 8 := by omega
  rcases hpp with rfl | rfl | rfl | rfl | rfl | rfl | rfl | rfl | rfl
  · exact br_f (by decide) (br_f (by decide) (br_t rfl (⟨ke_v4 hc hq4, nm_r (e' := upd reg (c * 4 + q) b) (by rw [ke_c4 hc hq4]) (ke_X160 hc hL hL16 (by omega) (hx (by decide)) hp)⟩)))
  · exact br_f (by decide) (br_f (by decide) (br_f (by decide) (br_t rfl (ke_X160 hc hL hL16 (by omega) (hx (by decide)) hp))))
  · exact br_f (by decide) (br_f (by decide) (br_f (by decide) (br_f (by decide) (br_t rfl (ke_X160 hc hL hL16 (by omega) (hx (by decide)) hp)))))
  · obtain ⟨m, hm, em⟩ := ke_Ok3 hok (by omega) (by omega)
    subst em
    exact br_f (by decide) (br_f (by decide) (br_f (by decide) (br_f (by decide) (br_f (by decide) (br_t rfl (⟨ke_v4 hc hq4, ke_v4 hc hm, ke_v4 hc hq4, nm_r (e' := upd reg (c * 4 + q) (reg (c * 4 + q) + reg (c * 4 + (nI m).toNatClampNeg))) (by rw [ke_c4 hc hq4, ke_c4 hc hm, nI_clamp (show m < 2 ^ 31 by omega)]) (ke_X160 hc hL hL16 (by omega) (hx (by decide)) hp)⟩))))))
  · exact br_f (by decide) (br_f (by decide) (br_f (by decide) (br_f (by decide) (br_f (by decide) (br_f (by decide) (br_t rfl (⟨ke_v4 hc hq4, ke_v4 hc hq4, nm_r (e' := upd reg (c * 4 + q) (reg (c * 4 + q) + b)) (by rw [ke_c4 hc hq4]) (ke_X160 hc hL hL16 (by omega) (hx (by decide)) hp)⟩)))))))
  · exact br_f (by decide) (br_f (by decide) (br_f (by decide) (br_f (by decide) (br_f (by decide) (br_f (by decide) (br_f (by decide) (br_t rfl (ke_X160 hc hL hL16 (by omega) (hx (by decide)) hp))))))))
  · exact br_f (by decide) (br_f (by decide) (br_f (by decide) (br_f (by decide) (br_f (by decide) (br_f (by decide) (br_f (by decide) (br_f (by decide) (br_t rfl (ke_X160 hc hL hL16 (by omega) (hx (by decide)) hp)))))))))
  · exact br_f (by decide) (br_f (by decide) (br_f (by decide) (br_f (by decide) (br_f (by decide) (br_f (by decide) (br_f (by decide) (br_f (by decide) (br_f (by decide) (br_t rfl (ke_X160 hc hL hL16 (by omega) (hx (by decide)) hp))))))))))
  · obtain ⟨m, hm1, hm, em⟩ := ke_Ok8 hok (by omega) rfl
    subst em
    have e : pc (nI c).toNatClampNeg + nI m = nI (i + m) := by rw [ke_k4 hc, hi, nI_add]
    by_cases z : reg (c * 4 + q) = 0
    · have hv : ke_xp 8 q (nI m) c L i reg = if L < i + 1 then L else i + 1 := by
        unfold ke_xp
        rw [if_neg (fun y => y.2 z), if_neg (by omega)]
      exact br_f (by decide) (br_f (by decide) (br_f (by decide) (br_f (by decide) (br_f (by decide) (br_f (by decide) (br_f (by decide) (br_f (by decide) (br_f (by decide) (br_f (by decide) (br_t rfl (⟨ke_v4 hc hq4, br_t (by rw [ke_c4 hc hq4]; exact z) (ke_X160 hc hL hL16 (by omega) hv hp)⟩)))))))))))
    · have hv : ke_xp 8 q (nI m) c L i reg = if L < i + m then L else i + m := by
        unfold ke_xp
        rw [if_pos ⟨rfl, z⟩, nI_clamp (show m < 2 ^ 31 by omega)]
      have h1 : wX_executeOnRegisters_155 post (nI c) (pc (nI c).toNatClampNeg + nI m) W S R O mem ops oa ob len st pc reg res fp bv hb att ca co cn := by
        rw [e]
        exact ke_X160 hc hL hL16 (by omega) hv hp
      exact br_f (by decide) (br_f (by decide) (br_f (by decide) (br_f (by decide) (br_f (by decide) (br_f (by decide) (br_f (by decide) (br_f (by decide) (br_f (by decide) (br_f (by decide) (br_t rfl (⟨ke_v4 hc hq4, br_f (by rw [ke_c4 hc hq4]; exact z) ⟨ke_i4 hc, h1⟩⟩)))))))))))
theorem ke_nn (x : Int32) : nI (x &&& 63).toNatClampNeg = x &&& 63 := by
  obtain ⟨m, hm, e⟩ := ke_and63 x
  rw [e, nI_clamp (by omega)]
theorem ke_Xad {post : Int32 → Prop} {a p q : Nat} {b : Int32} (hc : c < 4) (ha : a < 64) (ho : ops a = nI p) (eb : ob a = b) (hok : ke_Ok (nI p) (nI q) b) (hp9 : p = 1 ∨ p = 2 ∨ p = 5 ∨ p = 6) (hp : post (nI (ke_ad p b c reg))) : wpX_addressOf post (W, S, R, O, mem, ops, oa, ob, len, st, pc, reg, res, fp, bv, hb, att, ca, co, cn) (nI c) (nI a) := by
  have eA : (nI a).toNatClampNeg = a := nI_clamp (by omega)
  have hA : vp_in (nI a) 64 := vp_in_nI ha (by omega)
  refine ⟨hA, nm_r (e' := b) (by rw [eA, eb]) ⟨hA, ?_⟩⟩
  rcases hp9 with rfl | rfl | rfl | rfl
  · obtain ⟨m, hm, em⟩ := ke_Ok1 hok (by omega) (by omega)
    have e : nI (ke_ad 1 b c reg) = b := by
      unfold ke_ad; rw [if_neg (by omega), em, nI_clamp (by omega)]
    rw [e] at hp
    exact br_f (by rw [eA, ho]; decide) ⟨hA, br_f (by rw [eA, ho]; decide) (br_t rfl hp)⟩
  · obtain ⟨m, hm, em⟩ := ke_Ok1 hok (by omega) (by omega)
    have e : nI (ke_ad 2 b c reg) = b := by
      unfold ke_ad; rw [if_neg (by omega), em, nI_clamp (by omega)]
    rw [e] at hp
    exact br_f (by rw [eA, ho]; decide) ⟨hA, br_f (by rw [eA, ho]; decide) (br_t rfl hp)⟩
  · obtain ⟨m, hm, em⟩ := ke_Ok3 hok (by omega) (by omega)
    subst em
    have e : nI (ke_ad 5 (nI m) c reg) = reg (nI c * 4 + nI m).toNatClampNeg &&& 63 := by
      unfold ke_ad; rw [if_pos (by omega), ke_nn, ke_c4 hc hm, nI_clamp (show m < 2 ^ 31 by omega)]
    rw [e] at hp
    exact br_t (by rw [eA, ho]; rfl) (br_f (by decide) ⟨ke_v4 hc hm, hp⟩)
  · obtain ⟨m, hm, em⟩ := ke_Ok3 hok (by omega) (by omega)
    subst em
    have e : nI (ke_ad 6 (nI m) c reg) = reg (nI c * 4 + nI m).toNatClampNeg &&& 63 := by
      unfold ke_ad; rw [if_pos (by omega), ke_nn, ke_c4 hc hm, nI_clamp (show m < 2 ^ 31 by omega)]
    rw [e] at hp
    exact br_f (by rw [eA, ho]; decide) ⟨hA, br_t (by rw [eA, ho]; rfl) (br_f (by decide) ⟨ke_v4 hc hm, hp⟩)⟩
theorem ke_Xse {post : Int32 → Prop} {d l : Nat} (hS : S = nI d) (h1 : 1 ≤ d) (h4 : d ≤ 4) (hl : l < 17) (hp : post (nI (ke_set d l))) : wpX_setOf post (W, S, R, O, mem, ops, oa, ob, len, st, pc, reg, res, fp, bv, hb, att, ca, co, cn) (nI l) := by
  by_cases e : l = 16
  · subst e
    exact br_t rfl hp
  · have e2 : ke_set d l = l % d := if_neg e
    rw [e2] at hp
    subst hS
    refine br_f (fun z => e ((nI_eq (by omega) (by decide)).mp z)) ⟨nI_ne0 (by omega) (by omega), ?_⟩
    rw [pk_rem (by omega) (by omega) (by omega)]
    exact hp
theorem ke_Xov_l {post : Int32 → Prop} {d s : Nat} (hc : c < 4) (hS : S = nI d) (h1 : 1 ≤ d) (h4 : d ≤ 4) (hs : s < 4) (h0 : nI (ke_cnt fp d s (c * 17) 17) < W → post 0) (hq : ¬ nI (ke_cnt fp d s (c * 17) 17) < W → post 1) : ∀ e i, i + e = 17 → wX_overflows_28 post (nI c) (nI s) W S R O mem ops oa ob len st pc reg res fp bv hb att ca co cn (e + 1) (nI (ke_cnt fp d s (c * 17) i)) (nI i) := by
  intro e
  induction e with
  | zero =>
    intro i hi
    have e : i = 17 := by omega
    subst e
    exact br_t (nI_le (Nat.le_refl 17) (by decide)) (br_c h0 hq)
  | succ e ih =>
    intro i hi
    have hh := ih (i + 1) (by omega)
    refine br_f (nI_ge (b := 17) (by omega) (by decide)) (ke_Xse hS h1 h4 (by omega) ?_)
    have hsl : ke_set d i < 4 := Nat.lt_of_lt_of_le (ke_set_lt h1) h4
    by_cases e1 : ke_set d i = s
    · refine br_t (by rw [e1]) ⟨ke_v17 hc (by omega), ?_⟩
      by_cases z : fp (c * 17 + i) = 0
      · have e2 : ke_cnt fp d s (c * 17) (i + 1) = ke_cnt fp d s (c * 17) i := if_neg (fun y => y.1 z)
        rw [e2] at hh
        exact br_t (by rw [ke_c17 hc (by omega)]; exact z) (nm_r (nI_1 i) hh)
      · have e2 : ke_cnt fp d s (c * 17) (i + 1) = ke_cnt fp d s (c * 17) i + 1 := if_pos ⟨z, e1⟩
        rw [e2] at hh
        exact br_f (by rw [ke_c17 hc (by omega)]; exact z) (nm_r (nI_1 _) (nm_r (nI_1 i) hh))
    · have e2 : ke_cnt fp d s (c * 17) (i + 1) = ke_cnt fp d s (c * 17) i := if_neg (fun y => e1 y.2)
      rw [e2] at hh
      exact br_f (fun z => e1 ((nI_eq (by omega) (by omega)).mp z)) (nm_r (nI_1 i) hh)
theorem ke_Xov {post : Int32 → Prop} {d l : Nat} (hc : c < 4) (hS : S = nI d) (h1 : 1 ≤ d) (h4 : d ≤ 4) (hl : l < 17) (h0 : ¬ ke_ov W d fp c l → post 0) (hq : ke_ov W d fp c l → post 1) : wpX_overflows post (W, S, R, O, mem, ops, oa, ob, len, st, pc, reg, res, fp, bv, hb, att, ca, co, cn) (nI c) (nI l) := by
  refine ⟨ke_v17 hc hl, ?_⟩
  have hsl : ke_set d l < 4 := Nat.lt_of_lt_of_le (ke_set_lt h1) h4
  by_cases z : fp (c * 17 + l) = 0
  · refine br_t (by rw [ke_c17 hc hl]; exact z) (ke_Xse hS h1 h4 hl ⟨18, ?_⟩)
    exact ke_Xov_l hc hS h1 h4 hsl (fun y => h0 (fun x => x.2 y)) (fun y => hq ⟨z, y⟩) 17 0 rfl
  · exact br_f (by rw [ke_c17 hc hl]; exact z) (h0 (fun x => z x.1))
theorem ke_Xcf_l {post : St2 → Prop} {t : ke_T} {l : Nat} {f : Int32} (hc : c < 4) (hl : l < 17) (hp : post (W, S, R, O, mem, ops, oa, ob, len, (ke_con R l f c t 4).1, (ke_con R l f c t 4).2.1, (ke_con R l f c t 4).2.2.1, res, (ke_con R l f c t 4).2.2.2.1, bv, (ke_con R l f c t 4).2.2.2.2.1, (ke_con R l f c t 4).2.2.2.2.2.1, (ke_con R l f c t 4).2.2.2.2.2.2.1, (ke_con R l f c t 4).2.2.2.2.2.2.2.1, (ke_con R l f c t 4).2.2.2.2.2.2.2.2.1)) : ∀ d i, i + d = 4 → wX_abortConflicting_14 post (nI c) (nI l) f (d + 1) (nI i) W S R O mem ops oa ob len ((ke_con R l f c t i).1) ((ke_con R l f c t i).2.1) ((ke_con R l f c t i).2.2.1) res ((ke_con R l f c t i).2.2.2.1) bv ((ke_con R l f c t i).2.2.2.2.1) ((ke_con R l f c t i).2.2.2.2.2.1) ((ke_con R l f c t i).2.2.2.2.2.2.1) ((ke_con R l f c t i).2.2.2.2.2.2.2.1) ((ke_con R l f c t i).2.2.2.2.2.2.2.2.1) := by
  intro d
  induction d with
  | zero =>
    intro i hi
    have e : i = 4 := by omega
    subst e
    exact br_t (nI_le (Nat.le_refl 4) (by decide)) hp
  | succ d ih =>
    intro i hi
    have hi4 : i < 4 := by omega
    have h1 := ih (i + 1) (by omega)
    refine br_f (nI_ge (b := 4) (by omega) (by decide)) ?_
    by_cases e1 : i = c
    · have e : ke_con R l f c t (i + 1) = ke_con R l f c t i := if_neg (fun y => y.1 e1)
      rw [e] at h1
      exact br_t (by rw [e1]) (br_t rfl (nm_r (nI_1 i) h1))
    · refine br_f (fun z => e1 ((nI_eq (by omega) (by omega)).mp z)) ⟨ke_i4 hi4, ?_⟩
      by_cases z : (ke_con R l f c t i).1 i = 2
      · refine br_t (by rw [ke_k4 hi4]; exact z) (br_f (by decide) ⟨ke_v17 hi4 hl, ?_⟩)
        by_cases y : (ke_con R l f c t i).2.2.2.1 (i * 17 + l) &&& f = 0
        · have e : ke_con R l f c t (i + 1) = ke_con R l f c t i := if_neg (fun x => x.2.2 y)
          rw [e] at h1
          exact br_t (by rw [ke_c17 hi4 hl]; exact y) (nm_r (nI_1 i) h1)
        · have e : ke_con R l f c t (i + 1) = ke_ab R i 1 0 (ke_con R l f c t i) := if_pos ⟨e1, z, y⟩
          rw [e] at h1
          refine br_f (by rw [ke_c17 hi4 hl]; exact y) (ke_Xab hi4 ?_)
          exact nm_r (nI_1 i) h1
      · have e : ke_con R l f c t (i + 1) = ke_con R l f c t i := if_neg (fun x => z x.2.1)
        rw [e] at h1
        exact br_f (by rw [ke_k4 hi4]; exact z) (br_t rfl (nm_r (nI_1 i) h1))
theorem ke_Xcf2 {post : St2 → Prop} {l : Nat} (hc : c < 4) (hl : l < 17) (hp : post (W, S, R, O, mem, ops, oa, ob, len, (ke_con R l 2 c (st, pc, reg, fp, hb, att, ca, co, cn, yb) 4).1, (ke_con R l 2 c (st, pc, reg, fp, hb, att, ca, co, cn, yb) 4).2.1, (ke_con R l 2 c (st, pc, reg, fp, hb, att, ca, co, cn, yb) 4).2.2.1, res, (ke_con R l 2 c (st, pc, reg, fp, hb, att, ca, co, cn, yb) 4).2.2.2.1, bv, (ke_con R l 2 c (st, pc, reg, fp, hb, att, ca, co, cn, yb) 4).2.2.2.2.1, (ke_con R l 2 c (st, pc, reg, fp, hb, att, ca, co, cn, yb) 4).2.2.2.2.2.1, (ke_con R l 2 c (st, pc, reg, fp, hb, att, ca, co, cn, yb) 4).2.2.2.2.2.2.1, (ke_con R l 2 c (st, pc, reg, fp, hb, att, ca, co, cn, yb) 4).2.2.2.2.2.2.2.1, (ke_con R l 2 c (st, pc, reg, fp, hb, att, ca, co, cn, yb) 4).2.2.2.2.2.2.2.2.1)) : wpX_abortConflicting post (W, S, R, O, mem, ops, oa, ob, len, st, pc, reg, res, fp, bv, hb, att, ca, co, cn) (nI c) (nI l) 0 := by
  refine br_t rfl ⟨5, ?_⟩
  exact ke_Xcf_l (t := (st, pc, reg, fp, hb, att, ca, co, cn, yb)) hc hl hp 4 0 rfl
theorem ke_Xcf3 {post : St2 → Prop} {l : Nat} (hc : c < 4) (hl : l < 17) (hp : post (W, S, R, O, mem, ops, oa, ob, len, (ke_con R l 3 c (st, pc, reg, fp, hb, att, ca, co, cn, yb) 4).1, (ke_con R l 3 c (st, pc, reg, fp, hb, att, ca, co, cn, yb) 4).2.1, (ke_con R l 3 c (st, pc, reg, fp, hb, att, ca, co, cn, yb) 4).2.2.1, res, (ke_con R l 3 c (st, pc, reg, fp, hb, att, ca, co, cn, yb) 4).2.2.2.1, bv, (ke_con R l 3 c (st, pc, reg, fp, hb, att, ca, co, cn, yb) 4).2.2.2.2.1, (ke_con R l 3 c (st, pc, reg, fp, hb, att, ca, co, cn, yb) 4).2.2.2.2.2.1, (ke_con R l 3 c (st, pc, reg, fp, hb, att, ca, co, cn, yb) 4).2.2.2.2.2.2.1, (ke_con R l 3 c (st, pc, reg, fp, hb, att, ca, co, cn, yb) 4).2.2.2.2.2.2.2.1, (ke_con R l 3 c (st, pc, reg, fp, hb, att, ca, co, cn, yb) 4).2.2.2.2.2.2.2.2.1)) : wpX_abortConflicting post (W, S, R, O, mem, ops, oa, ob, len, st, pc, reg, res, fp, bv, hb, att, ca, co, cn) (nI c) (nI l) 1 := by
  refine br_f (by decide) ⟨5, ?_⟩
  exact ke_Xcf_l (t := (st, pc, reg, fp, hb, att, ca, co, cn, yb)) hc hl hp 4 0 rfl
end
