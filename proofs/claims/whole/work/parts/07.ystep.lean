section
variable {W S R O : Int32} {mem ops oa ob len st pc reg res fp bv yb hb att ca co cn : Nat → Int32} {c : Nat}
theorem ke_Y97l {post : Int32 → SY → Prop} {t : ke_T} {l m q : Nat} (hc : c < 4) (hl : l < 17) (hm64 : m < 64) (hq4 : q < 4) (hp : post 4 (W, S, R, O, mem, ops, oa, ob, len, (ke_con R l 2 c t 4).1, upd (ke_con R l 2 c t 4).2.1 c ((ke_con R l 2 c t 4).2.1 c + 1), upd (ke_con R l 2 c t 4).2.2.1 (c * 4 + q) (if (ke_con R l 2 c t 4).2.2.2.2.1 (c * 64 + m) = 0 then mem m else (ke_con R l 2 c t 4).2.2.2.2.2.2.2.2.2 (c * 64 + m)), upd (ke_con R l 2 c t 4).2.2.2.1 (c * 17 + l) ((ke_con R l 2 c t 4).2.2.2.1 (c * 17 + l) ||| 1), (ke_con R l 2 c t 4).2.2.2.2.2.2.2.2.2, (ke_con R l 2 c t 4).2.2.2.2.1, res, (ke_con R l 2 c t 4).2.2.2.2.2.1, (ke_con R l 2 c t 4).2.2.2.2.2.2.1, (ke_con R l 2 c t 4).2.2.2.2.2.2.2.1, (ke_con R l 2 c t 4).2.2.2.2.2.2.2.2.1)) : ∀ d i, i + d = 4 → wY_access_97 post (nI c) (nI m) 0 (nI q) (nI l) (d + 1) (nI i) W S R O mem ops oa ob len ((ke_con R l 2 c t i).1) ((ke_con R l 2 c t i).2.1) ((ke_con R l 2 c t i).2.2.1) ((ke_con R l 2 c t i).2.2.2.1) ((ke_con R l 2 c t i).2.2.2.2.2.2.2.2.2) ((ke_con R l 2 c t i).2.2.2.2.1) res ((ke_con R l 2 c t i).2.2.2.2.2.1) ((ke_con R l 2 c t i).2.2.2.2.2.2.1) ((ke_con R l 2 c t i).2.2.2.2.2.2.2.1) ((ke_con R l 2 c t i).2.2.2.2.2.2.2.2.1) := by
  have hm6 : (nI m).toNatClampNeg = m := nI_clamp (by omega)
  intro d
  induction d with
  | zero =>
    intro i hi
    have e : i = 4 := by omega
    subst e
    generalize ke_con R l 2 c t 4 = u at hp ⊢
    refine br_t (nI_le (Nat.le_refl 4) (by decide)) ⟨ke_v17 hc hl, br_t rfl ⟨ke_v17 hc hl, nm_r (e' := upd u.2.2.2.1 (c * 17 + l) (u.2.2.2.1 (c * 17 + l) ||| 1)) (by rw [ke_c17 hc hl]) (br_t rfl ⟨ke_v64 hc hm64, ?_⟩)⟩⟩
    by_cases z : u.2.2.2.2.1 (c * 64 + m) = 0
    · rw [if_pos z] at hp
      refine br_t (by rw [ke_c64 hc hm64]; exact z) ⟨vp_in_nI hm64 (by omega), ?_⟩
      rw [hm6]
      exact ⟨ke_v4 hc hq4, nm_r (e' := upd u.2.2.1 (c * 4 + q) (mem m)) (by rw [ke_c4 hc hq4]) ⟨ke_i4 hc, ke_i4 hc, nm_r (e' := upd u.2.1 c (u.2.1 c + 1)) (by rw [ke_k4 hc]) hp⟩⟩
    · rw [if_neg z] at hp
      refine br_f (by rw [ke_c64 hc hm64]; exact z) ⟨ke_v64 hc hm64, ?_⟩
      rw [ke_c64 hc hm64]
      exact ⟨ke_v4 hc hq4, nm_r (e' := upd u.2.2.1 (c * 4 + q) (u.2.2.2.2.2.2.2.2.2 (c * 64 + m))) (by rw [ke_c4 hc hq4]) ⟨ke_i4 hc, ke_i4 hc, nm_r (e' := upd u.2.1 c (u.2.1 c + 1)) (by rw [ke_k4 hc]) hp⟩⟩
  | succ d ih =>
    intro i hi
    have hi4 : i < 4 := by omega
    have h1 := ih (i + 1) (by omega)
    refine br_f (nI_ge (b := 4) (by omega) (by decide)) ?_
    by_cases e1 : i = c
    · have e : ke_con R l 2 c t (i + 1) = ke_con R l 2 c t i := if_neg (fun y => y.1 e1)
      rw [e] at h1
      exact br_t (by rw [e1]) (nm_r (nI_1 i) h1)
    · refine br_f (fun z => e1 ((nI_eq (by omega) (by omega)).mp z)) ⟨ke_i4 hi4, ?_⟩
      by_cases z : (ke_con R l 2 c t i).1 i = 2
      · refine br_t (by rw [ke_k4 hi4]; exact z) ⟨ke_v17 hi4 hl, nm_r (e' := (ke_con R l 2 c t i).2.2.2.1 (i * 17 + l)) (by rw [ke_c17 hi4 hl]) ?_⟩
        by_cases y : (ke_con R l 2 c t i).2.2.2.1 (i * 17 + l) &&& 2 = 0
        · have e : ke_con R l 2 c t (i + 1) = ke_con R l 2 c t i := if_neg (fun x => x.2.2 y)
          rw [e] at h1
          exact br_t rfl (br_t rfl (br_t y (nm_r (nI_1 i) h1)))
        · have e : ke_con R l 2 c t (i + 1) = ke_ab R i 1 0 (ke_con R l 2 c t i) := if_pos ⟨e1, z, y⟩
          rw [e] at h1
          refine br_t rfl (br_t rfl (br_f y ?_))
          unfold wY_access_155
          refine ke_Yab hi4 (by decide) ?_
          exact nm_r (nI_1 i) h1
      · have e : ke_con R l 2 c t (i + 1) = ke_con R l 2 c t i := if_neg (fun x => z x.2.1)
        rw [e] at h1
        exact br_f (by rw [ke_k4 hi4]; exact z) (nm_r (nI_1 i) h1)
theorem ke_and3 {x : Int32} {n : Nat} (hn : n ≤ 3) (hx : x = nI n) : x &&& 3 = 0 ↔ x = 0 := by
  have : n = 0 ∨ n = 1 ∨ n = 2 ∨ n = 3 := by omega
  rcases this with e | e | e | e <;> subst e <;> subst hx <;> decide
theorem ke_Y97s {post : Int32 → SY → Prop} {t : ke_T} {l m q : Nat} (hc : c < 4) (hl : l < 17) (hm64 : m < 64) (hq4 : q < 4) {bx : ke_F} (hI : ke_I bx t) (hp : post 4 (W, S, R, O, mem, ops, oa, ob, len, (ke_con R l 3 c t 4).1, upd (ke_con R l 3 c t 4).2.1 c ((ke_con R l 3 c t 4).2.1 c + 1), (ke_con R l 3 c t 4).2.2.1, upd (ke_con R l 3 c t 4).2.2.2.1 (c * 17 + l) ((ke_con R l 3 c t 4).2.2.2.1 (c * 17 + l) ||| 2), upd (ke_con R l 3 c t 4).2.2.2.2.2.2.2.2.2 (c * 64 + m) ((ke_con R l 3 c t 4).2.2.1 (c * 4 + q)), upd (ke_con R l 3 c t 4).2.2.2.2.1 (c * 64 + m) 1, res, (ke_con R l 3 c t 4).2.2.2.2.2.1, (ke_con R l 3 c t 4).2.2.2.2.2.2.1, (ke_con R l 3 c t 4).2.2.2.2.2.2.2.1, (ke_con R l 3 c t 4).2.2.2.2.2.2.2.2.1)) : ∀ d i, i + d = 4 → wY_access_97 post (nI c) (nI m) 1 (nI q) (nI l) (d + 1) (nI i) W S R O mem ops oa ob len ((ke_con R l 3 c t i).1) ((ke_con R l 3 c t i).2.1) ((ke_con R l 3 c t i).2.2.1) ((ke_con R l 3 c t i).2.2.2.1) ((ke_con R l 3 c t i).2.2.2.2.2.2.2.2.2) ((ke_con R l 3 c t i).2.2.2.2.1) res ((ke_con R l 3 c t i).2.2.2.2.2.1) ((ke_con R l 3 c t i).2.2.2.2.2.2.1) ((ke_con R l 3 c t i).2.2.2.2.2.2.2.1) ((ke_con R l 3 c t i).2.2.2.2.2.2.2.2.1) := by
  have hm6 : (nI m).toNatClampNeg = m := nI_clamp (by omega)
  intro d
  induction d with
  | zero =>
    intro i hi
    have e : i = 4 := by omega
    subst e
    generalize ke_con R l 3 c t 4 = u at hp ⊢
    refine br_t (nI_le (Nat.le_refl 4) (by decide)) ⟨ke_v17 hc hl, br_f (by decide) ⟨ke_v17 hc hl, nm_r (e' := upd u.2.2.2.1 (c * 17 + l) (u.2.2.2.1 (c * 17 + l) ||| 2)) (by rw [ke_c17 hc hl]) (br_f (by decide) ?_)⟩⟩
    refine ⟨ke_v4 hc hq4, ke_v64 hc hm64, nm_r (e' := upd u.2.2.2.2.2.2.2.2.2 (c * 64 + m) (u.2.2.1 (c * 4 + q))) (by rw [ke_c64 hc hm64, ke_c4 hc hq4]) ?_⟩
    refine ⟨ke_v64 hc hm64, nm_r (e' := upd u.2.2.2.2.1 (c * 64 + m) 1) (by rw [ke_c64 hc hm64, ke_b_1]) ?_⟩
    exact ⟨ke_i4 hc, ke_i4 hc, nm_r (e' := upd u.2.1 c (u.2.1 c + 1)) (by rw [ke_k4 hc]) hp⟩
  | succ d ih =>
    intro i hi
    have hi4 : i < 4 := by omega
    have h1 := ih (i + 1) (by omega)
    refine br_f (nI_ge (b := 4) (by omega) (by decide)) ?_
    by_cases e1 : i = c
    · have e : ke_con R l 3 c t (i + 1) = ke_con R l 3 c t i := if_neg (fun y => y.1 e1)
      rw [e] at h1
      exact br_t (by rw [e1]) (nm_r (nI_1 i) h1)
    · refine br_f (fun z => e1 ((nI_eq (by omega) (by omega)).mp z)) ⟨ke_i4 hi4, ?_⟩
      by_cases z : (ke_con R l 3 c t i).1 i = 2
      · refine br_t (by rw [ke_k4 hi4]; exact z) ⟨ke_v17 hi4 hl, nm_r (e' := (ke_con R l 3 c t i).2.2.2.1 (i * 17 + l)) (by rw [ke_c17 hi4 hl]) ?_⟩
        obtain ⟨n, hn, en⟩ := (ke_con_I hI R l 3 c i).2.2.1 (i * 17 + l)
        have h30 := ke_and3 hn en
        by_cases y : (ke_con R l 3 c t i).2.2.2.1 (i * 17 + l) = 0
        · have e : ke_con R l 3 c t (i + 1) = ke_con R l 3 c t i := if_neg (fun x => x.2.2 (h30.mpr y))
          rw [e] at h1
          exact br_f (by decide) (br_t y (br_f (by decide) (nm_r (nI_1 i) h1)))
        · have e : ke_con R l 3 c t (i + 1) = ke_ab R i 1 0 (ke_con R l 3 c t i) := if_pos ⟨e1, z, fun x => y (h30.mp x)⟩
          rw [e] at h1
          refine br_f (by decide) (br_f y ?_)
          unfold wY_access_155
          refine ke_Yab hi4 (by decide) ?_
          exact nm_r (nI_1 i) h1
      · have e : ke_con R l 3 c t (i + 1) = ke_con R l 3 c t i := if_neg (fun x => z x.2.1)
        rw [e] at h1
        exact br_f (by rw [ke_k4 hi4]; exact z) (nm_r (nI_1 i) h1)
theorem ke_Y34 {post : Int32 → SY → Prop} {d s l m q : Nat} {z : Int32} (hc : c < 4) (hS : S = nI d) (h1 : 1 ≤ d) (h4 : d ≤ 4) (hs : s < 4) (h0 : nI (ke_cnt fp d s (c * 17) 17) < W → ∃ n, wY_access_97 post (nI c) (nI m) z (nI q) (nI l) n 0 W S R O mem ops oa ob len st pc reg fp yb hb res att ca co cn) (hq : ¬ nI (ke_cnt fp d s (c * 17) 17) < W → post 5 (W, S, R, O, mem, ops, oa, ob, len, upd st c (ke_as R 2 (att c + 1)), upd pc c 0, ke_fill reg (c * 4) 4, ke_fill fp (c * 17) 17, ke_fill yb (c * 64) 64, ke_fill hb (c * 64) 64, res, upd att c (att c + 1), upd ca c 2, upd co c 0, upd cn (c * 3 + 2) (cn (c * 3 + 2) + 1))) : ∀ e i, i + e = 17 → wY_access_34 post (nI c) (nI m) z (nI q) (nI l) (nI s) W S R O mem ops oa ob len st pc reg fp yb hb res att ca co cn (e + 1) (nI (ke_cnt fp d s (c * 17) i)) (nI i) := by
  intro e
  induction e with
  | zero =>
    intro i hi
    have e : i = 17 := by omega
    subst e
    refine br_t (nI_le (Nat.le_refl 17) (by decide)) (br_c h0 (fun h => ?_))
    exact ke_Yab hc (by decide) (hq h)
  | succ e ih =>
    intro i hi
    have hh := ih (i + 1) (by omega)
    refine br_f (nI_ge (b := 17) (by omega) (by decide)) ⟨ke_v17 hc (by omega), ?_⟩
    have hsl : ke_set d i < 4 := Nat.lt_of_lt_of_le (ke_set_lt h1) h4
    by_cases y : fp (c * 17 + i) = 0
    · have e2 : ke_cnt fp d s (c * 17) (i + 1) = ke_cnt fp d s (c * 17) i := if_neg (fun x => x.1 y)
      rw [e2] at hh
      exact br_t (by rw [ke_c17 hc (by omega)]; exact y) (nm_r (nI_1 i) hh)
    · refine br_f (by rw [ke_c17 hc (by omega)]; exact y) (ke_Yse hS h1 h4 (by omega) ?_)
      by_cases e1 : ke_set d i = s
      · have e2 : ke_cnt fp d s (c * 17) (i + 1) = ke_cnt fp d s (c * 17) i + 1 := if_pos ⟨y, e1⟩
        rw [e2] at hh
        exact br_t (by rw [e1]) (nm_r (nI_1 _) (nm_r (nI_1 i) hh))
      · have e2 : ke_cnt fp d s (c * 17) (i + 1) = ke_cnt fp d s (c * 17) i := if_neg (fun x => e1 x.2)
        rw [e2] at hh
        exact br_f (fun x => e1 ((nI_eq (by omega) (by omega)).mp x)) (nm_r (nI_1 i) hh)
theorem ke_Yac {post : Int32 → SY → Prop} {d l m q : Nat} {z : Int32} (hc : c < 4) (hS : S = nI d) (h1 : 1 ≤ d) (h4 : d ≤ 4) (hm64 : m < 64) (hl : l = m / 4) (h0 : ¬ ke_ov W d fp c l → ∃ n, wY_access_97 post (nI c) (nI m) z (nI q) (nI l) n 0 W S R O mem ops oa ob len st pc reg fp yb hb res att ca co cn) (hq : ke_ov W d fp c l → post 5 (W, S, R, O, mem, ops, oa, ob, len, upd st c (ke_as R 2 (att c + 1)), upd pc c 0, ke_fill reg (c * 4) 4, ke_fill fp (c * 17) 17, ke_fill yb (c * 64) 64, ke_fill hb (c * 64) 64, res, upd att c (att c + 1), upd ca c 2, upd co c 0, upd cn (c * 3 + 2) (cn (c * 3 + 2) + 1))) : wpY_access post (W, S, R, O, mem, ops, oa, ob, len, st, pc, reg, fp, yb, hb, res, att, ca, co, cn) (nI c) (nI m) z (nI q) := by
  have hl16 : l < 17 := by omega
  have hsl : ke_set d l < 4 := Nat.lt_of_lt_of_le (ke_set_lt h1) h4
  refine ⟨ke_n4, nm_r (e' := nI l) (by rw [ke_d4 hm64, hl]) ?_⟩
  refine ke_Yse hS h1 h4 hl16 ?_
  refine ⟨ke_v17 hc hl16, ?_⟩
  by_cases y : fp (c * 17 + l) = 0
  · refine br_t (by rw [ke_c17 hc hl16]; exact y) ⟨18, ?_⟩
    exact ke_Y34 hc hS h1 h4 hsl (fun x => h0 (fun v => v.2 x)) (fun x => hq ⟨y, x⟩) 17 0 rfl
  · exact br_f (by rw [ke_c17 hc hl16]; exact y) (h0 (fun v => y v.1))
theorem ke_U0 {post : Int32 → SY → Prop} (hc : c < 4) (hs : st c = 0) (hp : post 0 (W, S, R, O, mem, ops, oa, ob, len, st, pc, reg, fp, yb, hb, res, att, ca, co, cn)) : wpY_step post (W, S, R, O, mem, ops, oa, ob, len, st, pc, reg, fp, yb, hb, res, att, ca, co, cn) (nI c) := by
  refine br_f (nI_pos (by omega)) (br_t (nI_le (b := 3) (by omega) (by decide)) ⟨ke_i4 hc, nm_r (e' := 0) (by rw [ke_k4 hc, hs]) ?_⟩)
  exact br_t rfl hp
theorem ke_U1 {post : Int32 → SY → Prop} (hc : c < 4) (hs : st c = 1) (hO : O = -1) (hp : post 2 (W, S, R, O, mem, ops, oa, ob, len, upd st c 2, upd pc c 0, ke_fill reg (c * 4) 4, upd (ke_fill fp (c * 17) 17) (c * 17 + 16) 1, ke_fill yb (c * 64) 64, ke_fill hb (c * 64) 64, res, att, ca, co, cn)) : wpY_step post (W, S, R, O, mem, ops, oa, ob, len, st, pc, reg, fp, yb, hb, res, att, ca, co, cn) (nI c) := by
  refine br_f (nI_pos (by omega)) (br_t (nI_le (b := 3) (by omega) (by decide)) ⟨ke_i4 hc, nm_r (e' := 1) (by rw [ke_k4 hc, hs]) ?_⟩)
  refine br_f (by decide) (br_t rfl (br_t hO ⟨ke_i4 hc, nm_r (e' := upd st c 2) (by rw [ke_k4 hc]) ⟨ke_i4 hc, nm_r (e' := upd pc c 0) (by rw [ke_k4 hc]) ?_⟩⟩))
  refine ke_Yrs hc ?_
  refine ke_Ydr hc ?_
  exact ⟨ke_v17 (i := 16) hc (by decide), nm_r (e' := upd (ke_fill fp (c * 17) 17) (c * 17 + 16) 1) (by rw [ke_c17_16 hc]) hp⟩
theorem ke_U1b {post : Int32 → SY → Prop} (hc : c < 4) (hs : st c = 1) (hO : ¬ O = -1) (hp : post 1 (W, S, R, O, mem, ops, oa, ob, len, st, pc, reg, fp, yb, hb, res, att, ca, co, cn)) : wpY_step post (W, S, R, O, mem, ops, oa, ob, len, st, pc, reg, fp, yb, hb, res, att, ca, co, cn) (nI c) := by
  refine br_f (nI_pos (by omega)) (br_t (nI_le (b := 3) (by omega) (by decide)) ⟨ke_i4 hc, nm_r (e' := 1) (by rw [ke_k4 hc, hs]) ?_⟩)
  exact br_f (by decide) (br_t rfl (br_f hO hp))
theorem ke_U3b {post : Int32 → SY → Prop} (hc : c < 4) (hs : st c = 3) (hO : ¬ O = -1) (hp : post 1 (W, S, R, O, mem, ops, oa, ob, len, st, pc, reg, fp, yb, hb, res, att, ca, co, cn)) : wpY_step post (W, S, R, O, mem, ops, oa, ob, len, st, pc, reg, fp, yb, hb, res, att, ca, co, cn) (nI c) := by
  refine br_f (nI_pos (by omega)) (br_t (nI_le (b := 3) (by omega) (by decide)) ⟨ke_i4 hc, nm_r (e' := 3) (by rw [ke_k4 hc, hs]) ?_⟩)
  exact br_f (by decide) (br_f (by decide) (br_t rfl (br_f hO hp)))
theorem ke_Yaq_l {post : Int32 → SY → Prop} {t : ke_T} (hc : c < 4) (h3 : t.1 c = 3) (hp : post 3 (W, S, R, O, mem, ops, oa, ob, len, upd (ke_acq R t 4).1 c 4, upd (ke_acq R t 4).2.1 c 0, ke_fill (ke_acq R t 4).2.2.1 (c * 4) 4, (ke_acq R t 4).2.2.2.1, (ke_acq R t 4).2.2.2.2.2.2.2.2.2, (ke_acq R t 4).2.2.2.2.1, res, (ke_acq R t 4).2.2.2.2.2.1, (ke_acq R t 4).2.2.2.2.2.2.1, (ke_acq R t 4).2.2.2.2.2.2.2.1, (ke_acq R t 4).2.2.2.2.2.2.2.2.1)) : ∀ d i, i + d = 4 → wY_step_100 post (nI c) (d + 1) (nI i) W S R O mem ops oa ob len ((ke_acq R t i).1) ((ke_acq R t i).2.1) ((ke_acq R t i).2.2.1) ((ke_acq R t i).2.2.2.1) ((ke_acq R t i).2.2.2.2.2.2.2.2.2) ((ke_acq R t i).2.2.2.2.1) res ((ke_acq R t i).2.2.2.2.2.1) ((ke_acq R t i).2.2.2.2.2.2.1) ((ke_acq R t i).2.2.2.2.2.2.2.1) ((ke_acq R t i).2.2.2.2.2.2.2.2.1) := by
  intro d
  induction d with
  | zero =>
    intro i hi
    have e : i = 4 := by omega
    subst e
    refine br_t (nI_le (Nat.le_refl 4) (by decide)) ⟨ke_i4 hc, nm_r (e' := upd (ke_acq R t 4).1 c 4) (by rw [ke_k4 hc]) ⟨ke_i4 hc, nm_r (e' := upd (ke_acq R t 4).2.1 c 0) (by rw [ke_k4 hc]) ?_⟩⟩
    exact ke_Yrs hc hp
  | succ d ih =>
    intro i hi
    have hi4 : i < 4 := by omega
    have h1 := ih (i + 1) (by omega)
    refine br_f (nI_ge (b := 4) (by omega) (by decide)) ?_
    by_cases e1 : i = c
    · have e : ke_acq R t (i + 1) = ke_acq R t i := if_neg (by rw [e1, ke_acq_st h3]; decide)
      rw [e] at h1
      exact br_t (by rw [e1]) (nm_r (nI_1 i) h1)
    · refine br_f (fun z => e1 ((nI_eq (by omega) (by omega)).mp z)) ⟨ke_i4 hi4, ?_⟩
      by_cases z : (ke_acq R t i).1 i = 2
      · have e : ke_acq R t (i + 1) = ke_ab R i 4 0 (ke_acq R t i) := if_pos z
        rw [e] at h1
        refine br_t (by rw [ke_k4 hi4]; exact z) (ke_Yab hi4 (by decide) ?_)
        exact nm_r (nI_1 i) h1
      · have e : ke_acq R t (i + 1) = ke_acq R t i := if_neg z
        rw [e] at h1
        exact br_f (by rw [ke_k4 hi4]; exact z) (nm_r (nI_1 i) h1)
theorem ke_U3 {post : Int32 → SY → Prop} (hc : c < 4) (hs : st c = 3) (hO : O = -1) (hp : post 3 (W, S, R, nI c, mem, ops, oa, ob, len, upd (ke_acq R (st, pc, reg, fp, hb, att, ca, co, cn, yb) 4).1 c 4, upd (ke_acq R (st, pc, reg, fp, hb, att, ca, co, cn, yb) 4).2.1 c 0, ke_fill (ke_acq R (st, pc, reg, fp, hb, att, ca, co, cn, yb) 4).2.2.1 (c * 4) 4, (ke_acq R (st, pc, reg, fp, hb, att, ca, co, cn, yb) 4).2.2.2.1, (ke_acq R (st, pc, reg, fp, hb, att, ca, co, cn, yb) 4).2.2.2.2.2.2.2.2.2, (ke_acq R (st, pc, reg, fp, hb, att, ca, co, cn, yb) 4).2.2.2.2.1, res, (ke_acq R (st, pc, reg, fp, hb, att, ca, co, cn, yb) 4).2.2.2.2.2.1, (ke_acq R (st, pc, reg, fp, hb, att, ca, co, cn, yb) 4).2.2.2.2.2.2.1, (ke_acq R (st, pc, reg, fp, hb, att, ca, co, cn, yb) 4).2.2.2.2.2.2.2.1, (ke_acq R (st, pc, reg, fp, hb, att, ca, co, cn, yb) 4).2.2.2.2.2.2.2.2.1)) : wpY_step post (W, S, R, O, mem, ops, oa, ob, len, st, pc, reg, fp, yb, hb, res, att, ca, co, cn) (nI c) := by
  refine br_f (nI_pos (by omega)) (br_t (nI_le (b := 3) (by omega) (by decide)) ⟨ke_i4 hc, nm_r (e' := 3) (by rw [ke_k4 hc, hs]) ?_⟩)
  refine br_f (by decide) (br_f (by decide) (br_t rfl (br_t hO ⟨5, ?_⟩)))
  exact ke_Yaq_l (t := (st, pc, reg, fp, hb, att, ca, co, cn, yb)) hc hs hp 4 0 rfl
theorem ke_Yct_l {post : Int32 → SY → Prop} (hc : c < 4) (hp : post 6 (W, S, R, O, ke_mrg mem hb yb (c * 64) 64, ops, oa, ob, len, st, pc, reg, ke_fill fp (c * 17) 17, ke_fill yb (c * 64) 64, ke_fill hb (c * 64) 64, res, att, ca, co, upd cn (c * 3 + 0) (cn (c * 3 + 0) + 1))) : ∀ d i, i + d = 64 → wY_step_223 post (nI c) W S R O (d + 1) (nI i) (ke_mrg mem hb yb (c * 64) i) ops oa ob len st pc reg fp yb hb res att ca co cn := by
  intro d
  induction d with
  | zero =>
    intro i hi
    have e : i = 64 := by omega
    subst e
    refine br_t (nI_le (Nat.le_refl 64) (by decide)) (ke_Ydr hc ?_)
    exact ⟨ke_v3 (i := 0) hc (by decide), ke_v3 (i := 0) hc (by decide), nm_r (e' := upd cn (c * 3 + 0) (cn (c * 3 + 0) + 1)) (by rw [ke_c3_0 hc]) hp⟩
  | succ d ih =>
    intro i hi
    refine br_f (nI_ge (b := 64) (by omega) (by decide)) ⟨ke_v64 hc (by omega), ?_⟩
    have h1 := ih (i + 1) (by omega)
    by_cases z : hb (c * 64 + i) = 0
    · have e : ke_mrg mem hb yb (c * 64) (i + 1) = ke_mrg mem hb yb (c * 64) i := if_pos z
      rw [e] at h1
      exact br_t (by rw [ke_c64 hc (by omega)]; exact z) (nm_r (nI_1 i) h1)
    · have e : ke_mrg mem hb yb (c * 64) (i + 1) = upd (ke_mrg mem hb yb (c * 64) i) i (yb (c * 64 + i)) := if_neg z
      rw [e] at h1
      exact br_f (by rw [ke_c64 hc (by omega)]; exact z) ⟨ke_v64 hc (by omega), vp_in_nI (by omega) (by omega), nm_r (e' := upd (ke_mrg mem hb yb (c * 64) i) i (yb (c * 64 + i))) (by rw [ke_c64 hc (by omega), nI_clamp (by omega)]) (nm_r (nI_1 i) h1)⟩
theorem ke_Y174c {post : Int32 → SY → Prop} (hc : c < 4) (hp : post 6 (W, S, R, O, ke_mrg mem hb yb (c * 64) 64, ops, oa, ob, len, upd st c 0, pc, reg, ke_fill fp (c * 17) 17, ke_fill yb (c * 64) 64, ke_fill hb (c * 64) 64, ke_copy res reg (c * 4) 4, att, ca, co, upd cn (c * 3 + 0) (cn (c * 3 + 0) + 1))) : ∀ d i, i + d = 4 → wY_step_174 post (nI c) 2 W S R O (d + 1) (nI i) mem ops oa ob len st pc reg fp yb hb (ke_copy res reg (c * 4) i) att ca co cn := by
  intro d
  induction d with
  | zero =>
    intro i hi
    have e : i = 4 := by omega
    subst e
    refine br_t (nI_le (Nat.le_refl 4) (by decide)) ⟨ke_i4 hc, nm_r (e' := upd st c 0) (by rw [ke_k4 hc]) ?_⟩
    refine br_t rfl ⟨65, ?_⟩
    exact ke_Yct_l hc hp 64 0 rfl
  | succ d ih =>
    intro i hi
    refine br_f (nI_ge (b := 4) (by omega) (by decide)) ⟨ke_v4 hc (by omega), ke_v4 hc (by omega), nm_r (e' := ke_copy res reg (c * 4) (i + 1)) ?_ (nm_r (nI_1 i) ?_)⟩
    · rw [ke_c4 hc (by omega)]; rfl
    · exact ih (i + 1) (by omega)
theorem ke_Y174r {post : Int32 → SY → Prop} (hc : c < 4) (hp : post 7 (W, S, R, -1, mem, ops, oa, ob, len, upd st c 0, pc, reg, fp, yb, hb, ke_copy res reg (c * 4) 4, att, ca, co, upd cn (c * 3 + 1) (cn (c * 3 + 1) + 1))) : ∀ d i, i + d = 4 → wY_step_174 post (nI c) 4 W S R O (d + 1) (nI i) mem ops oa ob len st pc reg fp yb hb (ke_copy res reg (c * 4) i) att ca co cn := by
  intro d
  induction d with
  | zero =>
    intro i hi
    have e : i = 4 := by omega
    subst e
    refine br_t (nI_le (Nat.le_refl 4) (by decide)) ⟨ke_i4 hc, nm_r (e' := upd st c 0) (by rw [ke_k4 hc]) ?_⟩
    exact br_f (by decide) ⟨ke_v3 (i := 1) hc (by decide), ke_v3 (i := 1) hc (by decide), nm_r (e' := upd cn (c * 3 + 1) (cn (c * 3 + 1) + 1)) (by rw [ke_c3_1 hc]) hp⟩
  | succ d ih =>
    intro i hi
    refine br_f (nI_ge (b := 4) (by omega) (by decide)) ⟨ke_v4 hc (by omega), ke_v4 hc (by omega), nm_r (e' := ke_copy res reg (c * 4) (i + 1)) ?_ (nm_r (nI_1 i) ?_)⟩
    · rw [ke_c4 hc (by omega)]; rfl
    · exact ih (i + 1) (by omega)
theorem ke_U2e {post : Int32 → SY → Prop} (hc : c < 4) (hs : st c = 2) (hl : ¬ pc c < len c) (hp : post 6 (W, S, R, O, ke_mrg mem hb yb (c * 64) 64, ops, oa, ob, len, upd st c 0, pc, reg, ke_fill fp (c * 17) 17, ke_fill yb (c * 64) 64, ke_fill hb (c * 64) 64, ke_copy res reg (c * 4) 4, att, ca, co, upd cn (c * 3 + 0) (cn (c * 3 + 0) + 1))) : wpY_step post (W, S, R, O, mem, ops, oa, ob, len, st, pc, reg, fp, yb, hb, res, att, ca, co, cn) (nI c) := by
  refine br_f (nI_pos (by omega)) (br_t (nI_le (b := 3) (by omega) (by decide)) ⟨ke_i4 hc, nm_r (e' := 2) (by rw [ke_k4 hc, hs]) ?_⟩)
  refine br_f (by decide) (br_f (by decide) (br_f (by decide) ⟨ke_i4 hc, nm_r (e' := pc c) (by rw [ke_k4 hc]) ⟨ke_i4 hc, br_f (by rw [ke_k4 hc]; exact hl) ⟨5, ?_⟩⟩⟩))
  exact ke_Y174c hc hp 4 0 rfl
theorem ke_U4e {post : Int32 → SY → Prop} (hc : c < 4) (hs : st c = 4) (hl : ¬ pc c < len c) (hp : post 7 (W, S, R, -1, mem, ops, oa, ob, len, upd st c 0, pc, reg, fp, yb, hb, ke_copy res reg (c * 4) 4, att, ca, co, upd cn (c * 3 + 1) (cn (c * 3 + 1) + 1))) : wpY_step post (W, S, R, O, mem, ops, oa, ob, len, st, pc, reg, fp, yb, hb, res, att, ca, co, cn) (nI c) := by
  refine br_f (nI_pos (by omega)) (br_t (nI_le (b := 3) (by omega) (by decide)) ⟨ke_i4 hc, nm_r (e' := 4) (by rw [ke_k4 hc, hs]) ?_⟩)
  refine br_f (by decide) (br_f (by decide) (br_f (by decide) ⟨ke_i4 hc, nm_r (e' := pc c) (by rw [ke_k4 hc]) ⟨ke_i4 hc, br_f (by rw [ke_k4 hc]; exact hl) ⟨5, ?_⟩⟩⟩))
  exact ke_Y174r hc hp 4 0 rfl
theorem ke_E12 {post : Int32 → SY → Prop} {p q i L : Nat} {b : Int32} (hc : c < 4) (ho : ops (c * 16 + i) = nI p) (eq : oa (c * 16 + i) = nI q) (eb : ob (c * 16 + i) = b) (hi : pc c = nI i) (hL : len c = nI L) (hL16 : L ≤ 16) (hiL : i < L) (hok : ke_Ok (nI p) (nI q) b) (hp9 : p < 9) (hq4 : q < 4) (hs : st c = 2) (hpp : p = 1 ∨ p = 5) (h : wY_step_439 post (nI c) 2 (nI i) (nI p) (nI q) b (nI (ke_ad p b c reg)) 0 W S R O mem ops oa ob len st pc reg fp yb hb res att ca co cn) : wpY_step post (W, S, R, O, mem, ops, oa, ob, len, st, pc, reg, fp, yb, hb, res, att, ca, co, cn) (nI c) := by
  have eA : (nI (c * 16 + i)).toNatClampNeg = c * 16 + i := nI_clamp (by omega)
  have hA : vp_in (nI (c * 16 + i)) 64 := vp_in_nI (by omega) (by omega)
  have hlt : nI i < len (nI c).toNatClampNeg := by rw [ke_k4 hc, hL]; exact nI_lt hiL (by omega)
  refine br_f (nI_pos (by omega)) (br_t (nI_le (b := 3) (by omega) (by decide)) ⟨ke_i4 hc, nm_r (e' := 2) (by rw [ke_k4 hc, hs]) ?_⟩)
  refine br_f (by decide) (br_f (by decide) (br_f (by decide) ⟨ke_i4 hc, nm_r (e' := nI i) (by rw [ke_k4 hc, hi]) ⟨ke_i4 hc, br_t hlt ?_⟩⟩))
  refine nm_r (e' := nI (c * 16 + i)) (by rw [ke_a15 (by omega), ke_x16]) ⟨hA, nm_r (e' := nI p) (by rw [eA, ho]) ⟨hA, nm_r (e' := nI q) (by rw [eA, eq]) ⟨hA, nm_r (e' := b) (by rw [eA, eb]) ?_⟩⟩⟩
  rcases hpp with rfl | rfl
  · skip
    obtain ⟨m, hm, em⟩ := ke_Ok1 hok (by omega) (by omega)
    have ea : ke_ad 1 b c reg = m := by unfold ke_ad; rw [if_neg (by omega), em, nI_clamp (by omega)]
    rw [ea] at h
    exact br_t rfl (nm_r (e' := nI m) (by rw [em, ke_a63 hm]) (br_f (by decide) (br_f (by decide) (br_f (by decide) (br_f (by decide) h)))))
  · skip
    obtain ⟨m, hm, em⟩ := ke_Ok3 hok (by omega) (by omega)
    have ea : nI (ke_ad 5 b c reg) = reg (nI c * 4 + (b &&& 3)).toNatClampNeg &&& 63 := by
      unfold ke_ad; rw [if_pos (by omega), ke_nn, em, ke_a3 hm, ke_c4 hc hm, nI_clamp (show m < 2 ^ 31 by omega)]
    have hv : vp_in (nI c * 4 + (b &&& 3)) 16 := by rw [em, ke_a3 hm]; exact ke_v4 hc hm
    rw [ea] at h
    exact br_f (by decide) (br_f (by decide) (br_t rfl ⟨hv, nm_e (br_f (by decide) (br_f (by decide) h))⟩))
theorem ke_E22 {post : Int32 → SY → Prop} {p q i L : Nat} {b : Int32} (hc : c < 4) (ho : ops (c * 16 + i) = nI p) (eq : oa (c * 16 + i) = nI q) (eb : ob (c * 16 + i) = b) (hi : pc c = nI i) (hL : len c = nI L) (hL16 : L ≤ 16) (hiL : i < L) (hok : ke_Ok (nI p) (nI q) b) (hp9 : p < 9) (hq4 : q < 4) (hs : st c = 2) (hpp : p = 2 ∨ p = 6) (h : wY_step_439 post (nI c) 2 (nI i) (nI p) (nI q) b (nI (ke_ad p b c reg)) 1 W S R O mem ops oa ob len st pc reg fp yb hb res att ca co cn) : wpY_step post (W, S, R, O, mem, ops, oa, ob, len, st, pc, reg, fp, yb, hb, res, att, ca, co, cn) (nI c) := by
  have eA : (nI (c * 16 + i)).toNatClampNeg = c * 16 + i := nI_clamp (by omega)
  have hA : vp_in (nI (c * 16 + i)) 64 := vp_in_nI (by omega) (by omega)
  have hlt : nI i < len (nI c).toNatClampNeg := by rw [ke_k4 hc, hL]; exact nI_lt hiL (by omega)
  refine br_f (nI_pos (by omega)) (br_t (nI_le (b := 3) (by omega) (by decide)) ⟨ke_i4 hc, nm_r (e' := 2) (by rw [ke_k4 hc, hs]) ?_⟩)
  refine br_f (by decide) (br_f (by decide) (br_f (by decide) ⟨ke_i4 hc, nm_r (e' := nI i) (by rw [ke_k4 hc, hi]) ⟨ke_i4 hc, br_t hlt ?_⟩⟩))
  refine nm_r (e' := nI (c * 16 + i)) (by rw [ke_a15 (by omega), ke_x16]) ⟨hA, nm_r (e' := nI p) (by rw [eA, ho]) ⟨hA, nm_r (e' := nI q) (by rw [eA, eq]) ⟨hA, nm_r (e' := b) (by rw [eA, eb]) ?_⟩⟩⟩
  rcases hpp with rfl | rfl
  · skip
    obtain ⟨m, hm, em⟩ := ke_Ok1 hok (by omega) (by omega)
    have ea : ke_ad 2 b c reg = m := by unfold ke_ad; rw [if_neg (by omega), em, nI_clamp (by omega)]
    rw [ea] at h
    exact br_f (by decide) (br_t rfl (nm_r (e' := nI m) (by rw [em, ke_a63 hm]) (br_f (by decide) (br_f (by decide) (br_t rfl h)))))
  · skip
    obtain ⟨m, hm, em⟩ := ke_Ok3 hok (by omega) (by omega)
    have ea : nI (ke_ad 6 b c reg) = reg (nI c * 4 + (b &&& 3)).toNatClampNeg &&& 63 := by
      unfold ke_ad; rw [if_pos (by omega), ke_nn, em, ke_a3 hm, ke_c4 hc hm, nI_clamp (show m < 2 ^ 31 by omega)]
    have hv : vp_in (nI c * 4 + (b &&& 3)) 16 := by rw [em, ke_a3 hm]; exact ke_v4 hc hm
    rw [ea] at h
    exact br_f (by decide) (br_f (by decide) (br_f (by decide) (br_t rfl ⟨hv, nm_e (br_f (by decide) (br_t rfl h))⟩)))
theorem ke_E02 {post : Int32 → SY → Prop} {p q i L : Nat} {b : Int32} (hc : c < 4) (ho : ops (c * 16 + i) = nI p) (eq : oa (c * 16 + i) = nI q) (eb : ob (c * 16 + i) = b) (hi : pc c = nI i) (hL : len c = nI L) (hL16 : L ≤ 16) (hiL : i < L) (hok : ke_Ok (nI p) (nI q) b) (hp9 : p < 9) (hq4 : q < 4) (hs : st c = 2) (hpp : p = 0 ∨ p = 3 ∨ p = 4 ∨ p = 7 ∨ p = 8) (h : wY_step_439 post (nI c) 2 (nI i) (nI p) (nI q) b (-1) 0 W S R O mem ops oa ob len st pc reg fp yb hb res att ca co cn) : wpY_step post (W, S, R, O, mem, ops, oa, ob, len, st, pc, reg, fp, yb, hb, res, att, ca, co, cn) (nI c) := by
  have eA : (nI (c * 16 + i)).toNatClampNeg = c * 16 + i := nI_clamp (by omega)
  have hA : vp_in (nI (c * 16 + i)) 64 := vp_in_nI (by omega) (by omega)
  have hlt : nI i < len (nI c).toNatClampNeg := by rw [ke_k4 hc, hL]; exact nI_lt hiL (by omega)
  refine br_f (nI_pos (by omega)) (br_t (nI_le (b := 3) (by omega) (by decide)) ⟨ke_i4 hc, nm_r (e' := 2) (by rw [ke_k4 hc, hs]) ?_⟩)
  refine br_f (by decide) (br_f (by decide) (br_f (by decide) ⟨ke_i4 hc, nm_r (e' := nI i) (by rw [ke_k4 hc, hi]) ⟨ke_i4 hc, br_t hlt ?_⟩⟩))
  refine nm_r (e' := nI (c * 16 + i)) (by rw [ke_a15 (by omega), ke_x16]) ⟨hA, nm_r (e' := nI p) (by rw [eA, ho]) ⟨hA, nm_r (e' := nI q) (by rw [eA, eq]) ⟨hA, nm_r (e' := b) (by rw [eA, eb]) ?_⟩⟩⟩
  rcases hpp with rfl | rfl | rfl | rfl | rfl
  · exact br_f (by decide) (br_f (by decide) (br_f (by decide) (br_f (by decide) (br_f (by decide) (br_f (by decide) h)))))
  · exact br_f (by decide) (br_f (by decide) (br_f (by decide) (br_f (by decide) (br_f (by decide) (br_f (by decide) h)))))
  · exact br_f (by decide) (br_f (by decide) (br_f (by decide) (br_f (by decide) (br_f (by decide) (br_f (by decide) h)))))
  · exact br_f (by decide) (br_f (by decide) (br_f (by decide) (br_f (by decide) (br_f (by decide) (br_f (by decide) h)))))
  · exact br_f (by decide) (br_f (by decide) (br_f (by decide) (br_f (by decide) (br_f (by decide) (br_f (by decide) h)))))
theorem ke_E14 {post : Int32 → SY → Prop} {p q i L : Nat} {b : Int32} (hc : c < 4) (ho : ops (c * 16 + i) = nI p) (eq : oa (c * 16 + i) = nI q) (eb : ob (c * 16 + i) = b) (hi : pc c = nI i) (hL : len c = nI L) (hL16 : L ≤ 16) (hiL : i < L) (hok : ke_Ok (nI p) (nI q) b) (hp9 : p < 9) (hq4 : q < 4) (hs : st c = 4) (hpp : p = 1 ∨ p = 5) (h : wY_step_439 post (nI c) 4 (nI i) (nI p) (nI q) b (nI (ke_ad p b c reg)) 0 W S R O mem ops oa ob len st pc reg fp yb hb res att ca co cn) : wpY_step post (W, S, R, O, mem, ops, oa, ob, len, st, pc, reg, fp, yb, hb, res, att, ca, co, cn) (nI c) := by
  have eA : (nI (c * 16 + i)).toNatClampNeg = c * 16 + i := nI_clamp (by omega)
  have hA : vp_in (nI (c * 16 + i)) 64 := vp_in_nI (by omega) (by omega)
  have hlt : nI i < len (nI c).toNatClampNeg := by rw [ke_k4 hc, hL]; exact nI_lt hiL (by omega)
  refine br_f (nI_pos (by omega)) (br_t (nI_le (b := 3) (by omega) (by decide)) ⟨ke_i4 hc, nm_r (e' := 4) (by rw [ke_k4 hc, hs]) ?_⟩)
  refine br_f (by decide) (br_f (by decide) (br_f (by decide) ⟨ke_i4 hc, nm_r (e' := nI i) (by rw [ke_k4 hc, hi]) ⟨ke_i4 hc, br_t hlt ?_⟩⟩))
  refine nm_r (e' := nI (c * 16 + i)) (by rw [ke_a15 (by omega), ke_x16]) ⟨hA, nm_r (e' := nI p) (by rw [eA, ho]) ⟨hA, nm_r (e' := nI q) (by rw [eA, eq]) ⟨hA, nm_r (e' := b) (by rw [eA, eb]) ?_⟩⟩⟩
  rcases hpp with rfl | rfl
  · skip
    obtain ⟨m, hm, em⟩ := ke_Ok1 hok (by omega) (by omega)
    have ea : ke_ad 1 b c reg = m := by unfold ke_ad; rw [if_neg (by omega), em, nI_clamp (by omega)]
    rw [ea] at h
    exact br_t rfl (nm_r (e' := nI m) (by rw [em, ke_a63 hm]) (br_f (by decide) (br_f (by decide) (br_f (by decide) (br_f (by decide) h)))))
  · skip
    obtain ⟨m, hm, em⟩ := ke_Ok3 hok (by omega) (by omega)
    have ea : nI (ke_ad 5 b c reg) = reg (nI c * 4 + (b &&& 3)).toNatClampNeg &&& 63 := by
      unfold ke_ad; rw [if_pos (by omega), ke_nn, em, ke_a3 hm, ke_c4 hc hm, nI_clamp (show m < 2 ^ 31 by omega)]
    have hv : vp_in (nI c * 4 + (b &&& 3)) 16 := by rw [em, ke_a3 hm]; exact ke_v4 hc hm
    rw [ea] at h
    exact br_f (by decide) (br_f (by decide) (br_t rfl ⟨hv, nm_e (br_f (by decide) (br_f (by decide) h))⟩))
theorem ke_E24 {post : Int32 → SY → Prop} {p q i L : Nat} {b : Int32} (hc : c < 4) (ho : ops (c * 16 + i) = nI p) (eq : oa (c * 16 + i) = nI q) (eb : ob (c * 16 + i) = b) (hi : pc c = nI i) (hL : len c = nI L) (hL16 : L ≤ 16) (hiL : i < L) (hok : ke_Ok (nI p) (nI q) b) (hp9 : p < 9) (hq4 : q < 4) (hs : st c = 4) (hpp : p = 2 ∨ p = 6) (h : wY_step_439 post (nI c) 4 (nI i) (nI p) (nI q) b (nI (ke_ad p b c reg)) 1 W S R O mem ops oa ob len st pc reg fp yb hb res att ca co cn) : wpY_step post (W, S, R, O, mem, ops, oa, ob, len, st, pc, reg, fp, yb, hb, res, att, ca, co, cn) (nI c) := by
  have eA : (nI (c * 16 + i)).toNatClampNeg = c * 16 + i := nI_clamp (by omega)
  have hA : vp_in (nI (c * 16 + i)) 64 := vp_in_nI (by omega) (by omega)
  have hlt : nI i < len (nI c).toNatClampNeg := by rw [ke_k4 hc, hL]; exact nI_lt hiL (by omega)
  refine br_f (nI_pos (by omega)) (br_t (nI_le (b := 3) (by omega) (by decide)) ⟨ke_i4 hc, nm_r (e' := 4) (by rw [ke_k4 hc, hs]) ?_⟩)
  refine br_f (by decide) (br_f (by decide) (br_f (by decide) ⟨ke_i4 hc, nm_r (e' := nI i) (by rw [ke_k4 hc, hi]) ⟨ke_i4 hc, br_t hlt ?_⟩⟩))
  refine nm_r (e' := nI (c * 16 + i)) (by rw [ke_a15 (by omega), ke_x16]) ⟨hA, nm_r (e' := nI p) (by rw [eA, ho]) ⟨hA, nm_r (e' := nI q) (by rw [eA, eq]) ⟨hA, nm_r (e' := b) (by rw [eA, eb]) ?_⟩⟩⟩
  rcases hpp with rfl | rfl
  · skip
    obtain ⟨m, hm, em⟩ := ke_Ok1 hok (by omega) (by omega)
    have ea : ke_ad 2 b c reg = m := by unfold ke_ad; rw [if_neg (by omega), em, nI_clamp (by omega)]
    rw [ea] at h
    exact br_f (by decide) (br_t rfl (nm_r (e' := nI m) (by rw [em, ke_a63 hm]) (br_f (by decide) (br_f (by decide) (br_t rfl h)))))
  · skip
    obtain ⟨m, hm, em⟩ := ke_Ok3 hok (by omega) (by omega)
    have ea : nI (ke_ad 6 b c reg) = reg (nI c * 4 + (b &&& 3)).toNatClampNeg &&& 63 := by
      unfold ke_ad; rw [if_pos (by omega), ke_nn, em, ke_a3 hm, ke_c4 hc hm, nI_clamp (show m < 2 ^ 31 by omega)]
    have hv : vp_in (nI c * 4 + (b &&& 3)) 16 := by rw [em, ke_a3 hm]; exact ke_v4 hc hm
    rw [ea] at h
    exact br_f (by decide) (br_f (by decide) (br_f (by decide) (br_t rfl ⟨hv, nm_e (br_f (by decide) (br_t rfl h))⟩)))
theorem ke_E04 {post : Int32 → SY → Prop} {p q i L : Nat} {b : Int32} (hc : c < 4) (ho : ops (c * 16 + i) = nI p) (eq : oa (c * 16 + i) = nI q) (eb : ob (c * 16 + i) = b) (hi : pc c = nI i) (hL : len c = nI L) (hL16 : L ≤ 16) (hiL : i < L) (hok : ke_Ok (nI p) (nI q) b) (hp9 : p < 9) (hq4 : q < 4) (hs : st c = 4) (hpp : p = 0 ∨ p = 3 ∨ p = 4 ∨ p = 7 ∨ p = 8) (h : wY_step_439 post (nI c) 4 (nI i) (nI p) (nI q) b (-1) 0 W S R O mem ops oa ob len st pc reg fp yb hb res att ca co cn) : wpY_step post (W, S, R, O, mem, ops, oa, ob, len, st, pc, reg, fp, yb, hb, res, att, ca, co, cn) (nI c) := by
  have eA : (nI (c * 16 + i)).toNatClampNeg = c * 16 + i := nI_clamp (by omega)
  have hA : vp_in (nI (c * 16 + i)) 64 := vp_in_nI (by omega) (by omega)
  have hlt : nI i < len (nI c).toNatClampNeg := by rw [ke_k4 hc, hL]; exact nI_lt hiL (by omega)
  refine br_f (nI_pos (by omega)) (br_t (nI_le (b := 3) (by omega) (by decide)) ⟨ke_i4 hc, nm_r (e' := 4) (by rw [ke_k4 hc, hs]) ?_⟩)
  refine br_f (by decide) (br_f (by decide) (br_f (by decide) ⟨ke_i4 hc, nm_r (e' := nI i) (by rw [ke_k4 hc, hi]) ⟨ke_i4 hc, br_t hlt ?_⟩⟩))
  refine nm_r (e' := nI (c * 16 + i)) (by rw [ke_a15 (by omega), ke_x16]) ⟨hA, nm_r (e' := nI p) (by rw [eA, ho]) ⟨hA, nm_r (e' := nI q) (by rw [eA, eq]) ⟨hA, nm_r (e' := b) (by rw [eA, eb]) ?_⟩⟩⟩
  rcases hpp with rfl | rfl | rfl | rfl | rfl
  · exact br_f (by decide) (br_f (by decide) (br_f (by decide) (br_f (by decide) (br_f (by decide) (br_f (by decide) h)))))
  · exact br_f (by decide) (br_f (by decide) (br_f (by decide) (br_f (by decide) (br_f (by decide) (br_f (by decide) h)))))
  · exact br_f (by decide) (br_f (by decide) (br_f (by decide) (br_f (by decide) (br_f (by decide) (br_f (by decide) h)))))
  · exact br_f (by decide) (br_f (by decide) (br_f (by decide) (br_f (by decide) (br_f (by decide) (br_f (by decide) h)))))
  · exact br_f (by decide) (br_f (by decide) (br_f (by decide) (br_f (by decide) (br_f (by decide) (br_f (by decide) h)))))
theorem ke_U27 {post : Int32 → SY → Prop} {p q i L : Nat} {b : Int32} (hc : c < 4) (ho : ops (c * 16 + i) = nI p) (eq : oa (c * 16 + i) = nI q) (eb : ob (c * 16 + i) = b) (hi : pc c = nI i) (hL : len c = nI L) (hL16 : L ≤ 16) (hiL : i < L) (hok : ke_Ok (nI p) (nI q) b) (hp9 : p < 9) (hq4 : q < 4) (hs : st c = 2) (hpp : p = 7) (hp : post 5 (W, S, R, O, mem, ops, oa, ob, len, upd st c (ke_as R 3 (att c + 1)), upd pc c 0, ke_fill reg (c * 4) 4, ke_fill fp (c * 17) 17, ke_fill yb (c * 64) 64, ke_fill hb (c * 64) 64, res, upd att c (att c + 1), upd ca c 3, upd co c b, upd cn (c * 3 + 2) (cn (c * 3 + 2) + 1))) : wpY_step post (W, S, R, O, mem, ops, oa, ob, len, st, pc, reg, fp, yb, hb, res, att, ca, co, cn) (nI c) := by
  refine ke_E02 hc ho eq eb hi hL hL16 hiL hok hp9 hq4 hs (by omega) ?_
  subst hpp
  refine br_t rfl (br_t rfl ?_)
  exact ke_Yab3 (k := 3) hc hp
theorem ke_U2x {post : Int32 → SY → Prop} {p q i L : Nat} {b : Int32} (hc : c < 4) (ho : ops (c * 16 + i) = nI p) (eq : oa (c * 16 + i) = nI q) (eb : ob (c * 16 + i) = b) (hi : pc c = nI i) (hL : len c = nI L) (hL16 : L ≤ 16) (hiL : i < L) (hok : ke_Ok (nI p) (nI q) b) (hp9 : p < 9) (hq4 : q < 4) (hs : st c = 2) (hpp : ¬ (p = 1 ∨ p = 2 ∨ p = 5 ∨ p = 6 ∨ p = 7)) (hp : post 4 (W, S, R, O, mem, ops, oa, ob, len, st, upd pc c (nI (ke_xp p q b c L i reg)), ke_xr p q b c reg, fp, yb, hb, res, att, ca, co, cn)) : wpY_step post (W, S, R, O, mem, ops, oa, ob, len, st, pc, reg, fp, yb, hb, res, att, ca, co, cn) (nI c) := by
  refine ke_E02 hc ho eq eb hi hL hL16 hiL hok hp9 hq4 hs (by omega) ?_
  refine br_t rfl (br_f (fun z => by have := (nI_eq (a := p) (b := 7) (by omega) (by decide)).mp z; omega) (br_t (by decide) ?_))
  exact ke_Ysi hc hi hL hL16 hiL hok (by omega) hq4 hp
theorem ke_U4x {post : Int32 → SY → Prop} {p q i L : Nat} {b : Int32} (hc : c < 4) (ho : ops (c * 16 + i) = nI p) (eq : oa (c * 16 + i) = nI q) (eb : ob (c * 16 + i) = b) (hi : pc c = nI i) (hL : len c = nI L) (hL16 : L ≤ 16) (hiL : i < L) (hok : ke_Ok (nI p) (nI q) b) (hp9 : p < 9) (hq4 : q < 4) (hs : st c = 4) (hpp : ¬ (p = 1 ∨ p = 2 ∨ p = 5 ∨ p = 6)) (hp : post 4 (W, S, R, O, mem, ops, oa, ob, len, st, upd pc c (nI (ke_xp p q b c L i reg)), ke_xr p q b c reg, fp, yb, hb, res, att, ca, co, cn)) : wpY_step post (W, S, R, O, mem, ops, oa, ob, len, st, pc, reg, fp, yb, hb, res, att, ca, co, cn) (nI c) := by
  refine ke_E04 hc ho eq eb hi hL hL16 hiL hok hp9 hq4 hs (by omega) ?_
  refine br_f (by decide) ?_
  by_cases h7 : p = 7
  · subst h7
    exact br_t rfl ⟨ke_i4 hc, nm_r (e' := upd pc c (nI (i + 1))) (by rw [ke_k4 hc, nI_1]) hp⟩
  · refine br_f (fun z => by have := (nI_eq (a := p) (b := 7) (by omega) (by decide)).mp z; omega) (br_t (by decide) ?_)
    exact ke_Ysi hc hi hL hL16 hiL hok (by omega) hq4 hp
theorem ke_U2lo {post : Int32 → SY → Prop} {d m l : Nat} {p q i L : Nat} {b : Int32} (hc : c < 4) (ho : ops (c * 16 + i) = nI p) (eq : oa (c * 16 + i) = nI q) (eb : ob (c * 16 + i) = b) (hi : pc c = nI i) (hL : len c = nI L) (hL16 : L ≤ 16) (hiL : i < L) (hok : ke_Ok (nI p) (nI q) b) (hp9 : p < 9) (hq4 : q < 4) (hs : st c = 2) (hpp : p = 1 ∨ p = 5) (hS : S = nI d) (h1 : 1 ≤ d) (h4 : d ≤ 4) (hm : m = ke_ad p b c reg) (hl : l = m / 4) (hov : ke_ov W d fp c l) (hp : post 5 (W, S, R, O, mem, ops, oa, ob, len, upd st c (ke_as R 2 (att c + 1)), upd pc c 0, ke_fill reg (c * 4) 4, ke_fill fp (c * 17) 17, ke_fill yb (c * 64) 64, ke_fill hb (c * 64) 64, res, upd att c (att c + 1), upd ca c 2, upd co c 0, upd cn (c * 3 + 2) (cn (c * 3 + 2) + 1))) : wpY_step post (W, S, R, O, mem, ops, oa, ob, len, st, pc, reg, fp, yb, hb, res, att, ca, co, cn) (nI c) := by
  have hm64 : m < 64 := by rw [hm]; exact ke_ad_lt c reg hok (by omega)
  refine ke_E12 hc ho eq eb hi hL hL16 hiL hok hp9 hq4 hs hpp ?_
  rw [← hm]
  refine br_t rfl (br_f (fun z => by have := (nI_eq (a := p) (b := 7) (by omega) (by decide)).mp z; omega) (br_f (nI_pos (by omega)) ?_))
  exact ke_Yac hc hS h1 h4 hm64 hl (fun h => absurd hov h) (fun _ => hp)
theorem ke_U2l {post : Int32 → SY → Prop} {d m l : Nat} {p q i L : Nat} {b : Int32} (hc : c < 4) (ho : ops (c * 16 + i) = nI p) (eq : oa (c * 16 + i) = nI q) (eb : ob (c * 16 + i) = b) (hi : pc c = nI i) (hL : len c = nI L) (hL16 : L ≤ 16) (hiL : i < L) (hok : ke_Ok (nI p) (nI q) b) (hp9 : p < 9) (hq4 : q < 4) (hs : st c = 2) (hpp : p = 1 ∨ p = 5) (hS : S = nI d) (h1 : 1 ≤ d) (h4 : d ≤ 4) (hm : m = ke_ad p b c reg) (hl : l = m / 4) (hov : ¬ ke_ov W d fp c l) (hp : post 4 (W, S, R, O, mem, ops, oa, ob, len, (ke_con R l 2 c (st, pc, reg, fp, hb, att, ca, co, cn, yb) 4).1, upd (ke_con R l 2 c (st, pc, reg, fp, hb, att, ca, co, cn, yb) 4).2.1 c ((ke_con R l 2 c (st, pc, reg, fp, hb, att, ca, co, cn, yb) 4).2.1 c + 1), upd (ke_con R l 2 c (st, pc, reg, fp, hb, att, ca, co, cn, yb) 4).2.2.1 (c * 4 + q) (if (ke_con R l 2 c (st, pc, reg, fp, hb, att, ca, co, cn, yb) 4).2.2.2.2.1 (c * 64 + m) = 0 then mem m else (ke_con R l 2 c (st, pc, reg, fp, hb, att, ca, co, cn, yb) 4).2.2.2.2.2.2.2.2.2 (c * 64 + m)), upd (ke_con R l 2 c (st, pc, reg, fp, hb, att, ca, co, cn, yb) 4).2.2.2.1 (c * 17 + l) ((ke_con R l 2 c (st, pc, reg, fp, hb, att, ca, co, cn, yb) 4).2.2.2.1 (c * 17 + l) ||| 1), (ke_con R l 2 c (st, pc, reg, fp, hb, att, ca, co, cn, yb) 4).2.2.2.2.2.2.2.2.2, (ke_con R l 2 c (st, pc, reg, fp, hb, att, ca, co, cn, yb) 4).2.2.2.2.1, res, (ke_con R l 2 c (st, pc, reg, fp, hb, att, ca, co, cn, yb) 4).2.2.2.2.2.1, (ke_con R l 2 c (st, pc, reg, fp, hb, att, ca, co, cn, yb) 4).2.2.2.2.2.2.1, (ke_con R l 2 c (st, pc, reg, fp, hb, att, ca, co, cn, yb) 4).2.2.2.2.2.2.2.1, (ke_con R l 2 c (st, pc, reg, fp, hb, att, ca, co, cn, yb) 4).2.2.2.2.2.2.2.2.1)) : wpY_step post (W, S, R, O, mem, ops, oa, ob, len, st, pc, reg, fp, yb, hb, res, att, ca, co, cn) (nI c) := by
  have hm64 : m < 64 := by rw [hm]; exact ke_ad_lt c reg hok (by omega)
  refine ke_E12 hc ho eq eb hi hL hL16 hiL hok hp9 hq4 hs hpp ?_
  rw [← hm]
  refine br_t rfl (br_f (fun z => by have := (nI_eq (a := p) (b := 7) (by omega) (by decide)).mp z; omega) (br_f (nI_pos (by omega)) ?_))
  refine ke_Yac hc hS h1 h4 hm64 hl (fun _ => ⟨5, ?_⟩) (fun h => absurd h hov)
  exact ke_Y97l (t := (st, pc, reg, fp, hb, att, ca, co, cn, yb)) hc (by omega) hm64 hq4 hp 4 0 rfl
theorem ke_U2so {post : Int32 → SY → Prop} {d m l : Nat} {p q i L : Nat} {b : Int32} (hc : c < 4) (ho : ops (c * 16 + i) = nI p) (eq : oa (c * 16 + i) = nI q) (eb : ob (c * 16 + i) = b) (hi : pc c = nI i) (hL : len c = nI L) (hL16 : L ≤ 16) (hiL : i < L) (hok : ke_Ok (nI p) (nI q) b) (hp9 : p < 9) (hq4 : q < 4) (hs : st c = 2) (hpp : p = 2 ∨ p = 6) (hS : S = nI d) (h1 : 1 ≤ d) (h4 : d ≤ 4) (hm : m = ke_ad p b c reg) (hl : l = m / 4) (hov : ke_ov W d fp c l) (hp : post 5 (W, S, R, O, mem, ops, oa, ob, len, upd st c (ke_as R 2 (att c + 1)), upd pc c 0, ke_fill reg (c * 4) 4, ke_fill fp (c * 17) 17, ke_fill yb (c * 64) 64, ke_fill hb (c * 64) 64, res, upd att c (att c + 1), upd ca c 2, upd co c 0, upd cn (c * 3 + 2) (cn (c * 3 + 2) + 1))) : wpY_step post (W, S, R, O, mem, ops, oa, ob, len, st, pc, reg, fp, yb, hb, res, att, ca, co, cn) (nI c) := by
  have hm64 : m < 64 := by rw [hm]; exact ke_ad_lt c reg hok (by omega)
  refine ke_E22 hc ho eq eb hi hL hL16 hiL hok hp9 hq4 hs hpp ?_
  rw [← hm]
  refine br_t rfl (br_f (fun z => by have := (nI_eq (a := p) (b := 7) (by omega) (by decide)).mp z; omega) (br_f (nI_pos (by omega)) ?_))
  exact ke_Yac hc hS h1 h4 hm64 hl (fun h => absurd hov h) (fun _ => hp)
theorem ke_U2s {post : Int32 → SY → Prop} {d m l : Nat} {p q i L : Nat} {b : Int32} (hc : c < 4) (ho : ops (c * 16 + i) = nI p) (eq : oa (c * 16 + i) = nI q) (eb : ob (c * 16 + i) = b) (hi : pc c = nI i) (hL : len c = nI L) (hL16 : L ≤ 16) (hiL : i < L) (hok : ke_Ok (nI p) (nI q) b) (hp9 : p < 9) (hq4 : q < 4) (hs : st c = 2) (hpp : p = 2 ∨ p = 6) (hS : S = nI d) (h1 : 1 ≤ d) (h4 : d ≤ 4) (hm : m = ke_ad p b c reg) (hl : l = m / 4) {bx : ke_F} (hI : ke_I bx (st, pc, reg, fp, hb, att, ca, co, cn, yb)) (hov : ¬ ke_ov W d fp c l) (hp : post 4 (W, S, R, O, mem, ops, oa, ob, len, (ke_con R l 3 c (st, pc, reg, fp, hb, att, ca, co, cn, yb) 4).1, upd (ke_con R l 3 c (st, pc, reg, fp, hb, att, ca, co, cn, yb) 4).2.1 c ((ke_con R l 3 c (st, pc, reg, fp, hb, att, ca, co, cn, yb) 4).2.1 c + 1), (ke_con R l 3 c (st, pc, reg, fp, hb, att, ca, co, cn, yb) 4).2.2.1, upd (ke_con R l 3 c (st, pc, reg, fp, hb, att, ca, co, cn, yb) 4).2.2.2.1 (c * 17 + l) ((ke_con R l 3 c (st, pc, reg, fp, hb, att, ca, co, cn, yb) 4).2.2.2.1 (c * 17 + l) ||| 2), upd (ke_con R l 3 c (st, pc, reg, fp, hb, att, ca, co, cn, yb) 4).2.2.2.2.2.2.2.2.2 (c * 64 + m) ((ke_con R l 3 c (st, pc, reg, fp, hb, att, ca, co, cn, yb) 4).2.2.1 (c * 4 + q)), upd (ke_con R l 3 c (st, pc, reg, fp, hb, att, ca, co, cn, yb) 4).2.2.2.2.1 (c * 64 + m) 1, res, (ke_con R l 3 c (st, pc, reg, fp, hb, att, ca, co, cn, yb) 4).2.2.2.2.2.1, (ke_con R l 3 c (st, pc, reg, fp, hb, att, ca, co, cn, yb) 4).2.2.2.2.2.2.1, (ke_con R l 3 c (st, pc, reg, fp, hb, att, ca, co, cn, yb) 4).2.2.2.2.2.2.2.1, (ke_con R l 3 c (st, pc, reg, fp, hb, att, ca, co, cn, yb) 4).2.2.2.2.2.2.2.2.1)) : wpY_step post (W, S, R, O, mem, ops, oa, ob, len, st, pc, reg, fp, yb, hb, res, att, ca, co, cn) (nI c) := by
  have hm64 : m < 64 := by rw [hm]; exact ke_ad_lt c reg hok (by omega)
  refine ke_E22 hc ho eq eb hi hL hL16 hiL hok hp9 hq4 hs hpp ?_
  rw [← hm]
  refine br_t rfl (br_f (fun z => by have := (nI_eq (a := p) (b := 7) (by omega) (by decide)).mp z; omega) (br_f (nI_pos (by omega)) ?_))
  refine ke_Yac hc hS h1 h4 hm64 hl (fun _ => ⟨5, ?_⟩) (fun h => absurd h hov)
  exact ke_Y97s (t := (st, pc, reg, fp, hb, att, ca, co, cn, yb)) hc (by omega) hm64 hq4 hI hp 4 0 rfl
theorem ke_U4l {post : Int32 → SY → Prop} {p q i L : Nat} {b : Int32} (hc : c < 4) (ho : ops (c * 16 + i) = nI p) (eq : oa (c * 16 + i) = nI q) (eb : ob (c * 16 + i) = b) (hi : pc c = nI i) (hL : len c = nI L) (hL16 : L ≤ 16) (hiL : i < L) (hok : ke_Ok (nI p) (nI q) b) (hp9 : p < 9) (hq4 : q < 4) (hs : st c = 4) (hpp : p = 1 ∨ p = 5) (hp : post 4 (W, S, R, O, mem, ops, oa, ob, len, st, upd pc c (pc c + 1), upd reg (c * 4 + q) (mem (ke_ad p b c reg)), fp, yb, hb, res, att, ca, co, cn)) : wpY_step post (W, S, R, O, mem, ops, oa, ob, len, st, pc, reg, fp, yb, hb, res, att, ca, co, cn) (nI c) := by
  have hm64 : ke_ad p b c reg < 64 := ke_ad_lt c reg hok (by omega)
  have hm6 : (nI (ke_ad p b c reg)).toNatClampNeg = ke_ad p b c reg := nI_clamp (by omega)
  refine ke_E14 hc ho eq eb hi hL hL16 hiL hok hp9 hq4 hs hpp ?_
  refine br_f (by decide) (br_f (fun z => by have := (nI_eq (a := p) (b := 7) (by omega) (by decide)).mp z; omega) (br_f (nI_pos (by omega)) ?_))
  exact br_t rfl ⟨vp_in_nI hm64 (by omega), ke_v4 hc hq4, nm_r (e' := upd reg (c * 4 + q) (mem (ke_ad p b c reg))) (by rw [ke_c4 hc hq4, hm6]) ⟨ke_i4 hc, nm_r (e' := upd pc c (pc c + 1)) (by rw [ke_k4 hc, hi]) hp⟩⟩
theorem ke_U4s {post : Int32 → SY → Prop} {p q i L : Nat} {b : Int32} (hc : c < 4) (ho : ops (c * 16 + i) = nI p) (eq : oa (c * 16 + i) = nI q) (eb : ob (c * 16 + i) = b) (hi : pc c = nI i) (hL : len c = nI L) (hL16 : L ≤ 16) (hiL : i < L) (hok : ke_Ok (nI p) (nI q) b) (hp9 : p < 9) (hq4 : q < 4) (hs : st c = 4) (hpp : p = 2 ∨ p = 6) (hp : post 4 (W, S, R, O, upd mem (ke_ad p b c reg) (reg (c * 4 + q)), ops, oa, ob, len, st, upd pc c (pc c + 1), reg, fp, yb, hb, res, att, ca, co, cn)) : wpY_step post (W, S, R, O, mem, ops, oa, ob, len, st, pc, reg, fp, yb, hb, res, att, ca, co, cn) (nI c) := by
  have hm64 : ke_ad p b c reg < 64 := ke_ad_lt c reg hok (by omega)
  have hm6 : (nI (ke_ad p b c reg)).toNatClampNeg = ke_ad p b c reg := nI_clamp (by omega)
  refine ke_E24 hc ho eq eb hi hL hL16 hiL hok hp9 hq4 hs hpp ?_
  refine br_f (by decide) (br_f (fun z => by have := (nI_eq (a := p) (b := 7) (by omega) (by decide)).mp z; omega) (br_f (nI_pos (by omega)) ?_))
  exact br_f (by decide) ⟨ke_v4 hc hq4, vp_in_nI hm64 (by omega), nm_r (e' := upd mem (ke_ad p b c reg) (reg (c * 4 + q))) (by rw [ke_c4 hc hq4, hm6]) ⟨ke_i4 hc, nm_r (e' := upd pc c (pc c + 1)) (by rw [ke_k4 hc, hi]) hp⟩⟩
end
