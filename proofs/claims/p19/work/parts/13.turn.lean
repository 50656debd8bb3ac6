section
variable {W S R O : Int32} {mem ops oa ob len st pc reg res fp bv yb hb att ca co cn : Nat → Int32} {c : Nat}
variable {L : Nat} {xs : Nat → Int32} {post : Int32 → Prop} {kc ks : Nat} {w2 s2 r2 : Int32}
variable {J : Int32 → Int32 → Int32 → Int32 → Int32 → (Nat → Int32) → (Nat → Int32) → (Nat → Int32) → (Nat → Int32) → (Nat → Int32) → (Nat → Int32) → (Nat → Int32) → (Nat → Int32) → (Nat → Int32) → (Nat → Int32) → (Nat → Int32) → (Nat → Int32) → (Nat → Int32) → (Nat → Int32) → (Nat → Int32) → (Nat → Int32) → Int32 → Int32 → Int32 → Int32 → (Nat → Int32) → (Nat → Int32) → (Nat → Int32) → (Nat → Int32) → (Nat → Int32) → (Nat → Int32) → (Nat → Int32) → (Nat → Int32) → (Nat → Int32) → (Nat → Int32) → (Nat → Int32) → (Nat → Int32) → (Nat → Int32) → (Nat → Int32) → (Nat → Int32) → (Nat → Int32) → Prop} {y3 y4 : Int32} {t : Nat}
def sq_V (L : Nat) (xs Q : ke_F) (S O : Int32) (mem ops oa ob len st pc reg fp hb bv : ke_F) : Prop := (∃ d, 1 ≤ d ∧ d ≤ 4 ∧ S = nI d) ∧ sq_Bd L xs ops oa ob len 4 0 ∧ ke_N 3 fp ∧ sq_G (sq_P L xs) (sq_len L xs) Q O mem st pc reg fp hb bv
theorem sq_copy_at (d s : ke_F) (b : Nat) : ∀ n k, k < n → ke_copy d s b n (b + k) = s (b + k) := by
  intro n
  induction n with
  | zero => intro k hk; omega
  | succ n ih =>
    intro k hk
    by_cases e : k = n
    · subst e; exact pk_us
    · have e1 : ke_copy d s b (n + 1) (b + k) = ke_copy d s b n (b + k) := pk_un (by omega)
      rw [e1]; exact ih k (by omega)
theorem sq_con_N {R : Int32} {l : Nat} {f : Int32} {t : ke_T} (h : ke_N 3 t.2.2.2.1) : ∀ n, ke_N 3 (ke_con R l f c t n).2.2.2.1 := by
  intro n
  induction n with
  | zero => exact h
  | succ n ih =>
    unfold ke_con
    split
    · exact ke_N_fill ih _ _
    · exact ih
theorem sq_acq_N {R : Int32} {t : ke_T} (h : ke_N 3 t.2.2.2.1) : ∀ n, ke_N 3 (ke_acq R t n).2.2.2.1 := by
  intro n
  induction n with
  | zero => exact h
  | succ n ih =>
    unfold ke_acq
    split
    · exact ke_N_fill ih _ _
    · exact ih
theorem sq_ad_row {i : sq_N} {reg' : ke_F} (h : sq_Ok i) (hr : ∀ j, j < 4 → reg' (c * 4 + j) = reg (c * 4 + j)) : ke_ad i.1 i.2.2 c reg' = ke_ad i.1 i.2.2 c reg := by
  unfold ke_ad
  split
  · rename_i z
    obtain ⟨m, hm, e⟩ := h.2.2.2.1 (by omega)
    have e2 : i.2.2.toNatClampNeg = m := by rw [e, nI_clamp (by omega)]
    rw [e2, hr m hm]
  · rfl
theorem sq_301 {Q mem' reg0 : ke_F} (hL : L ≤ 260) (hc : c < 4) (hit : sq_it (sq_P L xs c) (sq_len L xs c) (sq_z Q) 17 = (sq_row reg0 c, sq_len L xs c, mem')) (hJ : J (nI (t + 1)) W S R O mem ops oa ob len st pc reg (ke_copy res reg0 (c * 4) 4) fp bv hb att ca co cn w2 s2 r2 (-1) (mem') (fun _ => 0) (fun _ => 0) (fun _ => 0) (fun _ => 0) (fun _ => 0) (fun _ => 0) (fun _ => 0) (fun _ => 0) (fun _ => 0) (fun _ => 0) (fun _ => 0) (fun _ => 0) (fun _ => 0) (fun _ => 0) (fun _ => 0)) : wL_law_301 post L xs J y3 y4 (nI t) (nI c) kc ks W S R O mem ops oa ob len st pc reg (ke_copy res reg0 (c * 4) 4) fp bv hb att ca co cn w2 s2 r2 (-1) Q (fun _ => 0) (fun _ => 0) (fun _ => 0) (fun _ => 0) (fun _ => 0) (fun _ => 0) (fun _ => 0) (fun _ => 0) (fun _ => 0) (fun _ => 0) (fun _ => 0) (fun _ => 0) (fun _ => 0) (fun _ => 0) (fun _ => 0) := by
  unfold wL_law_301
  refine sq_Len hL hc ⟨18, ?_⟩
  refine sq_rep hL hc ?_ 17 0 rfl
  rw [hit]
  have e : ∀ k, k < 4 → ke_copy res reg0 (c * 4) 4 (c * 4 + k) = sq_row reg0 c k := fun k hk => (sq_copy_at res reg0 (c * 4) 4 k hk).trans (sq_row_at hk).symm
  unfold wL_law_658
  refine ke_Xre (k := 0) hc (by decide) (br_t (e 0 (by decide)) ?_)
  refine ke_Xre (k := 1) hc (by decide) (br_t (e 1 (by decide)) ?_)
  refine ke_Xre (k := 2) hc (by decide) (br_t (e 2 (by decide)) ?_)
  refine ke_Xre (k := 3) hc (by decide) (br_t (e 3 (by decide)) ?_)
  exact nm_r (nI_1 t) hJ
theorem sq_743 : ∀ e i, i + e = 64 → wL_law_743 (fun r => r = 1) L xs kc ks W S R O mem ops oa ob len st pc reg res fp bv hb att ca co cn w2 s2 r2 (-1) mem (fun _ => 0) (fun _ => 0) (fun _ => 0) (fun _ => 0) (fun _ => 0) (fun _ => 0) (fun _ => 0) (fun _ => 0) (fun _ => 0) (fun _ => 0) (fun _ => 0) (fun _ => 0) (fun _ => 0) (fun _ => 0) (fun _ => 0) (e + 1) (nI i) := by
  intro e
  induction e with
  | zero =>
    intro i hi
    have e : i = 64 := by omega
    subst e
    exact br_t (nI_le (Nat.le_refl 64) (by decide)) rfl
  | succ e ih =>
    intro i hi
    refine br_f (nI_ge (b := 64) (by omega) (by decide)) ?_
    refine ke_Xpe (by omega) ?_
    refine ke_Xpe (by omega) ?_
    exact br_t rfl (nm_r (nI_1 i) (ih (i + 1) (by omega)))
theorem sq_717 {Q : ke_F} (hV : sq_V L xs Q S O mem ops oa ob len st pc reg fp hb bv) : ∀ e i, i + e = 4 → (∀ d, d < i → st d = 0) → wL_law_717 (fun r => r = 1) L xs kc ks W S R O mem ops oa ob len st pc reg res fp bv hb att ca co cn w2 s2 r2 (-1) Q (fun _ => 0) (fun _ => 0) (fun _ => 0) (fun _ => 0) (fun _ => 0) (fun _ => 0) (fun _ => 0) (fun _ => 0) (fun _ => 0) (fun _ => 0) (fun _ => 0) (fun _ => 0) (fun _ => 0) (fun _ => 0) (fun _ => 0) (e + 1) (nI i) := by
  intro e
  induction e with
  | zero =>
    intro i hi h0
    have e : i = 4 := by omega
    subst e
    refine br_t (nI_le (Nat.le_refl 4) (by decide)) ⟨65, ?_⟩
    have hQ : Q = mem := by
      rcases hV.2.2.2.2.2 with z | ⟨d, hd, _, e4⟩
      · exact z.2
      · rw [h0 d hd] at e4; exact absurd e4 (by decide)
    rw [hQ]
    exact sq_743 64 0 rfl
  | succ e ih =>
    intro i hi h0
    refine br_f (nI_ge (b := 4) (by omega) (by decide)) (ke_Xsa (by omega) ?_)
    by_cases z : st i = 0
    · refine br_t z (nm_r (nI_1 i) (ih (i + 1) (by omega) (fun d hd => ?_)))
      by_cases e : d = i
      · rw [e]; exact z
      · exact h0 d (by omega)
    · exact br_f z rfl
theorem sq_204s {Q : ke_F} {x6 z0 : Int32} (hz0 : ¬ z0 = 0) (hz3 : ¬ z0 = 3) (hL : L ≤ 260) (hc : c < 4) (hV : sq_V L xs Q S O mem ops oa ob len st pc reg fp hb bv) (hJ : ∀ (O : Int32) (mem st pc reg res fp bv hb att ca co cn Q : ke_F), sq_V L xs Q S O mem ops oa ob len st pc reg fp hb bv → J (nI (t + 1)) W S R O mem ops oa ob len st pc reg res fp bv hb att ca co cn w2 s2 r2 (-1) Q (fun _ => 0) (fun _ => 0) (fun _ => 0) (fun _ => 0) (fun _ => 0) (fun _ => 0) (fun _ => 0) (fun _ => 0) (fun _ => 0) (fun _ => 0) (fun _ => 0) (fun _ => 0) (fun _ => 0) (fun _ => 0) (fun _ => 0)) : wL_law_204 post L xs J y3 y4 (nI t) x6 (nI c) z0 kc ks W S R O mem ops oa ob len st pc reg res fp bv hb att ca co cn w2 s2 r2 (-1) Q (fun _ => 0) (fun _ => 0) (fun _ => 0) (fun _ => 0) (fun _ => 0) (fun _ => 0) (fun _ => 0) (fun _ => 0) (fun _ => 0) (fun _ => 0) (fun _ => 0) (fun _ => 0) (fun _ => 0) (fun _ => 0) (fun _ => 0) := by
  have hVV := hV
  obtain ⟨hS, hB, hN, hG⟩ := hV
  have hlen := sq_len_le L xs c
  have hC := hG.1 c hc
  obtain ⟨q, i, hq, hi16, hs, hi, _, _⟩ := hC
  obtain ⟨hl0, hP0⟩ := hB c hc
  have en : sq_n L xs 4 0 c = sq_len L xs c := by unfold sq_n; rw [if_pos hc]
  rw [en] at hl0 hP0
  refine br_f hz0 (br_f hz3 ?_)
  have hqq : q = 0 ∨ q = 1 ∨ q = 3 ∨ q = 2 ∨ q = 4 := by omega
  rcases hqq with rfl | rfl | rfl | rfl | rfl
  · exact ke_T0 hc hs (br_f (by decide) (br_f (by decide) (nm_r (nI_1 t) (hJ _ _ _ _ _ _ _ _ _ _ _ _ _ _ hVV))))
  · by_cases hO : O = -1
    · exact ke_T1 hc hs hO (br_f (by decide) (br_f (by decide) (nm_r (nI_1 t) (hJ _ _ _ _ _ _ _ _ _ _ _ _ _ _ ⟨hS, hB, ke_N_upd (p := 1) (ke_N_fill hN _ _) (by omega) rfl, sq_begin hG hO hc⟩))))
    · exact ke_T1b hc hs hO (br_f (by decide) (br_f (by decide) (nm_r (nI_1 t) (hJ _ _ _ _ _ _ _ _ _ _ _ _ _ _ hVV))))
  · by_cases hO : O = -1
    · refine ke_T3 (yb := fun _ => 0) hc hs hO ?_
      exact br_f (by decide) (br_f (by decide) (nm_r (nI_1 t) (hJ _ _ _ _ _ _ _ _ _ _ _ _ _ _ ⟨hS, hB, sq_acq_N hN 4, sq_acquire (t := (st, pc, reg, fp, hb, att, ca, co, cn, (fun _ => 0))) hG hO hc⟩)))
    · exact ke_T3b hc hs hO (br_f (by decide) (br_f (by decide) (nm_r (nI_1 t) (hJ _ _ _ _ _ _ _ _ _ _ _ _ _ _ hVV))))
  · by_cases hiL : i < sq_len L xs c
    · obtain ⟨ho, eq, eb⟩ := hP0 i hiL
      have hok := sq_POk L xs c i
      have hok2 : ke_Ok (nI (sq_op L xs c i)) (nI (sq_ra L xs c i)) (sq_rb L xs c i) := sq_Ok_ke hok
      have hp9 := sq_op_lt L xs c i
      have hq4 := sq_ra_lt L xs c i
      by_cases hp7 : sq_op L xs c i = 7
      · refine ke_T27 hc ho eq eb hi hl0 (by omega) hiL hok2 hp9 hq4 hs hp7 ?_
        exact br_f (by decide) (br_f (by decide) (nm_r (nI_1 t) (hJ _ _ _ _ _ _ _ _ _ _ _ _ _ _ ⟨hS, hB, ke_N_fill hN _ _, sq_abort (ca := 3) (co := 0) (t := (st, pc, reg, fp, hb, att, ca, co, cn, (fun _ => 0))) hG hc hs⟩)))
      obtain ⟨d, hd1, hd4, eS⟩ := hS
      by_cases hpl : sq_op L xs c i = 1 ∨ sq_op L xs c i = 5
      · by_cases hov : ke_ov W d fp c (ke_ad (sq_op L xs c i) (sq_rb L xs c i) c reg / 4)
        · refine ke_T2ol hc ho eq eb hi hl0 (by omega) hiL hok2 hp9 hq4 hs hpl eS hd1 hd4 rfl rfl hov ?_
          exact br_f (by decide) (br_f (by decide) (nm_r (nI_1 t) (hJ _ _ _ _ _ _ _ _ _ _ _ _ _ _ ⟨⟨d, hd1, hd4, eS⟩, hB, ke_N_fill hN _ _, sq_abort (ca := 2) (co := 0) (t := (st, pc, reg, fp, hb, att, ca, co, cn, (fun _ => 0))) hG hc hs⟩)))
        · refine ke_T2l (yb := fun _ => 0) hc ho eq eb hi hl0 (by omega) hiL hok2 hp9 hq4 hs hpl eS hd1 hd4 rfl rfl hov ?_
          have hm64 : ke_ad (sq_op L xs c i) (sq_rb L xs c i) c reg < 64 := ke_ad_lt c reg hok2 (by omega)
          have hl17 : ke_ad (sq_op L xs c i) (sq_rb L xs c i) c reg / 4 < 17 := by omega
          have hrow := (sq_con R hl17 2 c (st, pc, reg, fp, hb, att, ca, co, cn, (fun _ => 0)) 4 c).1 (fun z => z.2.1 rfl)
          have hcon := sq_con R hl17 2 c (st, pc, reg, fp, hb, att, ca, co, cn, (fun _ => 0)) 4
          have hGc := sq_conG (R := R) (f := 2) (c := c) (t := (st, pc, reg, fp, hb, att, ca, co, cn, (fun _ => 0))) hG hl17
          have hNc := sq_con_N (R := R) (l := ke_ad (sq_op L xs c i) (sq_rb L xs c i) c reg / 4) (f := 2) (c := c) (t := (st, pc, reg, fp, hb, att, ca, co, cn, (fun _ => 0))) hN 4
          generalize ke_con R (ke_ad (sq_op L xs c i) (sq_rb L xs c i) c reg / 4) 2 c (st, pc, reg, fp, hb, att, ca, co, cn, (fun _ => 0)) 4 = u at hrow hcon hGc hNc ⊢
          obtain ⟨r1, r2', r3, r4, r5⟩ := hrow
          have r1 : u.1 c = 2 := r1.trans hs
          have r2' : u.2.1 c = nI i := r2'.trans hi
          have e : u.2.1 c + 1 = nI (i + 1) := by rw [r2', nI_1]
          rw [e]
          have hm : ke_ad (sq_op L xs c i) (sq_rb L xs c i) c reg = ke_ad (sq_P L xs c i).1 (sq_P L xs c i).2.2 c u.2.2.1 := (sq_ad_row hok r3).symm
          obtain ⟨n, hn3, en3⟩ := hNc (c * 17 + ke_ad (sq_op L xs c i) (sq_rb L xs c i) c reg / 4)
          obtain ⟨p', hp', ep'⟩ := ke_or1 hn3 en3
          refine br_f (by decide) (br_f (by decide) (nm_r (nI_1 t) (hJ _ _ _ _ _ _ _ _ _ _ _ _ _ _ ⟨⟨d, hd1, hd4, eS⟩, hB, ke_N_upd hNc hp' ep', sq_spec_ld hGc hNc hc r1 r2' hiL (by omega) hok hpl hm ?_⟩)))
          intro x hx hxc hx2
          by_cases hh : sq_Hit (ke_ad (sq_op L xs c i) (sq_rb L xs c i) c reg / 4) 2 c (st, pc, reg, fp, hb, att, ca, co, cn, (fun _ => 0)) x
          · obtain ⟨o1, _⟩ := (hcon x).2 ⟨hx, hh⟩
            rw [hx2] at o1
            rcases o1 with o | o <;> exact absurd o (by decide)
          · have hr := (hcon x).1 (fun z => hh z.2)
            rw [hr.2.2.2.1 _ hl17]
            exact Decidable.byContradiction (fun z => hh ⟨hxc, hr.1.symm.trans hx2, z⟩)
      by_cases hps : sq_op L xs c i = 2 ∨ sq_op L xs c i = 6
      · by_cases hov : ke_ov W d fp c (ke_ad (sq_op L xs c i) (sq_rb L xs c i) c reg / 4)
        · refine ke_T2os hc ho eq eb hi hl0 (by omega) hiL hok2 hp9 hq4 hs hps eS hd1 hd4 rfl rfl hov ?_
          exact br_f (by decide) (br_f (by decide) (nm_r (nI_1 t) (hJ _ _ _ _ _ _ _ _ _ _ _ _ _ _ ⟨⟨d, hd1, hd4, eS⟩, hB, ke_N_fill hN _ _, sq_abort (ca := 2) (co := 0) (t := (st, pc, reg, fp, hb, att, ca, co, cn, (fun _ => 0))) hG hc hs⟩)))
        · refine ke_T2s (yb := fun _ => 0) hc ho eq eb hi hl0 (by omega) hiL hok2 hp9 hq4 hs hps eS hd1 hd4 rfl rfl hov ?_
          have hm64 : ke_ad (sq_op L xs c i) (sq_rb L xs c i) c reg < 64 := ke_ad_lt c reg hok2 (by omega)
          have hl17 : ke_ad (sq_op L xs c i) (sq_rb L xs c i) c reg / 4 < 17 := by omega
          have hrow := (sq_con R hl17 3 c (st, pc, reg, fp, hb, att, ca, co, cn, (fun _ => 0)) 4 c).1 (fun z => z.2.1 rfl)
          have hcon := sq_con R hl17 3 c (st, pc, reg, fp, hb, att, ca, co, cn, (fun _ => 0)) 4
          have hGc := sq_conG (R := R) (f := 3) (c := c) (t := (st, pc, reg, fp, hb, att, ca, co, cn, (fun _ => 0))) hG hl17
          have hNc := sq_con_N (R := R) (l := ke_ad (sq_op L xs c i) (sq_rb L xs c i) c reg / 4) (f := 3) (c := c) (t := (st, pc, reg, fp, hb, att, ca, co, cn, (fun _ => 0))) hN 4
          generalize ke_con R (ke_ad (sq_op L xs c i) (sq_rb L xs c i) c reg / 4) 3 c (st, pc, reg, fp, hb, att, ca, co, cn, (fun _ => 0)) 4 = u at hrow hcon hGc hNc ⊢
          obtain ⟨r1, r2', r3, r4, r5⟩ := hrow
          have r1 : u.1 c = 2 := r1.trans hs
          have r2' : u.2.1 c = nI i := r2'.trans hi
          have e : u.2.1 c + 1 = nI (i + 1) := by rw [r2', nI_1]
          rw [e]
          have hm : ke_ad (sq_op L xs c i) (sq_rb L xs c i) c reg = ke_ad (sq_P L xs c i).1 (sq_P L xs c i).2.2 c u.2.2.1 := (sq_ad_row hok r3).symm
          obtain ⟨n, hn3, en3⟩ := hNc (c * 17 + ke_ad (sq_op L xs c i) (sq_rb L xs c i) c reg / 4)
          obtain ⟨p', hp', ep'⟩ := ke_or2 hn3 en3
          refine br_f (by decide) (br_f (by decide) (nm_r (nI_1 t) (hJ _ _ _ _ _ _ _ _ _ _ _ _ _ _ ⟨⟨d, hd1, hd4, eS⟩, hB, ke_N_upd hNc hp' ep', sq_spec_sr hGc hNc hc r1 r2' hiL (by omega) hok hps hm ?_⟩)))
          intro x hx hxc hx2
          by_cases hh : sq_Hit (ke_ad (sq_op L xs c i) (sq_rb L xs c i) c reg / 4) 3 c (st, pc, reg, fp, hb, att, ca, co, cn, (fun _ => 0)) x
          · obtain ⟨o1, _⟩ := (hcon x).2 ⟨hx, hh⟩
            rw [hx2] at o1
            rcases o1 with o | o <;> exact absurd o (by decide)
          · have hr := (hcon x).1 (fun z => hh z.2)
            rw [hr.2.2.2.1 _ hl17]
            exact Decidable.byContradiction (fun z => hh ⟨hxc, hr.1.symm.trans hx2, z⟩)
      refine ke_T2x hc ho eq eb hi hl0 (by omega) hiL hok2 hp9 hq4 hs (by omega) ?_
      exact br_f (by decide) (br_f (by decide) (nm_r (nI_1 t) (hJ _ _ _ _ _ _ _ _ _ _ _ _ _ _ ⟨⟨d, hd1, hd4, eS⟩, hB, hN, sq_spec_x hG hc hs hi hiL (by omega) hok (show ¬ (sq_op L xs c i = 1 ∨ sq_op L xs c i = 2 ∨ sq_op L xs c i = 5 ∨ sq_op L xs c i = 6) by omega)⟩)))
    · have hl : ¬ pc c < len c := by rw [hi, hl0]; exact nI_nlt (by omega) (by omega)
      obtain ⟨h1, h2⟩ := sq_commit hG hc hs hi hi16 (by omega) (by omega) (fun j _ => sq_POk L xs c j)
      refine ke_T2e hc hs hl (br_t rfl ?_)
      exact sq_301 hL hc h1 (hJ _ _ _ _ _ _ _ _ _ _ _ _ _ _ ⟨hS, hB, ke_N_fill hN _ _, h2⟩)
  · by_cases hiL : i < sq_len L xs c
    · obtain ⟨ho, eq, eb⟩ := hP0 i hiL
      have hok := sq_POk L xs c i
      have hok2 : ke_Ok (nI (sq_op L xs c i)) (nI (sq_ra L xs c i)) (sq_rb L xs c i) := sq_Ok_ke hok
      have hp9 := sq_op_lt L xs c i
      have hq4 := sq_ra_lt L xs c i
      have e : pc c + 1 = nI (i + 1) := by rw [hi, nI_1]
      by_cases hpl : sq_op L xs c i = 1 ∨ sq_op L xs c i = 5
      · refine ke_T4l hc ho eq eb hi hl0 (by omega) hiL hok2 hp9 hq4 hs hpl ?_
        rw [e]
        exact br_f (by decide) (br_f (by decide) (nm_r (nI_1 t) (hJ _ _ _ _ _ _ _ _ _ _ _ _ _ _ ⟨hS, hB, hN, sq_lock_ld hG hc hs hi hiL (by omega) hok hpl⟩)))
      by_cases hps : sq_op L xs c i = 2 ∨ sq_op L xs c i = 6
      · refine ke_T4s hc ho eq eb hi hl0 (by omega) hiL hok2 hp9 hq4 hs hps ?_
        rw [e]
        exact br_f (by decide) (br_f (by decide) (nm_r (nI_1 t) (hJ _ _ _ _ _ _ _ _ _ _ _ _ _ _ ⟨hS, hB, hN, sq_lock_sr hG hc hs hi hiL (by omega) hok hps⟩)))
      refine ke_T4x hc ho eq eb hi hl0 (by omega) hiL hok2 hp9 hq4 hs (by omega) ?_
      exact br_f (by decide) (br_f (by decide) (nm_r (nI_1 t) (hJ _ _ _ _ _ _ _ _ _ _ _ _ _ _ ⟨hS, hB, hN, sq_lock_x hG hc hs hi hiL (by omega) hok (show ¬ (sq_op L xs c i = 1 ∨ sq_op L xs c i = 2 ∨ sq_op L xs c i = 5 ∨ sq_op L xs c i = 6) by omega)⟩)))
    · have hl : ¬ pc c < len c := by rw [hi, hl0]; exact nI_nlt (by omega) (by omega)
      obtain ⟨h1, h2⟩ := sq_release hG hc hs hi hi16 (by omega) (by omega) (fun j _ => sq_POk L xs c j)
      refine ke_T4e hc hs hl (br_f (by decide) (br_t rfl ?_))
      exact sq_301 hL hc h1 (hJ _ _ _ _ _ _ _ _ _ _ _ _ _ _ ⟨hS, hB, hN, h2⟩)
theorem sq_204 {Q : ke_F} {x6 z0 : Int32} (hL : L ≤ 260) (hc : c < 4) (hV : sq_V L xs Q S O mem ops oa ob len st pc reg fp hb bv) (hJ : ∀ (O : Int32) (mem st pc reg res fp bv hb att ca co cn Q : ke_F), sq_V L xs Q S O mem ops oa ob len st pc reg fp hb bv → J (nI (t + 1)) W S R O mem ops oa ob len st pc reg res fp bv hb att ca co cn w2 s2 r2 (-1) Q (fun _ => 0) (fun _ => 0) (fun _ => 0) (fun _ => 0) (fun _ => 0) (fun _ => 0) (fun _ => 0) (fun _ => 0) (fun _ => 0) (fun _ => 0) (fun _ => 0) (fun _ => 0) (fun _ => 0) (fun _ => 0) (fun _ => 0)) : wL_law_204 post L xs J y3 y4 (nI t) x6 (nI c) z0 kc ks W S R O mem ops oa ob len st pc reg res fp bv hb att ca co cn w2 s2 r2 (-1) Q (fun _ => 0) (fun _ => 0) (fun _ => 0) (fun _ => 0) (fun _ => 0) (fun _ => 0) (fun _ => 0) (fun _ => 0) (fun _ => 0) (fun _ => 0) (fun _ => 0) (fun _ => 0) (fun _ => 0) (fun _ => 0) (fun _ => 0) := by
  by_cases hz0 : z0 = 0
  · refine br_t hz0 (ke_Xsa hc ?_)
    by_cases hs : st c = 0
    · refine br_t hs (ke_Xen hc hs ?_ ?_)
      · exact nm_r (nI_1 t) (hJ _ _ _ _ _ _ _ _ _ _ _ _ _ _ hV)
      · exact nm_r (nI_1 t) (hJ _ _ _ _ _ _ _ _ _ _ _ _ _ _ ⟨hV.1, hV.2.1, hV.2.2.1, sq_enter hV.2.2.2 hc hs⟩)
    · exact br_f hs (nm_r (nI_1 t) (hJ _ _ _ _ _ _ _ _ _ _ _ _ _ _ hV))
  · by_cases hz3 : z0 = 3
    · obtain ⟨a, ha, ea⟩ := pk_andE (x6.toUInt32 >>> ((4 : Int32).toUInt32 &&& Int32.toUInt32 31)).toInt32 (m := 15) 4 (by decide)
      have ha : a < 64 := Nat.lt_trans ha (by decide)
      refine br_f hz0 (br_t hz3 (nm_r (e' := nI a) ea (nm_e ?_)))
      refine ke_Xpk ha (fun _ => ?_) (fun h => ?_)
      · exact br_t rfl (nm_r (nI_1 t) (hJ _ _ _ _ _ _ _ _ _ _ _ _ _ _ hV))
      · refine br_f (by decide) (ke_Xpk ha (fun h => absurd h sq_st0) (fun _ => ?_))
        exact nm_r (nI_1 t) (hJ _ _ _ _ _ _ _ _ _ _ _ _ _ _ ⟨hV.1, hV.2.1, hV.2.2.1, sq_poke hV.2.2.2 (fun d hd => h d (Nat.zero_le _) hd) _ _⟩)
    · exact sq_204s hz0 hz3 hL hc hV hJ
end
