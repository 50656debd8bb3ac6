theorem sq_G_one {P : Nat → Nat → sq_N} {Ls : Nat → Nat} {Q Q' : ke_F} {O O' : Int32} {mem st pc reg fp hb bv mem' st' pc' reg' fp' hb' bv' : ke_F} {c : Nat} (h : sq_G P Ls Q O mem st pc reg fp hb bv) (hc : c < 4)
    (hrow : ∀ d, d < 4 → d ≠ c → st' d = st d ∧ pc' d = pc d ∧ (∀ j, j < 4 → reg' (d * 4 + j) = reg (d * 4 + j)) ∧ (∀ l, l < 16 → fp' (d * 17 + l) = fp (d * 17 + l)) ∧ (∀ j, j < 64 → hb' (d * 64 + j) = hb (d * 64 + j) ∧ bv' (d * 64 + j) = bv (d * 64 + j)))
    (h2 : ∀ d, d < 4 → d ≠ c → st d = 2 → O' = O ∧ ∀ j, j < 64 → ¬ fp (d * 17 + j / 4) = 0 → mem' j = mem j)
    (h4 : ∀ d, d < 4 → d ≠ c → st d = 4 → O' = O ∧ mem' = mem ∧ Q' = Q)
    (hC : sq_C P Ls Q' O' mem' st' pc' reg' fp' hb' bv' c)
    (hX : st' c = 2 → ∀ d, d < 4 → d ≠ c → st d = 2 → ∀ l, l < 16 → (sq_W (fp' (c * 17 + l)) → fp (d * 17 + l) = 0) ∧ (sq_W (fp (d * 17 + l)) → fp' (c * 17 + l) = 0))
    (hO : (O' = -1 ∧ Q' = mem') ∨ ∃ d, d < 4 ∧ O' = nI d ∧ st' d = 4) : sq_G P Ls Q' O' mem' st' pc' reg' fp' hb' bv' := by
  obtain ⟨g1, g2, g3⟩ := h
  refine ⟨fun d hd => ?_, fun a d ha hd hne ea ed l hl hw => ?_, hO⟩
  · by_cases e : d = c
    · subst e; exact hC
    · obtain ⟨r1, r2, r3, r4, r5⟩ := hrow d hd e
      exact sq_C_frame (g1 d hd) r1 r2 r3 r4 r5 (h2 d hd e) (h4 d hd e)
  · by_cases e : a = c
    · subst e
      obtain ⟨r1, r2, r3, r4, r5⟩ := hrow d hd (fun z => hne z.symm)
      rw [r4 l hl]
      exact (hX ea d hd (fun z => hne z.symm) (r1.symm.trans ed) l hl).1 hw
    · obtain ⟨r1, r2, r3, r4, r5⟩ := hrow a ha e
      rw [r4 l hl] at hw
      by_cases e' : d = c
      · subst e'
        exact (hX ed a ha e (r1.symm.trans ea) l hl).2 hw
      · obtain ⟨s1, s2, s3, s4, s5⟩ := hrow d hd e'
        rw [s4 l hl]
        exact g2 a d ha hd hne (r1.symm.trans ea) (s1.symm.trans ed) l hl hw
theorem sq_st2 {P : Nat → Nat → sq_N} {Ls : Nat → Nat} {Q : ke_F} {O : Int32} {mem st pc reg fp hb bv : ke_F} {c p : Nat} (h : sq_G P Ls Q O mem st pc reg fp hb bv) (hc : c < 4) (hs : st c = 2) (hp : pc c = nI p) (hp16 : p ≤ 16) : O = -1 ∧ Q = mem ∧ p ≤ Ls c ∧ sq_J (P c) (Ls c) mem reg fp hb bv c p ∧ (∀ j, j < 64 → ¬ hb (c * 64 + j) = 0 → sq_W (fp (c * 17 + j / 4))) ∧ (∀ d, d < 4 → ¬ st d = 4) := by
  obtain ⟨g1, g2, g3⟩ := h
  have hC := g1 c hc
  obtain ⟨q, p', hq, hp', es, ep, a2, a4⟩ := hC
  have e2 : q = 2 := (nI_eq (by omega) (by omega)).mp (es.symm.trans hs)
  have e3 : p' = p := (nI_eq (by omega) (by omega)).mp (ep.symm.trans hp)
  subst e3
  obtain ⟨b1, b2, b3, b4⟩ := a2 e2
  subst b2
  refine ⟨rfl, ?_, b1, b3, b4, fun d hd => sq_no4 hd (g1 d hd)⟩
  rcases g3 with h | ⟨d, hd, e, _⟩
  · exact h.2
  · exact absurd e (sq_m1 hd)
theorem sq_st4 {P : Nat → Nat → sq_N} {Ls : Nat → Nat} {Q : ke_F} {O : Int32} {mem st pc reg fp hb bv : ke_F} {c p : Nat} (h : sq_G P Ls Q O mem st pc reg fp hb bv) (hc : c < 4) (hs : st c = 4) (hp : pc c = nI p) (hp16 : p ≤ 16) : O = nI c ∧ p ≤ Ls c ∧ sq_K (P c) (Ls c) Q mem reg c p ∧ (∀ d, d < 4 → ¬ st d = 2 ∧ (st d = 4 → d = c)) := by
  obtain ⟨g1, g2, g3⟩ := h
  have hC := g1 c hc
  obtain ⟨q, p', hq, hp', es, ep, a2, a4⟩ := hC
  have e2 : q = 4 := (nI_eq (by omega) (by omega)).mp (es.symm.trans hs)
  have e3 : p' = p := (nI_eq (by omega) (by omega)).mp (ep.symm.trans hp)
  subst e3
  obtain ⟨b1, b2, b3⟩ := a4 e2
  exact ⟨b2, b1, b3, fun d hd => sq_own hc hd b2 (g1 d hd)⟩
theorem sq_row_fill {a : ke_F} {c d k n j : Nat} (hd : d ≠ c) (hj : j < k) (hn : n ≤ k) : ke_fill a (c * k) n (d * k + j) = a (d * k + j) := by
  apply sq_fill_out
  rcases Nat.lt_or_gt_of_ne hd with h | h
  · left
    have : d * k + k ≤ c * k := by rw [← Nat.succ_mul]; exact Nat.mul_le_mul_right k h
    omega
  · right
    have : c * k + k ≤ d * k := by rw [← Nat.succ_mul]; exact Nat.mul_le_mul_right k h
    omega
theorem sq_enter {P : Nat → Nat → sq_N} {Ls : Nat → Nat} {Q : ke_F} {O : Int32} {mem st pc reg fp hb bv : ke_F} {c : Nat} (h : sq_G P Ls Q O mem st pc reg fp hb bv) (hc : c < 4) (hs : st c = 0) : sq_G P Ls Q O mem (upd st c 1) (upd pc c 0) (ke_fill reg (c * 4) 4) fp hb bv := by
  have h0 := h
  obtain ⟨g1, g2, g3⟩ := h0
  refine sq_G_one h hc (fun d hd e => ⟨pk_un e, pk_un e, fun j hj => sq_row_fill e hj (Nat.le_refl 4), fun _ _ => rfl, fun _ _ => ⟨rfl, rfl⟩⟩) (fun _ _ _ _ => ⟨rfl, fun _ _ _ => rfl⟩) (fun _ _ _ _ => ⟨rfl, rfl, rfl⟩) (sq_C_off (q := 1) (p := 0) pk_us (by omega) pk_us (by omega)) ?_ ?_
  · intro e; rw [pk_us] at e; exact absurd e (by decide)
  · rcases g3 with z | ⟨d, hd, e, e4⟩
    · exact Or.inl z
    · refine Or.inr ⟨d, hd, e, ?_⟩
      have : d ≠ c := by intro x; subst x; rw [hs] at e4; exact absurd e4 (by decide)
      rw [pk_un this]; exact e4
theorem sq_begin {P : Nat → Nat → sq_N} {Ls : Nat → Nat} {Q : ke_F} {mem st pc reg fp hb bv : ke_F} {c : Nat} {O : Int32} (h : sq_G P Ls Q O mem st pc reg fp hb bv) (hO : O = -1) (hc : c < 4) : sq_G P Ls Q O mem (upd st c 2) (upd pc c 0) (ke_fill reg (c * 4) 4) (upd (ke_fill fp (c * 17) 17) (c * 17 + 16) 1) (ke_fill hb (c * 64) 64) bv := by
  subst hO
  have h0 := h
  obtain ⟨g1, g2, g3⟩ := h0
  have hz : ∀ l, l < 16 → upd (ke_fill fp (c * 17) 17) (c * 17 + 16) 1 (c * 17 + l) = 0 := by
    intro l hl
    rw [pk_un (by omega)]
    exact sq_fill_in _ _ _ _ (by omega) (by omega)
  have hh : ∀ j, j < 64 → ke_fill hb (c * 64) 64 (c * 64 + j) = 0 := fun j hj => sq_fill_in _ _ _ _ (by omega) (by omega)
  refine sq_G_one h hc (fun d hd e => ⟨pk_un e, pk_un e, fun j hj => sq_row_fill e hj (Nat.le_refl 4), fun l hl => ?_, fun j hj => ⟨sq_row_fill e hj (Nat.le_refl 64), rfl⟩⟩) (fun _ _ _ _ => ⟨rfl, fun _ _ _ => rfl⟩) (fun _ _ _ _ => ⟨rfl, rfl, rfl⟩) ?_ ?_ ?_
  · rw [pk_un (by omega)]; exact sq_row_fill e (by omega) (Nat.le_refl 17)
  · refine ⟨2, 0, by omega, by omega, pk_us, pk_us, fun _ => ⟨Nat.zero_le _, rfl, sq_J_0 (fun j hj => sq_fill_in _ _ _ _ (by omega) (by omega)) hh, fun j hj z => absurd (hh j hj) z⟩, fun e => by omega⟩
  · intro _ d hd e _ l hl
    refine ⟨fun w => ?_, fun _ => hz l hl⟩
    rw [hz l hl] at w
    rcases w with w | w <;> exact absurd w (by decide)
  · rcases g3 with z | ⟨d, hd, e, e4⟩
    · exact Or.inl z
    · exact absurd e (sq_m1 hd)
theorem sq_acquire {P : Nat → Nat → sq_N} {Ls : Nat → Nat} {Q : ke_F} {O R : Int32} {mem bv : ke_F} {t : ke_T} {c : Nat} (h : sq_G P Ls Q O mem t.1 t.2.1 t.2.2.1 t.2.2.2.1 t.2.2.2.2.1 bv) (hO : O = -1) (hc : c < 4) : sq_G P Ls Q (nI c) mem (upd (ke_acq R t 4).1 c 4) (upd (ke_acq R t 4).2.1 c 0) (ke_fill (ke_acq R t 4).2.2.1 (c * 4) 4) (ke_acq R t 4).2.2.2.1 (ke_acq R t 4).2.2.2.2.1 bv := by
  subst hO
  obtain ⟨g1, g2, g3⟩ := h
  have hQ : Q = mem := by
    rcases g3 with z | ⟨d, hd, e, e4⟩
    · exact z.2
    · exact absurd e (sq_m1 hd)
  have hoff : ∀ d, d < 4 → ∃ q p, (q = 0 ∨ q = 1 ∨ q = 3) ∧ p ≤ 16 ∧ (ke_acq R t 4).1 d = nI q ∧ (ke_acq R t 4).2.1 d = nI p := by
    intro d hd
    by_cases e : t.1 d = 2
    · obtain ⟨o1, o2⟩ := (sq_acq R t 4 d).2 ⟨hd, e⟩
      rcases o1 with o | o
      · exact ⟨1, 0, by omega, by omega, o, o2⟩
      · exact ⟨3, 0, by omega, by omega, o, o2⟩
    · obtain ⟨r1, r2, _⟩ := (sq_acq R t 4 d).1 (fun z => e z.2)
      have hC := g1 d hd
      have n4 := sq_no4 hd hC
      obtain ⟨q, p, hq, hp, es, ep, a2, a4⟩ := hC
      refine ⟨q, p, ?_, hp, r1.trans es, r2.trans ep⟩
      have : q ≠ 2 := by intro x; subst x; exact e es
      have : q ≠ 4 := by intro x; subst x; exact n4 es
      omega
  refine ⟨fun d hd => ?_, fun a d ha hd hne ea ed l hl hw => ?_, Or.inr ⟨c, hc, rfl, pk_us⟩⟩
  · by_cases e : d = c
    · subst e
      refine ⟨4, 0, by omega, by omega, pk_us, pk_us, fun e => by omega, fun _ => ⟨Nat.zero_le _, rfl, ?_⟩⟩
      subst hQ
      exact sq_K_0 (fun j hj => sq_fill_in _ _ _ _ (by omega) (by omega))
    · obtain ⟨q, p, hq, hp, es, ep⟩ := hoff d hd
      exact sq_C_off (by rw [pk_un e]; exact es) hq (by rw [pk_un e]; exact ep) hp
  · exfalso
    by_cases e : a = c
    · subst e; rw [pk_us] at ea; exact absurd ea (by decide)
    · obtain ⟨q, p, hq, hp, es, ep⟩ := hoff a ha
      rw [pk_un e, es] at ea
      have : q = 2 := (nI_eq (by omega) (by omega)).mp ea
      omega
theorem sq_conG {P : Nat → Nat → sq_N} {Ls : Nat → Nat} {Q : ke_F} {O R : Int32} {mem bv : ke_F} {t : ke_T} {c l : Nat} {f : Int32} (h : sq_G P Ls Q O mem t.1 t.2.1 t.2.2.1 t.2.2.2.1 t.2.2.2.2.1 bv) (hl : l < 17) : sq_G P Ls Q O mem (ke_con R l f c t 4).1 (ke_con R l f c t 4).2.1 (ke_con R l f c t 4).2.2.1 (ke_con R l f c t 4).2.2.2.1 (ke_con R l f c t 4).2.2.2.2.1 bv := by
  obtain ⟨g1, g2, g3⟩ := h
  refine ⟨fun d hd => ?_, fun a d ha hd hne ea ed l' hl' hw => ?_, ?_⟩
  · by_cases e : sq_Hit l f c t d
    · obtain ⟨o1, o2⟩ := (sq_con R hl f c t 4 d).2 ⟨hd, e⟩
      rcases o1 with o | o
      · exact sq_C_off (p := 0) o (by omega) o2 (by omega)
      · exact sq_C_off (p := 0) o (by omega) o2 (by omega)
    · obtain ⟨r1, r2, r3, r4, r5⟩ := (sq_con R hl f c t 4 d).1 (fun z => e z.2)
      exact sq_C_frame (g1 d hd) r1 r2 r3 (fun l hl => r4 l (by omega)) (fun j hj => ⟨r5 j hj, rfl⟩) (fun _ => ⟨rfl, fun _ _ _ => rfl⟩) (fun _ => ⟨rfl, rfl, rfl⟩)
  · have key : ∀ x, x < 4 → (ke_con R l f c t 4).1 x = 2 → sq_Row t (ke_con R l f c t 4) x := by
      intro x hx ex
      apply (sq_con R hl f c t 4 x).1
      intro z
      obtain ⟨o1, o2⟩ := (sq_con R hl f c t 4 x).2 z
      rw [ex] at o1
      rcases o1 with o | o <;> exact absurd o (by decide)
    obtain ⟨r1, r2, r3, r4, r5⟩ := key a ha ea
    obtain ⟨s1, s2, s3, s4, s5⟩ := key d hd ed
    rw [s4 l' (by omega)]
    rw [r4 l' (by omega)] at hw
    exact g2 a d ha hd hne (r1.symm.trans ea) (s1.symm.trans ed) l' hl' hw
  · rcases g3 with z | ⟨d, hd, e, e4⟩
    · exact Or.inl z
    · refine Or.inr ⟨d, hd, e, ?_⟩
      have hn : ¬ sq_Hit l f c t d := by
        intro z; have := z.2.1; rw [e4] at this; exact absurd this (by decide)
      rw [((sq_con R hl f c t 4 d).1 (fun z => hn z.2)).1]; exact e4
/-- a core's own abort -/
theorem sq_abort {P : Nat → Nat → sq_N} {Ls : Nat → Nat} {Q : ke_F} {O R : Int32} {mem bv : ke_F} {t : ke_T} {c : Nat} {ca co : Int32} (h : sq_G P Ls Q O mem t.1 t.2.1 t.2.2.1 t.2.2.2.1 t.2.2.2.2.1 bv) (hc : c < 4) (hs : t.1 c = 2) : sq_G P Ls Q O mem (ke_ab R c ca co t).1 (ke_ab R c ca co t).2.1 (ke_ab R c ca co t).2.2.1 (ke_ab R c ca co t).2.2.2.1 (ke_ab R c ca co t).2.2.2.2.1 bv := by
  have h0 := h
  obtain ⟨g1, g2, g3⟩ := h0
  have ho := sq_ab_off R c ca co t
  refine sq_G_one h hc (fun d hd e => ?_) (fun _ _ _ _ => ⟨rfl, fun _ _ _ => rfl⟩) (fun _ _ _ _ => ⟨rfl, rfl, rfl⟩) ?_ ?_ ?_
  · obtain ⟨r1, r2, r3, r4, r5⟩ := sq_ab_row R c ca co t e
    exact ⟨r1, r2, r3, fun l hl => r4 l (by omega), fun j hj => ⟨r5 j hj, rfl⟩⟩
  · obtain ⟨o1, o2⟩ := ho
    rcases o1 with o | o
    · exact sq_C_off (p := 0) o (by omega) o2 (by omega)
    · exact sq_C_off (p := 0) o (by omega) o2 (by omega)
  · intro e
    obtain ⟨o1, o2⟩ := ho
    rw [e] at o1
    rcases o1 with o | o <;> exact absurd o (by decide)
  · rcases g3 with z | ⟨d, hd, e, e4⟩
    · exact Or.inl z
    · refine Or.inr ⟨d, hd, e, ?_⟩
      have : d ≠ c := by intro x; subst x; rw [hs] at e4; exact absurd e4 (by decide)
      rw [(sq_ab_row R c ca co t this).1]; exact e4
