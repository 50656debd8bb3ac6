theorem sq_row_un {a : ke_F} {c d k q j : Nat} {v : Int32} (hd : d ≠ c) (hj : j < k) (hq : q < k) : upd a (c * k + q) v (d * k + j) = a (d * k + j) := by
  apply pk_un
  rcases Nat.lt_or_gt_of_ne hd with h | h
  · have : d * k + k ≤ c * k := by rw [← Nat.succ_mul]; exact Nat.mul_le_mul_right k h
    omega
  · have : c * k + k ≤ d * k := by rw [← Nat.succ_mul]; exact Nat.mul_le_mul_right k h
    omega
theorem sq_xr_row {p q : Nat} {b : Int32} {c d j : Nat} {reg : ke_F} (hd : d ≠ c) (hj : j < 4) (hq : q < 4) : ke_xr p q b c reg (d * 4 + j) = reg (d * 4 + j) := by
  unfold ke_xr
  split
  · exact sq_row_un hd hj hq
  · split
    · exact sq_row_un hd hj hq
    · split
      · exact sq_row_un hd hj hq
      · rfl
theorem sq_xp_le {i : sq_N} {c L p : Nat} {reg : ke_F} (h : sq_Ok i) (hp : p < L) : ke_xp i.1 i.2.1 i.2.2 c L p reg ≤ L := by
  rw [← sq_xp_eq h]
  exact (sq_p_ge h _ hp).2
/-- a speculating core on its registers -/
theorem sq_spec_x {P : Nat → Nat → sq_N} {Ls : Nat → Nat} {Q : ke_F} {O : Int32} {mem st pc reg fp hb bv : ke_F} {c p : Nat} (h : sq_G P Ls Q O mem st pc reg fp hb bv) (hc : c < 4) (hs : st c = 2) (hp : pc c = nI p) (hpL : p < Ls c) (hL : Ls c ≤ 16) (hi : sq_Ok (P c p)) (hn : ¬ ((P c p).1 = 1 ∨ (P c p).1 = 2 ∨ (P c p).1 = 5 ∨ (P c p).1 = 6)) : sq_G P Ls Q O mem st (upd pc c (nI (ke_xp (P c p).1 (P c p).2.1 (P c p).2.2 c (Ls c) p reg))) (ke_xr (P c p).1 (P c p).2.1 (P c p).2.2 c reg) fp hb bv := by
  obtain ⟨a1, a2, a3, a4, a5, a6⟩ := sq_st2 h hc hs hp (by omega)
  have hle := sq_xp_le (c := c) (reg := reg) hi hpL
  refine sq_G_one h hc (fun d hd e => ⟨rfl, pk_un e, fun j hj => sq_xr_row e hj hi.2.1, fun _ _ => rfl, fun _ _ => ⟨rfl, rfl⟩⟩) (fun _ _ _ _ => ⟨rfl, fun _ _ _ => rfl⟩) (fun _ _ _ _ => ⟨rfl, rfl, rfl⟩) ?_ ?_ (Or.inl ⟨a1, a2⟩)
  · exact ⟨2, _, by omega, by omega, hs, pk_us, fun _ => ⟨hle, a1, sq_J_x a4 hpL hi hn, a5⟩, fun e => by omega⟩
  · intro _ d hd e ed l hl
    exact ⟨fun w => h.2.1 c d hc hd (fun z => e z.symm) hs ed l hl w, fun w => h.2.1 d c hd hc e ed hs l hl w⟩
theorem sq_or1 {x : Int32} {n : Nat} (hn : n ≤ 3) (hx : x = nI n) : (¬ x ||| 1 = 0) ∧ (sq_W (x ||| 1) ↔ sq_W x) := by
  have : n = 0 ∨ n = 1 ∨ n = 2 ∨ n = 3 := by omega
  rcases this with e | e | e | e <;> subst e <;> subst hx <;> unfold sq_W <;> decide
theorem sq_or2 {x : Int32} {n : Nat} (hn : n ≤ 3) (hx : x = nI n) : (¬ x ||| 2 = 0) ∧ sq_W (x ||| 2) := by
  have : n = 0 ∨ n = 1 ∨ n = 2 ∨ n = 3 := by omega
  rcases this with e | e | e | e <;> subst e <;> subst hx <;> unfold sq_W <;> decide
theorem sq_and2 {x : Int32} {n : Nat} (hn : n ≤ 3) (hx : x = nI n) : x &&& 2 = 0 ↔ ¬ sq_W x := by
  have : n = 0 ∨ n = 1 ∨ n = 2 ∨ n = 3 := by omega
  rcases this with e | e | e | e <;> subst e <;> subst hx <;> unfold sq_W <;> decide
theorem sq_and3 {x : Int32} {n : Nat} (hn : n ≤ 3) (hx : x = nI n) : x &&& 3 = 0 ↔ x = 0 := by
  have : n = 0 ∨ n = 1 ∨ n = 2 ∨ n = 3 := by omega
  rcases this with e | e | e | e <;> subst e <;> subst hx <;> decide
/-- a speculating core loads: the others that wrote the line are off already -/
theorem sq_spec_ld {P : Nat → Nat → sq_N} {Ls : Nat → Nat} {Q : ke_F} {O : Int32} {mem st pc reg fp hb bv : ke_F} {c p m : Nat} (h : sq_G P Ls Q O mem st pc reg fp hb bv) (hN : ke_N 3 fp) (hc : c < 4) (hs : st c = 2) (hp : pc c = nI p) (hpL : p < Ls c) (hL : Ls c ≤ 16) (hi : sq_Ok (P c p)) (hn : (P c p).1 = 1 ∨ (P c p).1 = 5) (hm : m = ke_ad (P c p).1 (P c p).2.2 c reg) (hit : ∀ d, d < 4 → d ≠ c → st d = 2 → fp (d * 17 + m / 4) &&& 2 = 0) : sq_G P Ls Q O mem st (upd pc c (nI (p + 1))) (upd reg (c * 4 + (P c p).2.1) (if hb (c * 64 + m) = 0 then mem m else bv (c * 64 + m))) (upd fp (c * 17 + m / 4) (fp (c * 17 + m / 4) ||| 1)) hb bv := by
  obtain ⟨a1, a2, a3, a4, a5, a6⟩ := sq_st2 h hc hs hp (by omega)
  have hm64 : m < 64 := by rw [hm]; exact sq_ad_lt hi (by omega)
  obtain ⟨n, hn3, en⟩ := hN (c * 17 + m / 4)
  have ho := sq_or1 hn3 en
  have hfp : ∀ l, l < 16 → ¬ fp (c * 17 + l) = 0 → ¬ upd fp (c * 17 + m / 4) (fp (c * 17 + m / 4) ||| 1) (c * 17 + l) = 0 := by
    intro l hl z
    by_cases e : l = m / 4
    · subst e; rw [pk_us]; exact ho.1
    · rw [pk_un (by omega)]; exact z
  have hw : ∀ l, l < 16 → (sq_W (upd fp (c * 17 + m / 4) (fp (c * 17 + m / 4) ||| 1) (c * 17 + l)) ↔ sq_W (fp (c * 17 + l))) := by
    intro l hl
    by_cases e : l = m / 4
    · subst e; rw [pk_us]; exact ho.2
    · rw [pk_un (by omega)]
  refine sq_G_one h hc (fun d hd e => ⟨rfl, pk_un e, fun j hj => sq_row_un e hj hi.2.1, fun l hl => sq_row_un e (by omega) (by omega), fun _ _ => ⟨rfl, rfl⟩⟩) (fun _ _ _ _ => ⟨rfl, fun _ _ _ => rfl⟩) (fun _ _ _ _ => ⟨rfl, rfl, rfl⟩) ?_ ?_ (Or.inl ⟨a1, a2⟩)
  · refine ⟨2, p + 1, by omega, by omega, hs, pk_us, fun _ => ⟨by omega, a1, sq_J_ld a4 hpL hi hn hm hfp (by rw [pk_us]; exact ho.1), fun j hj z => ?_⟩, fun e => by omega⟩
    exact (hw _ (by omega)).mpr (a5 j hj z)
  · intro _ d hd e ed l hl
    refine ⟨fun w => h.2.1 c d hc hd (fun z => e z.symm) hs ed l hl ((hw l hl).mp w), fun w => ?_⟩
    by_cases el : l = m / 4
    · subst el
      obtain ⟨n', hn', en'⟩ := hN (d * 17 + m / 4)
      exact absurd w ((sq_and2 hn' en').mp (hit d hd e ed))
    · rw [pk_un (by omega)]
      exact h.2.1 d c hd hc e ed hs l hl w
/-- a speculating core stores: the others that touched the line are off already -/
theorem sq_spec_sr {P : Nat → Nat → sq_N} {Ls : Nat → Nat} {Q : ke_F} {O : Int32} {mem st pc reg fp hb bv : ke_F} {c p m : Nat} (h : sq_G P Ls Q O mem st pc reg fp hb bv) (hN : ke_N 3 fp) (hc : c < 4) (hs : st c = 2) (hp : pc c = nI p) (hpL : p < Ls c) (hL : Ls c ≤ 16) (hi : sq_Ok (P c p)) (hn : (P c p).1 = 2 ∨ (P c p).1 = 6) (hm : m = ke_ad (P c p).1 (P c p).2.2 c reg) (hit : ∀ d, d < 4 → d ≠ c → st d = 2 → fp (d * 17 + m / 4) &&& 3 = 0) : sq_G P Ls Q O mem st (upd pc c (nI (p + 1))) reg (upd fp (c * 17 + m / 4) (fp (c * 17 + m / 4) ||| 2)) (upd hb (c * 64 + m) 1) (upd bv (c * 64 + m) (reg (c * 4 + (P c p).2.1))) := by
  obtain ⟨a1, a2, a3, a4, a5, a6⟩ := sq_st2 h hc hs hp (by omega)
  have hm64 : m < 64 := by rw [hm]; exact sq_ad_lt hi (by omega)
  obtain ⟨n, hn3, en⟩ := hN (c * 17 + m / 4)
  have ho := sq_or2 hn3 en
  have hfp : ∀ l, l < 16 → ¬ fp (c * 17 + l) = 0 → ¬ upd fp (c * 17 + m / 4) (fp (c * 17 + m / 4) ||| 2) (c * 17 + l) = 0 := by
    intro l hl z
    by_cases e : l = m / 4
    · subst e; rw [pk_us]; exact ho.1
    · rw [pk_un (by omega)]; exact z
  refine sq_G_one h hc (fun d hd e => ⟨rfl, pk_un e, fun j hj => rfl, fun l hl => sq_row_un e (by omega) (by omega), fun j hj => ⟨sq_row_un e hj hm64, sq_row_un e hj hm64⟩⟩) (fun _ _ _ _ => ⟨rfl, fun _ _ _ => rfl⟩) (fun _ _ _ _ => ⟨rfl, rfl, rfl⟩) ?_ ?_ (Or.inl ⟨a1, a2⟩)
  · refine ⟨2, p + 1, by omega, by omega, hs, pk_us, fun _ => ⟨by omega, a1, sq_J_sr a4 hpL hi hn hm hfp, fun j hj z => ?_⟩, fun e => by omega⟩
    by_cases el : j / 4 = m / 4
    · rw [el, pk_us]; exact ho.2
    · rw [pk_un (by omega)]
      rw [pk_un (by omega)] at z
      exact a5 j hj z
  · intro _ d hd e ed l hl
    by_cases el : l = m / 4
    · subst el
      obtain ⟨n', hn', en'⟩ := hN (d * 17 + m / 4)
      have h0 := (sq_and3 hn' en').mp (hit d hd e ed)
      refine ⟨fun _ => h0, fun w => ?_⟩
      rw [h0] at w
      rcases w with w | w <;> exact absurd w (by decide)
    · rw [pk_un (by omega)]
      exact ⟨fun w => h.2.1 c d hc hd (fun z => e z.symm) hs ed l hl w, fun w => h.2.1 d c hd hc e ed hs l hl w⟩
/-- a commit: the replay from the reference's memory ends with the core's registers and the new memory -/
theorem sq_commit {P : Nat → Nat → sq_N} {Ls : Nat → Nat} {Q : ke_F} {O : Int32} {mem st pc reg fp hb bv : ke_F} {c p : Nat} (h : sq_G P Ls Q O mem st pc reg fp hb bv) (hc : c < 4) (hs : st c = 2) (hp : pc c = nI p) (hp16 : p ≤ 16) (hpL : Ls c ≤ p) (hL : Ls c ≤ 16) (hP : ∀ i, i < Ls c → sq_Ok (P c i)) :
    sq_it (P c) (Ls c) (sq_z Q) 17 = (sq_row reg c, Ls c, ke_mrg mem hb bv (c * 64) 64) ∧ sq_G P Ls (ke_mrg mem hb bv (c * 64) 64) O (ke_mrg mem hb bv (c * 64) 64) (upd st c 0) pc reg (ke_fill fp (c * 17) 17) (ke_fill hb (c * 64) 64) bv := by
  obtain ⟨a1, a2, a3, a4, a5, a6⟩ := sq_st2 h hc hs hp hp16
  have ep : p = Ls c := by omega
  subst ep
  constructor
  · obtain ⟨g, hg⟩ := a4
    have e := hg Q (fun j _ _ => by rw [a2])
    rw [sq_it_end (g := g) hP (by rw [e]; exact Nat.le_refl _) (by omega), e, a2, sq_mrg_ov]
  · refine sq_G_one h hc (fun d hd e => ⟨pk_un e, rfl, fun j hj => rfl, fun l hl => sq_row_fill e (by omega) (Nat.le_refl 17), fun j hj => ⟨sq_row_fill e hj (Nat.le_refl 64), rfl⟩⟩) (fun d hd e ed => ⟨rfl, fun j hj z => ?_⟩) (fun d hd e ed => absurd ed (a6 d hd)) ?_ ?_ (Or.inl ⟨a1, rfl⟩)
    · rw [sq_mrg_ov]
      unfold sq_ov
      rw [if_neg]
      intro x
      exact z (h.2.1 c d hc hd (fun z => e z.symm) hs ed _ (by omega) (a5 j hj x.2))
    · exact sq_C_off (q := 0) pk_us (by omega) hp hp16
    · intro e; rw [pk_us] at e; exact absurd e (by decide)
/-- the lock's holder -/
theorem sq_lock_x {P : Nat → Nat → sq_N} {Ls : Nat → Nat} {Q : ke_F} {O : Int32} {mem st pc reg fp hb bv : ke_F} {c p : Nat} (h : sq_G P Ls Q O mem st pc reg fp hb bv) (hc : c < 4) (hs : st c = 4) (hp : pc c = nI p) (hpL : p < Ls c) (hL : Ls c ≤ 16) (hi : sq_Ok (P c p)) (hn : ¬ ((P c p).1 = 1 ∨ (P c p).1 = 2 ∨ (P c p).1 = 5 ∨ (P c p).1 = 6)) : sq_G P Ls Q O mem st (upd pc c (nI (ke_xp (P c p).1 (P c p).2.1 (P c p).2.2 c (Ls c) p reg))) (ke_xr (P c p).1 (P c p).2.1 (P c p).2.2 c reg) fp hb bv := by
  obtain ⟨a1, a2, a3, a4⟩ := sq_st4 h hc hs hp (by omega)
  have hle := sq_xp_le (c := c) (reg := reg) hi hpL
  refine sq_G_one h hc (fun d hd e => ⟨rfl, pk_un e, fun j hj => sq_xr_row e hj hi.2.1, fun _ _ => rfl, fun _ _ => ⟨rfl, rfl⟩⟩) (fun _ _ _ _ => ⟨rfl, fun _ _ _ => rfl⟩) (fun _ _ _ _ => ⟨rfl, rfl, rfl⟩) ?_ ?_ (Or.inr ⟨c, hc, a1, hs⟩)
  · exact ⟨4, _, by omega, by omega, hs, pk_us, fun e => by omega, fun _ => ⟨hle, a1, sq_K_x a3 hpL hi hn⟩⟩
  · intro e; rw [hs] at e; exact absurd e (by decide)
theorem sq_lock_ld {P : Nat → Nat → sq_N} {Ls : Nat → Nat} {Q : ke_F} {O : Int32} {mem st pc reg fp hb bv : ke_F} {c p : Nat} (h : sq_G P Ls Q O mem st pc reg fp hb bv) (hc : c < 4) (hs : st c = 4) (hp : pc c = nI p) (hpL : p < Ls c) (hL : Ls c ≤ 16) (hi : sq_Ok (P c p)) (hn : (P c p).1 = 1 ∨ (P c p).1 = 5) : sq_G P Ls Q O mem st (upd pc c (nI (p + 1))) (upd reg (c * 4 + (P c p).2.1) (mem (ke_ad (P c p).1 (P c p).2.2 c reg))) fp hb bv := by
  obtain ⟨a1, a2, a3, a4⟩ := sq_st4 h hc hs hp (by omega)
  refine sq_G_one h hc (fun d hd e => ⟨rfl, pk_un e, fun j hj => sq_row_un e hj hi.2.1, fun _ _ => rfl, fun _ _ => ⟨rfl, rfl⟩⟩) (fun _ _ _ _ => ⟨rfl, fun _ _ _ => rfl⟩) (fun _ _ _ _ => ⟨rfl, rfl, rfl⟩) ?_ ?_ (Or.inr ⟨c, hc, a1, hs⟩)
  · exact ⟨4, p + 1, by omega, by omega, hs, pk_us, fun e => by omega, fun _ => ⟨by omega, a1, sq_K_ld a3 hpL hi hn⟩⟩
  · intro e; rw [hs] at e; exact absurd e (by decide)
theorem sq_lock_sr {P : Nat → Nat → sq_N} {Ls : Nat → Nat} {Q : ke_F} {O : Int32} {mem st pc reg fp hb bv : ke_F} {c p : Nat} (h : sq_G P Ls Q O mem st pc reg fp hb bv) (hc : c < 4) (hs : st c = 4) (hp : pc c = nI p) (hpL : p < Ls c) (hL : Ls c ≤ 16) (hi : sq_Ok (P c p)) (hn : (P c p).1 = 2 ∨ (P c p).1 = 6) : sq_G P Ls Q O (upd mem (ke_ad (P c p).1 (P c p).2.2 c reg) (reg (c * 4 + (P c p).2.1))) st (upd pc c (nI (p + 1))) reg fp hb bv := by
  obtain ⟨a1, a2, a3, a4⟩ := sq_st4 h hc hs hp (by omega)
  refine sq_G_one h hc (fun d hd e => ⟨rfl, pk_un e, fun j hj => rfl, fun _ _ => rfl, fun _ _ => ⟨rfl, rfl⟩⟩) (fun d hd e ed => absurd ed (a4 d hd).1) (fun d hd e ed => absurd ((a4 d hd).2 ed) e) ?_ ?_ (Or.inr ⟨c, hc, a1, hs⟩)
  · exact ⟨4, p + 1, by omega, by omega, hs, pk_us, fun e => by omega, fun _ => ⟨by omega, a1, sq_K_sr a3 hpL hi hn⟩⟩
  · intro e; rw [hs] at e; exact absurd e (by decide)
theorem sq_release {P : Nat → Nat → sq_N} {Ls : Nat → Nat} {Q : ke_F} {O : Int32} {mem st pc reg fp hb bv : ke_F} {c p : Nat} (h : sq_G P Ls Q O mem st pc reg fp hb bv) (hc : c < 4) (hs : st c = 4) (hp : pc c = nI p) (hp16 : p ≤ 16) (hpL : Ls c ≤ p) (hL : Ls c ≤ 16) (hP : ∀ i, i < Ls c → sq_Ok (P c i)) :
    sq_it (P c) (Ls c) (sq_z Q) 17 = (sq_row reg c, Ls c, mem) ∧ sq_G P Ls mem (-1) mem (upd st c 0) pc reg fp hb bv := by
  obtain ⟨a1, a2, a3, a4⟩ := sq_st4 h hc hs hp hp16
  have ep : p = Ls c := by omega
  subst ep
  constructor
  · obtain ⟨g, e⟩ := a3
    rw [sq_it_end (g := g) hP (by rw [e]; exact Nat.le_refl _) (by omega), e]
  · refine sq_G_one h hc (fun d hd e => ⟨pk_un e, rfl, fun j hj => rfl, fun l hl => rfl, fun j hj => ⟨rfl, rfl⟩⟩) (fun d hd e ed => absurd ed (a4 d hd).1) (fun d hd e ed => absurd ((a4 d hd).2 ed) e) ?_ ?_ (Or.inl ⟨rfl, rfl⟩)
    · exact sq_C_off (q := 0) pk_us (by omega) hp hp16
    · intro e; rw [pk_us] at e; exact absurd e (by decide)
theorem sq_poke {P : Nat → Nat → sq_N} {Ls : Nat → Nat} {Q : ke_F} {O : Int32} {mem st pc reg fp hb bv : ke_F} (h : sq_G P Ls Q O mem st pc reg fp hb bv) (hs : ∀ d, d < 4 → ¬ st d = 2 ∧ ¬ st d = 4) (a : Nat) (v : Int32) : sq_G P Ls (upd Q a v) O (upd mem a v) st pc reg fp hb bv := by
  obtain ⟨g1, g2, g3⟩ := h
  refine ⟨fun d hd => sq_C_frame (g1 d hd) rfl rfl (fun _ _ => rfl) (fun _ _ => rfl) (fun _ _ => ⟨rfl, rfl⟩) (fun e => absurd e (hs d hd).1) (fun e => absurd e (hs d hd).2), g2, ?_⟩
  rcases g3 with z | ⟨d, hd, e, e4⟩
  · exact Or.inl ⟨z.1, by rw [z.2]⟩
  · exact absurd e4 (hs d hd).2
