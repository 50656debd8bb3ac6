/-! the replay of one program: registers, pc, memory -/
abbrev sq_N : Type := Nat × Nat × Int32
abbrev sq_S : Type := ke_F × Nat × ke_F
def sq_row (a : ke_F) (c : Nat) : ke_F := fun j => if j < 4 then a (c * 4 + j) else 0
def sq_ov (M has buf : ke_F) (c : Nat) : ke_F := fun j => if j < 64 ∧ ¬ has (c * 64 + j) = 0 then buf (c * 64 + j) else M j
def sq_a (i : sq_N) (r : ke_F) : Nat := if i.1 = 5 ∨ i.1 = 6 then (r i.2.2.toNatClampNeg &&& 63).toNatClampNeg else i.2.2.toNatClampNeg
def sq_r (i : sq_N) (r M : ke_F) : ke_F :=
  if i.1 = 0 then upd r i.2.1 i.2.2
  else if i.1 = 1 ∨ i.1 = 5 then upd r i.2.1 (M (sq_a i r))
  else if i.1 = 3 then upd r i.2.1 (r i.2.1 + r i.2.2.toNatClampNeg)
  else if i.1 = 4 then upd r i.2.1 (r i.2.1 + i.2.2)
  else r
def sq_m (i : sq_N) (r M : ke_F) : ke_F := if i.1 = 2 ∨ i.1 = 6 then upd M (sq_a i r) (r i.2.1) else M
def sq_p (L : Nat) (i : sq_N) (r : ke_F) (p : Nat) : Nat :=
  if i.1 = 8 ∧ ¬ r i.2.1 = 0 then (if L < p + i.2.2.toNatClampNeg then L else p + i.2.2.toNatClampNeg) else p + 1
def sq_Ok (i : sq_N) : Prop := i.1 < 9 ∧ i.2.1 < 4 ∧ ((i.1 = 1 ∨ i.1 = 2) → ∃ m, m < 64 ∧ i.2.2 = nI m) ∧ ((i.1 = 3 ∨ i.1 = 5 ∨ i.1 = 6) → ∃ m, m < 4 ∧ i.2.2 = nI m) ∧ (i.1 = 8 → ∃ m, 1 ≤ m ∧ m ≤ 16 ∧ i.2.2 = nI m)
def sq_st (P : Nat → sq_N) (L : Nat) (s : sq_S) : sq_S :=
  if s.2.1 < L then (sq_r (P s.2.1) s.1 s.2.2, sq_p L (P s.2.1) s.1 s.2.1, sq_m (P s.2.1) s.1 s.2.2) else s
def sq_it (P : Nat → sq_N) (L : Nat) (s : sq_S) : Nat → sq_S
  | 0 => s
  | n + 1 => sq_st P L (sq_it P L s n)
def sq_z (M : ke_F) : sq_S := (fun _ => 0, 0, M)
theorem sq_it_fix {P : Nat → sq_N} {L : Nat} {s : sq_S} {n : Nat} (h : L ≤ (sq_it P L s n).2.1) : ∀ k, sq_it P L s (n + k) = sq_it P L s n := by
  intro k
  induction k with
  | zero => rfl
  | succ k ih =>
    show sq_st P L (sq_it P L s (n + k)) = _
    rw [ih]
    unfold sq_st
    rw [if_neg (by omega)]
theorem sq_p_ge {L : Nat} {i : sq_N} (h : sq_Ok i) (r : ke_F) {p : Nat} (hp : p < L) : p + 1 ≤ sq_p L i r p ∧ sq_p L i r p ≤ L := by
  unfold sq_p
  split
  · rename_i z
    obtain ⟨m, h1, h2, e⟩ := h.2.2.2.2 z.1
    have e2 : i.2.2.toNatClampNeg = m := by rw [e, nI_clamp (by omega)]
    rw [e2]
    split <;> omega
  · omega
theorem sq_it_pc {P : Nat → sq_N} {L : Nat} (hP : ∀ i, i < L → sq_Ok (P i)) (M : ke_F) : ∀ n, (sq_it P L (sq_z M) n).2.1 ≤ L ∧ (n ≤ (sq_it P L (sq_z M) n).2.1 ∨ (sq_it P L (sq_z M) n).2.1 = L) := by
  intro n
  induction n with
  | zero => exact ⟨Nat.zero_le _, Or.inl (Nat.le_refl 0)⟩
  | succ n ih =>
    show (sq_st P L (sq_it P L (sq_z M) n)).2.1 ≤ L ∧ (n + 1 ≤ (sq_st P L (sq_it P L (sq_z M) n)).2.1 ∨ (sq_st P L (sq_it P L (sq_z M) n)).2.1 = L)
    generalize sq_it P L (sq_z M) n = s at ih ⊢
    unfold sq_st
    by_cases hp : s.2.1 < L
    · rw [if_pos hp]
      have := sq_p_ge (hP _ hp) s.1 hp
      dsimp only
      omega
    · rw [if_neg hp]; omega
theorem sq_it_end {P : Nat → sq_N} {L : Nat} (hP : ∀ i, i < L → sq_Ok (P i)) {M : ke_F} {g n : Nat} (hg : L ≤ (sq_it P L (sq_z M) g).2.1) (hn : L ≤ n) : sq_it P L (sq_z M) n = sq_it P L (sq_z M) g := by
  have h1 := sq_it_pc hP M n
  have h2 : L ≤ (sq_it P L (sq_z M) n).2.1 := by omega
  by_cases h : n ≤ g
  · obtain ⟨k, rfl⟩ : ∃ k, g = n + k := ⟨g - n, by omega⟩
    exact (sq_it_fix h2 k).symm
  · obtain ⟨k, rfl⟩ : ∃ k, n = g + k := ⟨n - g, by omega⟩
    exact sq_it_fix hg k
theorem sq_row_at {reg : ke_F} {c q : Nat} (hq : q < 4) : sq_row reg c q = reg (c * 4 + q) := if_pos hq
theorem sq_row_upd {reg : ke_F} {c q : Nat} {v : Int32} (hq : q < 4) : sq_row (upd reg (c * 4 + q) v) c = upd (sq_row reg c) q v := by
  funext j
  by_cases e : j = q
  · subst e; rw [pk_us, sq_row_at hq, pk_us]
  · rw [pk_un e]
    unfold sq_row
    rw [pk_un (by omega)]
theorem sq_row_eq {r r' : ke_F} {c : Nat} (h : ∀ j, j < 4 → r' (c * 4 + j) = r (c * 4 + j)) : sq_row r' c = sq_row r c := by
  funext j
  unfold sq_row
  by_cases e : j < 4
  · rw [if_pos e, if_pos e, h j e]
  · rw [if_neg e, if_neg e]
theorem sq_ov_eq {M h b h' b' : ke_F} {c : Nat} (e : ∀ j, j < 64 → h' (c * 64 + j) = h (c * 64 + j) ∧ b' (c * 64 + j) = b (c * 64 + j)) : sq_ov M h' b' c = sq_ov M h b c := by
  funext j
  unfold sq_ov
  by_cases z : j < 64
  · rw [(e j z).1, (e j z).2]
  · rw [if_neg (fun x => z x.1), if_neg (fun x => z x.1)]
theorem sq_ad_eq {i : sq_N} {c : Nat} {reg : ke_F} (h : sq_Ok i) : sq_a i (sq_row reg c) = ke_ad i.1 i.2.2 c reg := by
  unfold sq_a ke_ad
  split
  · rename_i z
    obtain ⟨m, hm, e⟩ := h.2.2.2.1 (by omega)
    have e2 : i.2.2.toNatClampNeg = m := by rw [e, nI_clamp (by omega)]
    rw [e2, sq_row_at hm]
  · rfl
theorem sq_ad_lt {i : sq_N} {c : Nat} {reg : ke_F} (h : sq_Ok i) (hp : i.1 = 1 ∨ i.1 = 2 ∨ i.1 = 5 ∨ i.1 = 6) : ke_ad i.1 i.2.2 c reg < 64 := by
  unfold ke_ad
  split
  · obtain ⟨m, hm, e⟩ := ke_and63 (reg (c * 4 + i.2.2.toNatClampNeg))
    rw [e, nI_clamp (by omega)]; exact hm
  · rename_i z
    obtain ⟨m, hm, e⟩ := h.2.2.1 (by omega)
    rw [e, nI_clamp (by omega)]; exact hm
theorem sq_xr_eq {i : sq_N} {c : Nat} {reg M : ke_F} (h : sq_Ok i) (hn : ¬ (i.1 = 1 ∨ i.1 = 5)) : sq_r i (sq_row reg c) M = sq_row (ke_xr i.1 i.2.1 i.2.2 c reg) c := by
  unfold sq_r ke_xr
  have hq := h.2.1
  by_cases h0 : i.1 = 0
  · rw [if_pos h0, if_pos h0, sq_row_upd hq]
  · rw [if_neg h0, if_neg h0, if_neg hn]
    by_cases h3 : i.1 = 3
    · obtain ⟨m, hm, e⟩ := h.2.2.2.1 (by omega)
      have e2 : i.2.2.toNatClampNeg = m := by rw [e, nI_clamp (by omega)]
      rw [if_pos h3, if_pos h3, sq_row_upd hq, sq_row_at hq, e2, sq_row_at hm]
    · rw [if_neg h3, if_neg h3]
      by_cases h4 : i.1 = 4
      · rw [if_pos h4, if_pos h4, sq_row_upd hq, sq_row_at hq]
      · rw [if_neg h4, if_neg h4]
theorem sq_xp_eq {i : sq_N} {c L p : Nat} {reg : ke_F} (h : sq_Ok i) : sq_p L i (sq_row reg c) p = ke_xp i.1 i.2.1 i.2.2 c L p reg := by
  unfold sq_p ke_xp
  rw [sq_row_at h.2.1]
theorem sq_p_1 {L : Nat} {i : sq_N} {r : ke_F} {p : Nat} (h : ¬ i.1 = 8) : sq_p L i r p = p + 1 := by
  unfold sq_p
  rw [if_neg (fun z => h z.1)]
/-! a speculating core: its run so far, from every memory that agrees with the present one on its lines -/
def sq_J (P : Nat → sq_N) (L : Nat) (mem reg fp has buf : ke_F) (c p : Nat) : Prop := ∃ g, ∀ M : ke_F, (∀ j, j < 64 → ¬ fp (c * 17 + j / 4) = 0 → M j = mem j) → sq_it P L (sq_z M) g = (sq_row reg c, p, sq_ov M has buf c)
theorem sq_J_0 {P : Nat → sq_N} {L : Nat} {mem reg fp has buf : ke_F} {c : Nat} (hr : ∀ j, j < 4 → reg (c * 4 + j) = 0) (hh : ∀ j, j < 64 → has (c * 64 + j) = 0) : sq_J P L mem reg fp has buf c 0 := by
  refine ⟨0, fun M _ => ?_⟩
  have e1 : sq_row reg c = fun _ => 0 := by
    funext j
    unfold sq_row
    split
    · rename_i z; exact hr j z
    · rfl
  have e2 : sq_ov M has buf c = M := by
    funext j
    unfold sq_ov
    rw [if_neg (fun z => z.2 (hh j z.1))]
  rw [e1, e2]; rfl
theorem sq_J_frame {P : Nat → sq_N} {L : Nat} {mem reg fp has buf mem' reg' fp' has' buf' : ke_F} {c p : Nat} (hr : ∀ j, j < 4 → reg' (c * 4 + j) = reg (c * 4 + j)) (hf : ∀ l, l < 16 → ¬ fp (c * 17 + l) = 0 → ¬ fp' (c * 17 + l) = 0) (hb : ∀ j, j < 64 → has' (c * 64 + j) = has (c * 64 + j) ∧ buf' (c * 64 + j) = buf (c * 64 + j)) (hm : ∀ j, j < 64 → ¬ fp (c * 17 + j / 4) = 0 → mem' j = mem j) (h : sq_J P L mem reg fp has buf c p) : sq_J P L mem' reg' fp' has' buf' c p := by
  obtain ⟨g, hg⟩ := h
  refine ⟨g, fun M hM => ?_⟩
  rw [sq_row_eq hr, sq_ov_eq hb]
  exact hg M (fun j hj z => (hM j hj (hf _ (by omega) z)).trans (hm j hj z))
theorem sq_J_x {P : Nat → sq_N} {L : Nat} {mem reg fp has buf : ke_F} {c p : Nat} (h : sq_J P L mem reg fp has buf c p) (hp : p < L) (hi : sq_Ok (P p)) (hn : ¬ ((P p).1 = 1 ∨ (P p).1 = 2 ∨ (P p).1 = 5 ∨ (P p).1 = 6)) : sq_J P L mem (ke_xr (P p).1 (P p).2.1 (P p).2.2 c reg) fp has buf c (ke_xp (P p).1 (P p).2.1 (P p).2.2 c L p reg) := by
  obtain ⟨g, hg⟩ := h
  refine ⟨g + 1, fun M hM => ?_⟩
  show sq_st P L (sq_it P L (sq_z M) g) = _
  rw [hg M hM]
  unfold sq_st
  dsimp only
  rw [if_pos hp, sq_xr_eq hi (by omega), sq_xp_eq hi]
  unfold sq_m
  rw [if_neg (by omega)]
theorem sq_J_ld {P : Nat → sq_N} {L : Nat} {mem reg fp fp' has buf : ke_F} {c p m : Nat} (h : sq_J P L mem reg fp has buf c p) (hp : p < L) (hi : sq_Ok (P p)) (hn : (P p).1 = 1 ∨ (P p).1 = 5) (hm : m = ke_ad (P p).1 (P p).2.2 c reg) (hf : ∀ l, l < 16 → ¬ fp (c * 17 + l) = 0 → ¬ fp' (c * 17 + l) = 0) (hl : ¬ fp' (c * 17 + m / 4) = 0) : sq_J P L mem (upd reg (c * 4 + (P p).2.1) (if has (c * 64 + m) = 0 then mem m else buf (c * 64 + m))) fp' has buf c (p + 1) := by
  have hm64 : m < 64 := by rw [hm]; exact sq_ad_lt hi (by omega)
  obtain ⟨g, hg⟩ := h
  refine ⟨g + 1, fun M hM => ?_⟩
  show sq_st P L (sq_it P L (sq_z M) g) = _
  rw [hg M (fun j hj z => hM j hj (hf _ (by omega) z))]
  unfold sq_st
  dsimp only
  rw [if_pos hp, sq_p_1 (by omega)]
  have e1 : sq_m (P p) (sq_row reg c) (sq_ov M has buf c) = sq_ov M has buf c := by
    unfold sq_m; rw [if_neg (by omega)]
  have e2 : sq_r (P p) (sq_row reg c) (sq_ov M has buf c) = sq_row (upd reg (c * 4 + (P p).2.1) (if has (c * 64 + m) = 0 then mem m else buf (c * 64 + m))) c := by
    unfold sq_r
    rw [if_neg (by omega), if_pos hn, sq_row_upd hi.2.1, sq_ad_eq hi, ← hm]
    congr 1
    unfold sq_ov
    by_cases z : has (c * 64 + m) = 0
    · rw [if_pos z, if_neg (fun x => x.2 z)]; exact hM m hm64 hl
    · rw [if_neg z, if_pos ⟨hm64, z⟩]
  rw [e1, e2]
theorem sq_ov_upd {M has buf : ke_F} {c m : Nat} {v w : Int32} (hm : m < 64) (hw : ¬ w = 0) : sq_ov M (upd has (c * 64 + m) w) (upd buf (c * 64 + m) v) c = upd (sq_ov M has buf c) m v := by
  funext j
  unfold sq_ov
  by_cases e : j = m
  · subst e; rw [pk_us, pk_us, pk_us, if_pos ⟨hm, hw⟩]
  · rw [pk_un e, pk_un (by omega), pk_un (by omega)]
theorem sq_J_sr {P : Nat → sq_N} {L : Nat} {mem reg fp fp' has buf : ke_F} {c p m : Nat} (h : sq_J P L mem reg fp has buf c p) (hp : p < L) (hi : sq_Ok (P p)) (hn : (P p).1 = 2 ∨ (P p).1 = 6) (hm : m = ke_ad (P p).1 (P p).2.2 c reg) (hf : ∀ l, l < 16 → ¬ fp (c * 17 + l) = 0 → ¬ fp' (c * 17 + l) = 0) : sq_J P L mem reg fp' (upd has (c * 64 + m) 1) (upd buf (c * 64 + m) (reg (c * 4 + (P p).2.1))) c (p + 1) := by
  have hm64 : m < 64 := by rw [hm]; exact sq_ad_lt hi (by omega)
  obtain ⟨g, hg⟩ := h
  refine ⟨g + 1, fun M hM => ?_⟩
  show sq_st P L (sq_it P L (sq_z M) g) = _
  rw [hg M (fun j hj z => hM j hj (hf _ (by omega) z))]
  unfold sq_st
  dsimp only
  rw [if_pos hp, sq_p_1 (by omega), sq_ov_upd hm64 (by decide)]
  have e1 : sq_m (P p) (sq_row reg c) (sq_ov M has buf c) = upd (sq_ov M has buf c) m (reg (c * 4 + (P p).2.1)) := by
    unfold sq_m; rw [if_pos hn, sq_ad_eq hi, ← hm, sq_row_at hi.2.1]
  have e2 : sq_r (P p) (sq_row reg c) (sq_ov M has buf c) = sq_row reg c := by
    unfold sq_r
    rw [if_neg (by omega), if_neg (by omega), if_neg (by omega), if_neg (by omega)]
  rw [e1, e2]
/-! the core that holds the lock: its run so far, from the reference's memory -/
def sq_K (P : Nat → sq_N) (L : Nat) (R mem reg : ke_F) (c p : Nat) : Prop := ∃ g, sq_it P L (sq_z R) g = (sq_row reg c, p, mem)
theorem sq_K_0 {P : Nat → sq_N} {L : Nat} {R reg : ke_F} {c : Nat} (hr : ∀ j, j < 4 → reg (c * 4 + j) = 0) : sq_K P L R R reg c 0 := by
  refine ⟨0, ?_⟩
  have e1 : sq_row reg c = fun _ => 0 := by
    funext j
    unfold sq_row
    split
    · rename_i z; exact hr j z
    · rfl
  rw [e1]; rfl
theorem sq_K_x {P : Nat → sq_N} {L : Nat} {R mem reg : ke_F} {c p : Nat} (h : sq_K P L R mem reg c p) (hp : p < L) (hi : sq_Ok (P p)) (hn : ¬ ((P p).1 = 1 ∨ (P p).1 = 2 ∨ (P p).1 = 5 ∨ (P p).1 = 6)) : sq_K P L R mem (ke_xr (P p).1 (P p).2.1 (P p).2.2 c reg) c (ke_xp (P p).1 (P p).2.1 (P p).2.2 c L p reg) := by
  obtain ⟨g, hg⟩ := h
  refine ⟨g + 1, ?_⟩
  show sq_st P L (sq_it P L (sq_z R) g) = _
  rw [hg]
  unfold sq_st
  dsimp only
  rw [if_pos hp, sq_xr_eq hi (by omega), sq_xp_eq hi]
  unfold sq_m
  rw [if_neg (by omega)]
theorem sq_K_ld {P : Nat → sq_N} {L : Nat} {R mem reg : ke_F} {c p : Nat} (h : sq_K P L R mem reg c p) (hp : p < L) (hi : sq_Ok (P p)) (hn : (P p).1 = 1 ∨ (P p).1 = 5) : sq_K P L R mem (upd reg (c * 4 + (P p).2.1) (mem (ke_ad (P p).1 (P p).2.2 c reg))) c (p + 1) := by
  obtain ⟨g, hg⟩ := h
  refine ⟨g + 1, ?_⟩
  show sq_st P L (sq_it P L (sq_z R) g) = _
  rw [hg]
  unfold sq_st
  dsimp only
  rw [if_pos hp, sq_p_1 (by omega)]
  have e1 : sq_m (P p) (sq_row reg c) mem = mem := by
    unfold sq_m; rw [if_neg (by omega)]
  have e2 : sq_r (P p) (sq_row reg c) mem = sq_row (upd reg (c * 4 + (P p).2.1) (mem (ke_ad (P p).1 (P p).2.2 c reg))) c := by
    unfold sq_r
    rw [if_neg (by omega), if_pos hn, sq_row_upd hi.2.1, sq_ad_eq hi]
  rw [e1, e2]
theorem sq_K_sr {P : Nat → sq_N} {L : Nat} {R mem reg : ke_F} {c p : Nat} (h : sq_K P L R mem reg c p) (hp : p < L) (hi : sq_Ok (P p)) (hn : (P p).1 = 2 ∨ (P p).1 = 6) : sq_K P L R (upd mem (ke_ad (P p).1 (P p).2.2 c reg) (reg (c * 4 + (P p).2.1))) reg c (p + 1) := by
  obtain ⟨g, hg⟩ := h
  refine ⟨g + 1, ?_⟩
  show sq_st P L (sq_it P L (sq_z R) g) = _
  rw [hg]
  unfold sq_st
  dsimp only
  rw [if_pos hp, sq_p_1 (by omega)]
  have e1 : sq_m (P p) (sq_row reg c) mem = upd mem (ke_ad (P p).1 (P p).2.2 c reg) (reg (c * 4 + (P p).2.1)) := by
    unfold sq_m; rw [if_pos hn, sq_ad_eq hi, sq_row_at hi.2.1]
  have e2 : sq_r (P p) (sq_row reg c) mem = sq_row reg c := by
    unfold sq_r
    rw [if_neg (by omega), if_neg (by omega), if_neg (by omega), if_neg (by omega)]
  rw [e1, e2]
/-! what a commit writes is the overlay -/
theorem sq_mrg_at (m has buf : ke_F) (b : Nat) : ∀ n j, ke_mrg m has buf b n j = if j < n ∧ ¬ has (b + j) = 0 then buf (b + j) else m j := by
  intro n
  induction n with
  | zero => intro j; rw [if_neg (fun z => absurd z.1 (Nat.not_lt_zero _))]; rfl
  | succ n ih =>
    intro j
    unfold ke_mrg
    by_cases z : has (b + n) = 0
    · rw [if_pos z, ih j]
      by_cases e : j = n
      · subst e; rw [if_neg (fun x => x.2 z), if_neg (fun x => x.2 z)]
      · have : (j < n + 1 ∧ ¬ has (b + j) = 0) ↔ (j < n ∧ ¬ has (b + j) = 0) := by
          constructor
          · intro h; exact ⟨by omega, h.2⟩
          · intro h; exact ⟨by omega, h.2⟩
        simp only [this]
    · rw [if_neg z]
      by_cases e : j = n
      · subst e; rw [pk_us, if_pos ⟨Nat.lt_succ_self _, z⟩]
      · rw [pk_un e, ih j]
        have : (j < n + 1 ∧ ¬ has (b + j) = 0) ↔ (j < n ∧ ¬ has (b + j) = 0) := by
          constructor
          · intro h; exact ⟨by omega, h.2⟩
          · intro h; exact ⟨by omega, h.2⟩
        simp only [this]
theorem sq_mrg_ov (m has buf : ke_F) (c : Nat) : ke_mrg m has buf (c * 64) 64 = sq_ov m has buf c := by
  funext j
  exact sq_mrg_at m has buf (c * 64) 64 j
