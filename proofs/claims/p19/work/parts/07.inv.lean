/-! rows of one core -/
theorem sq_fill_in (a : ke_F) (b : Nat) : ∀ n j, b ≤ j → j < b + n → ke_fill a b n j = 0 := by
  intro n
  induction n with
  | zero => intro j h1 h2; omega
  | succ n ih =>
    intro j h1 h2
    by_cases e : j = b + n
    · subst e; exact pk_us
    · have e1 : ke_fill a b (n + 1) j = ke_fill a b n j := pk_un e
      rw [e1]; exact ih j h1 (by omega)
theorem sq_fill_out (a : ke_F) (b : Nat) : ∀ n j, (j < b ∨ b + n ≤ j) → ke_fill a b n j = a j := by
  intro n
  induction n with
  | zero => intro j _; rfl
  | succ n ih =>
    intro j h
    have e1 : ke_fill a b (n + 1) j = ke_fill a b n j := pk_un (by omega)
    rw [e1]; exact ih j (by omega)
def sq_Row (t t' : ke_T) (d : Nat) : Prop := t'.1 d = t.1 d ∧ t'.2.1 d = t.2.1 d ∧ (∀ j, j < 4 → t'.2.2.1 (d * 4 + j) = t.2.2.1 (d * 4 + j)) ∧ (∀ l, l < 17 → t'.2.2.2.1 (d * 17 + l) = t.2.2.2.1 (d * 17 + l)) ∧ (∀ j, j < 64 → t'.2.2.2.2.1 (d * 64 + j) = t.2.2.2.2.1 (d * 64 + j))
def sq_Off (t' : ke_T) (d : Nat) : Prop := (t'.1 d = nI 1 ∨ t'.1 d = nI 3) ∧ t'.2.1 d = 0
theorem sq_Row_rf (t : ke_T) (d : Nat) : sq_Row t t d := ⟨rfl, rfl, fun _ _ => rfl, fun _ _ => rfl, fun _ _ => rfl⟩
theorem sq_Row_tr {t t' t'' : ke_T} {d : Nat} (h : sq_Row t t' d) (h' : sq_Row t' t'' d) : sq_Row t t'' d :=
  ⟨h'.1.trans h.1, h'.2.1.trans h.2.1, fun j hj => (h'.2.2.1 j hj).trans (h.2.2.1 j hj), fun j hj => (h'.2.2.2.1 j hj).trans (h.2.2.2.1 j hj), fun j hj => (h'.2.2.2.2 j hj).trans (h.2.2.2.2 j hj)⟩
theorem sq_ab_row (R : Int32) (c : Nat) (ca co : Int32) (t : ke_T) {d : Nat} (h : d ≠ c) : sq_Row t (ke_ab R c ca co t) d := by
  refine ⟨pk_un h, pk_un h, fun j hj => sq_fill_out _ _ _ _ (by omega), fun j hj => sq_fill_out _ _ _ _ (by omega), fun j hj => sq_fill_out _ _ _ _ (by omega)⟩
theorem sq_ab_off (R : Int32) (c : Nat) (ca co : Int32) (t : ke_T) : sq_Off (ke_ab R c ca co t) c := by
  refine ⟨?_, pk_us⟩
  show upd t.1 c _ c = nI 1 ∨ upd t.1 c _ c = nI 3
  rw [pk_us]
  unfold ke_as
  split
  · exact Or.inr rfl
  · exact Or.inl rfl
theorem sq_Off_row {t t' : ke_T} {d : Nat} (h : sq_Off t d) (h' : sq_Row t t' d) : sq_Off t' d := by
  refine ⟨?_, h'.2.1.trans h.2⟩
  rw [h'.1]; exact h.1
def sq_Hit (l : Nat) (f : Int32) (c : Nat) (t : ke_T) (d : Nat) : Prop := ¬ d = c ∧ t.1 d = 2 ∧ ¬ t.2.2.2.1 (d * 17 + l) &&& f = 0
theorem sq_con (R : Int32) {l : Nat} (hl : l < 17) (f : Int32) (c : Nat) (t : ke_T) : ∀ n d, (¬ (d < n ∧ sq_Hit l f c t d) → sq_Row t (ke_con R l f c t n) d) ∧ ((d < n ∧ sq_Hit l f c t d) → sq_Off (ke_con R l f c t n) d) := by
  intro n
  induction n with
  | zero => intro d; exact ⟨fun _ => sq_Row_rf t d, fun h => absurd h.1 (Nat.not_lt_zero _)⟩
  | succ n ih =>
    intro d
    have hr := (ih n).1 (fun h => absurd h.1 (Nat.lt_irrefl n))
    have hc : (¬ n = c ∧ (ke_con R l f c t n).1 n = 2 ∧ ¬ (ke_con R l f c t n).2.2.2.1 (n * 17 + l) &&& f = 0) ↔ sq_Hit l f c t n := by
      unfold sq_Hit
      rw [hr.1, hr.2.2.2.1 l hl]
    unfold ke_con
    by_cases z : sq_Hit l f c t n
    · rw [if_pos (hc.mpr z)]
      by_cases e : d = n
      · subst e
        exact ⟨fun h => absurd ⟨Nat.lt_succ_self _, z⟩ h, fun _ => sq_ab_off _ _ _ _ _⟩
      · have hrow := sq_ab_row R n 1 0 (ke_con R l f c t n) e
        refine ⟨fun h => sq_Row_tr ((ih d).1 (fun x => h ⟨by omega, x.2⟩)) hrow, fun h => sq_Off_row ((ih d).2 ⟨by omega, h.2⟩) hrow⟩
    · rw [if_neg (fun x => z (hc.mp x))]
      by_cases e : d = n
      · subst e
        exact ⟨fun _ => hr, fun h => absurd h.2 z⟩
      · exact ⟨fun h => (ih d).1 (fun x => h ⟨by omega, x.2⟩), fun h => (ih d).2 ⟨by omega, h.2⟩⟩
theorem sq_acq (R : Int32) (t : ke_T) : ∀ n d, (¬ (d < n ∧ t.1 d = 2) → sq_Row t (ke_acq R t n) d) ∧ ((d < n ∧ t.1 d = 2) → sq_Off (ke_acq R t n) d) := by
  intro n
  induction n with
  | zero => intro d; exact ⟨fun _ => sq_Row_rf t d, fun h => absurd h.1 (Nat.not_lt_zero _)⟩
  | succ n ih =>
    intro d
    have hr := (ih n).1 (fun h => absurd h.1 (Nat.lt_irrefl n))
    have hc : (ke_acq R t n).1 n = 2 ↔ t.1 n = 2 := by rw [hr.1]
    unfold ke_acq
    by_cases z : t.1 n = 2
    · rw [if_pos (hc.mpr z)]
      by_cases e : d = n
      · subst e
        exact ⟨fun h => absurd ⟨Nat.lt_succ_self _, z⟩ h, fun _ => sq_ab_off _ _ _ _ _⟩
      · have hrow := sq_ab_row R n 4 0 (ke_acq R t n) e
        refine ⟨fun h => sq_Row_tr ((ih d).1 (fun x => h ⟨by omega, x.2⟩)) hrow, fun h => sq_Off_row ((ih d).2 ⟨by omega, h.2⟩) hrow⟩
    · rw [if_neg (fun x => z (hc.mp x))]
      by_cases e : d = n
      · subst e
        exact ⟨fun _ => hr, fun h => absurd h.2 z⟩
      · exact ⟨fun h => (ih d).1 (fun x => h ⟨by omega, x.2⟩), fun h => (ih d).2 ⟨by omega, h.2⟩⟩
/-! the invariant: of one core, of all -/
def sq_W (x : Int32) : Prop := x = 2 ∨ x = 3
def sq_C (P : Nat → Nat → sq_N) (Ls : Nat → Nat) (Q : ke_F) (O : Int32) (mem st pc reg fp hb bv : ke_F) (c : Nat) : Prop := ∃ q p, q ≤ 4 ∧ p ≤ 16 ∧ st c = nI q ∧ pc c = nI p ∧ (q = 2 → p ≤ Ls c ∧ O = -1 ∧ sq_J (P c) (Ls c) mem reg fp hb bv c p ∧ ∀ j, j < 64 → ¬ hb (c * 64 + j) = 0 → sq_W (fp (c * 17 + j / 4))) ∧ (q = 4 → p ≤ Ls c ∧ O = nI c ∧ sq_K (P c) (Ls c) Q mem reg c p)
def sq_G (P : Nat → Nat → sq_N) (Ls : Nat → Nat) (Q : ke_F) (O : Int32) (mem st pc reg fp hb bv : ke_F) : Prop := (∀ c, c < 4 → sq_C P Ls Q O mem st pc reg fp hb bv c) ∧ (∀ c d, c < 4 → d < 4 → c ≠ d → st c = 2 → st d = 2 → ∀ l, l < 16 → sq_W (fp (c * 17 + l)) → fp (d * 17 + l) = 0) ∧ ((O = -1 ∧ Q = mem) ∨ ∃ c, c < 4 ∧ O = nI c ∧ st c = 4)
theorem sq_C_off {P : Nat → Nat → sq_N} {Ls : Nat → Nat} {Q : ke_F} {O : Int32} {mem st pc reg fp hb bv : ke_F} {c q p : Nat} (hs : st c = nI q) (hq : q = 0 ∨ q = 1 ∨ q = 3) (hp : pc c = nI p) (hp6 : p ≤ 16) : sq_C P Ls Q O mem st pc reg fp hb bv c :=
  ⟨q, p, by omega, hp6, hs, hp, fun h => by omega, fun h => by omega⟩
theorem sq_C_frame {P : Nat → Nat → sq_N} {Ls : Nat → Nat} {Q Q' : ke_F} {O O' : Int32} {mem st pc reg fp hb bv mem' st' pc' reg' fp' hb' bv' : ke_F} {d : Nat} (h : sq_C P Ls Q O mem st pc reg fp hb bv d) (hst : st' d = st d) (hpc : pc' d = pc d) (hr : ∀ j, j < 4 → reg' (d * 4 + j) = reg (d * 4 + j)) (hf : ∀ l, l < 16 → fp' (d * 17 + l) = fp (d * 17 + l)) (hb : ∀ j, j < 64 → hb' (d * 64 + j) = hb (d * 64 + j) ∧ bv' (d * 64 + j) = bv (d * 64 + j)) (h2 : st d = 2 → O' = O ∧ ∀ j, j < 64 → ¬ fp (d * 17 + j / 4) = 0 → mem' j = mem j) (h4 : st d = 4 → O' = O ∧ mem' = mem ∧ Q' = Q) : sq_C P Ls Q' O' mem' st' pc' reg' fp' hb' bv' d := by
  obtain ⟨q, p, hq, hp, es, ep, a2, a4⟩ := h
  refine ⟨q, p, hq, hp, hst.trans es, hpc.trans ep, fun e => ?_, fun e => ?_⟩
  · subst e
    obtain ⟨b1, b2, b3, b4⟩ := a2 rfl
    obtain ⟨c1, c2⟩ := h2 es
    refine ⟨b1, c1.trans b2, sq_J_frame hr (fun l hl z => by rw [hf l hl]; exact z) hb c2 b3, fun j hj z => ?_⟩
    rw [hf _ (by omega)]
    exact b4 j hj (by rw [← (hb j hj).1]; exact z)
  · subst e
    obtain ⟨b1, b2, b3⟩ := a4 rfl
    obtain ⟨c1, c2, c3⟩ := h4 es
    subst c2 c3
    refine ⟨b1, c1.trans b2, ?_⟩
    obtain ⟨g, hg⟩ := b3
    exact ⟨g, by rw [sq_row_eq hr]; exact hg⟩
theorem sq_m1 {c : Nat} (h : c < 4) : ¬ (-1 : Int32) = nI c := by
  have : c = 0 ∨ c = 1 ∨ c = 2 ∨ c = 3 := by omega
  rcases this with e | e | e | e <;> subst e <;> decide
/-- no core holds the lock where its owner is -1 -/
theorem sq_no4 {P : Nat → Nat → sq_N} {Ls : Nat → Nat} {Q : ke_F} {mem st pc reg fp hb bv : ke_F} {d : Nat} (hd : d < 4) (h : sq_C P Ls Q (-1) mem st pc reg fp hb bv d) : ¬ st d = 4 := by
  intro e
  obtain ⟨q, p, hq, hp, es, ep, a2, a4⟩ := h
  have : q = 4 := (nI_eq (by omega) (by omega)).mp (es.symm.trans e)
  exact sq_m1 hd (a4 this).2.1
/-- no other core speculates or holds the lock beside one that holds it -/
theorem sq_own {P : Nat → Nat → sq_N} {Ls : Nat → Nat} {Q : ke_F} {O : Int32} {mem st pc reg fp hb bv : ke_F} {c d : Nat} (hc : c < 4) (hd : d < 4) (hO : O = nI c) (h : sq_C P Ls Q O mem st pc reg fp hb bv d) : ¬ st d = 2 ∧ (st d = 4 → d = c) := by
  obtain ⟨q, p, hq, hp, es, ep, a2, a4⟩ := h
  constructor
  · intro e
    have : q = 2 := (nI_eq (by omega) (by omega)).mp (es.symm.trans e)
    exact sq_m1 hc ((a2 this).2.1.symm.trans hO)
  · intro e
    have : q = 4 := (nI_eq (by omega) (by omega)).mp (es.symm.trans e)
    exact (nI_eq (by omega) (by omega)).mp ((a4 this).2.1.symm.trans hO)
