section
variable {W S R O : Int32} {mem ops oa ob len st pc reg res fp bv yb hb att ca co cn : Nat → Int32} {c : Nat}
variable {L : Nat} {xs : Nat → Int32} {post : Int32 → Prop} {kc ks : Nat} {w2 s2 r2 : Int32}
theorem sq_143 {n3 : Nat} (hL : L ≤ 260) (hn3 : n3 ≤ 180) (hn : ∀ t, t < n3 → 80 + t < L) : ∀ e t, t + e = n3 + 2400 → ∀ (O : Int32) (mem st pc reg res fp bv hb att ca co cn Q : ke_F), sq_V L xs Q S O mem ops oa ob len st pc reg fp hb bv → wL_law_143 (fun r => r = 1) L xs (nI n3) (nI (n3 + 2400)) kc ks (e + 1) (nI t) W S R O mem ops oa ob len st pc reg res fp bv hb att ca co cn w2 s2 r2 (-1) Q (fun _ => 0) (fun _ => 0) (fun _ => 0) (fun _ => 0) (fun _ => 0) (fun _ => 0) (fun _ => 0) (fun _ => 0) (fun _ => 0) (fun _ => 0) (fun _ => 0) (fun _ => 0) (fun _ => 0) (fun _ => 0) (fun _ => 0) := by
  intro e
  induction e with
  | zero =>
    intro t ht O mem st pc reg res fp bv hb att ca co cn Q hV
    have e : t = n3 + 2400 := by omega
    subst e
    refine br_t (nI_le (Nat.le_refl _) (by omega)) ⟨5, ?_⟩
    exact sq_717 hV 4 0 rfl (fun d hd => absurd hd (Nat.not_lt_zero _))
  | succ e ih =>
    intro t ht O mem st pc reg res fp bv hb att ca co cn Q hV
    refine br_f (nI_ge (by omega) (by omega)) ?_
    have hJ := ih (t + 1) (by omega)
    by_cases h : t < n3
    · have h1 : ¬ nI n3 ≤ nI t := nI_ge h (by omega)
      have e80 : (80 : Int32) + nI t = nI (80 + t) := nI_add 80 t
      refine br_f h1 ⟨by rw [e80]; exact vp_in_nI (hn t h) (by omega), br_f h1 (br_f h1 ?_)⟩
      obtain ⟨c, hc, ec⟩ := pk_andE ((xs ((80 : Int32) + nI t).toNatClampNeg).toUInt32 >>> ((2 : Int32).toUInt32 &&& Int32.toUInt32 31)).toInt32 (m := 3) 2 (by decide)
      rw [ec]
      exact sq_204 hL hc hV hJ
    · have h1 : nI n3 ≤ nI t := nI_le (by omega) (by omega)
      refine br_t h1 (br_t h1 (br_t h1 ?_))
      obtain ⟨c, hc, ec⟩ := pk_andE (nI t) (m := 3) 2 (by decide)
      rw [ec]
      exact sq_204 hL hc hV hJ
theorem sq_init {post : St2 → Prop} {x y z a b d e : Int32} (hp : post (ke_cv x 1 4, ke_cv y 1 4, ke_cv z 0 7, -1, (fun _ => 0), (fun _ => 0), (fun _ => 0), (fun _ => 0), (fun _ => 0), (fun _ => 0), (fun _ => 0), (fun _ => 0), (fun _ => 0), (fun _ => 0), (fun _ => 0), (fun _ => 0), (fun _ => 0), (fun _ => 0), (fun _ => 0), (fun _ => 0))) : wpX_init post 16 904 (a, b, d, e) x y z := by
  refine ⟨by decide, ⟨by decide, ⟨by decide, ⟨by decide, ⟨by decide, ⟨by decide, ⟨by decide, ⟨by decide, ⟨by decide, ⟨by decide, ⟨by decide, ⟨by decide, ⟨by decide, ⟨by decide, ⟨by decide, ⟨by decide, ⟨by decide, ⟨by decide, ⟨by decide, ⟨by decide, ⟨by decide, ⟨by decide, ⟨by decide, ⟨by decide, ⟨by decide, ⟨by decide, ⟨by decide, ⟨by decide, ⟨by decide, ⟨by decide, ⟨by decide, ⟨by decide, ?_⟩⟩⟩⟩⟩⟩⟩⟩⟩⟩⟩⟩⟩⟩⟩⟩⟩⟩⟩⟩⟩⟩⟩⟩⟩⟩⟩⟩⟩⟩⟩⟩
  refine ke_Xcl ?_
  refine ke_Xcl ?_
  refine ke_Xcl ?_
  exact hp
theorem sq_G_0 : sq_G (sq_P L xs) (sq_len L xs) (fun _ => 0) (-1) (fun _ => 0) (fun _ => 0) (fun _ => 0) (fun _ => 0) (fun _ => 0) (fun _ => 0) (fun _ => 0) := by
  refine ⟨fun c hc => sq_C_off (q := 0) (p := 0) rfl (by omega) rfl (by omega), fun a d ha hd hne ea => ?_, Or.inl ⟨rfl, rfl⟩⟩
  exact absurd (show (0 : Int32) = 2 from ea) (by decide)
end
